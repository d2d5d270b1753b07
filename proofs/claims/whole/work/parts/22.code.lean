/-! printed by wip/whole/gen.py: the methods as plain functions, each proved to be what its bytecode does -/
theorem dX0_work_0 : decode cX0_work 0 = .ok (.aload_n 1, 1) := by decide +kernel
theorem dX0_work_1 : decode cX0_work 1 = .ok (.ldc 44, 2) := by decide +kernel
theorem dX0_work_3 : decode cX0_work 3 = .ok (.invokevirtual 46, 3) := by decide +kernel
theorem dX0_work_6 : decode cX0_work 6 = .ok (.ifCond .eq 12, 3) := by decide +kernel
theorem dX0_work_9 : decode cX0_work 9 = .ok (.aload_n 0, 1) := by decide +kernel
theorem dX0_work_10 : decode cX0_work 10 = .ok (.getfield 13, 3) := by decide +kernel
theorem dX0_work_13 : decode cX0_work 13 = .ok (.iconst (-1), 1) := by decide +kernel
theorem dX0_work_14 : decode cX0_work 14 = .ok (.invokestatic 52, 3) := by decide +kernel
theorem dX0_work_17 : decode cX0_work 17 = .ok (.return_, 1) := by decide +kernel
theorem dX0_work_18 : decode cX0_work 18 = .ok (.aload_n 0, 1) := by decide +kernel
theorem dX0_work_19 : decode cX0_work 19 = .ok (.getfield 18, 3) := by decide +kernel
theorem dX0_work_22 : decode cX0_work 22 = .ok (.aload_n 1, 1) := by decide +kernel
theorem dX0_work_23 : decode cX0_work 23 = .ok (.invokevirtual 58, 3) := by decide +kernel
theorem dX0_work_26 : decode cX0_work 26 = .ok (.istore_n 2, 1) := by decide +kernel
theorem dX0_work_27 : decode cX0_work 27 = .ok (.aload_n 0, 1) := by decide +kernel
theorem dX0_work_28 : decode cX0_work 28 = .ok (.getfield 18, 3) := by decide +kernel
theorem dX0_work_31 : decode cX0_work 31 = .ok (.getfield 62, 3) := by decide +kernel
theorem dX0_work_34 : decode cX0_work 34 = .ok (.ifCond .eq 13, 3) := by decide +kernel
theorem dX0_work_37 : decode cX0_work 37 = .ok (.aload_n 0, 1) := by decide +kernel
theorem dX0_work_38 : decode cX0_work 38 = .ok (.getfield 13, 3) := by decide +kernel
theorem dX0_work_41 : decode cX0_work 41 = .ok (.bipush (-3), 2) := by decide +kernel
theorem dX0_work_43 : decode cX0_work 43 = .ok (.invokestatic 52, 3) := by decide +kernel
theorem dX0_work_46 : decode cX0_work 46 = .ok (.return_, 1) := by decide +kernel
theorem dX0_work_47 : decode cX0_work 47 = .ok (.aload_n 0, 1) := by decide +kernel
theorem dX0_work_48 : decode cX0_work 48 = .ok (.invokevirtual 66, 3) := by decide +kernel
theorem dX0_work_51 : decode cX0_work 51 = .ok (.aload_n 0, 1) := by decide +kernel
theorem dX0_work_52 : decode cX0_work 52 = .ok (.iload_n 2, 1) := by decide +kernel
theorem dX0_work_53 : decode cX0_work 53 = .ok (.invokevirtual 69, 3) := by decide +kernel
theorem dX0_work_56 : decode cX0_work 56 = .ok (.aload_n 0, 1) := by decide +kernel
theorem dX0_work_57 : decode cX0_work 57 = .ok (.getfield 13, 3) := by decide +kernel
theorem dX0_work_60 : decode cX0_work 60 = .ok (.iconst 2, 1) := by decide +kernel
theorem dX0_work_61 : decode cX0_work 61 = .ok (.aload_n 0, 1) := by decide +kernel
theorem dX0_work_62 : decode cX0_work 62 = .ok (.getfield 18, 3) := by decide +kernel
theorem dX0_work_65 : decode cX0_work 65 = .ok (.getfield 73, 3) := by decide +kernel
theorem dX0_work_68 : decode cX0_work 68 = .ok (.iastore, 1) := by decide +kernel
theorem dX0_work_69 : decode cX0_work 69 = .ok (.aload_n 0, 1) := by decide +kernel
theorem dX0_work_70 : decode cX0_work 70 = .ok (.getfield 13, 3) := by decide +kernel
theorem dX0_work_73 : decode cX0_work 73 = .ok (.iconst 3, 1) := by decide +kernel
theorem dX0_work_74 : decode cX0_work 74 = .ok (.aload_n 0, 1) := by decide +kernel
theorem dX0_work_75 : decode cX0_work 75 = .ok (.iconst 0, 1) := by decide +kernel
theorem dX0_work_76 : decode cX0_work 76 = .ok (.invokevirtual 77, 3) := by decide +kernel
theorem dX0_work_79 : decode cX0_work 79 = .ok (.iastore, 1) := by decide +kernel
theorem dX0_work_80 : decode cX0_work 80 = .ok (.aload_n 0, 1) := by decide +kernel
theorem dX0_work_81 : decode cX0_work 81 = .ok (.invokevirtual 81, 3) := by decide +kernel
theorem dX0_work_84 : decode cX0_work 84 = .ok (.aload_n 0, 1) := by decide +kernel
theorem dX0_work_85 : decode cX0_work 85 = .ok (.getfield 13, 3) := by decide +kernel
theorem dX0_work_88 : decode cX0_work 88 = .ok (.iconst 4, 1) := by decide +kernel
theorem dX0_work_89 : decode cX0_work 89 = .ok (.aload_n 0, 1) := by decide +kernel
theorem dX0_work_90 : decode cX0_work 90 = .ok (.iconst 0, 1) := by decide +kernel
theorem dX0_work_91 : decode cX0_work 91 = .ok (.invokevirtual 77, 3) := by decide +kernel
theorem dX0_work_94 : decode cX0_work 94 = .ok (.iastore, 1) := by decide +kernel
theorem dX0_work_95 : decode cX0_work 95 = .ok (.aload_n 0, 1) := by decide +kernel
theorem dX0_work_96 : decode cX0_work 96 = .ok (.getfield 13, 3) := by decide +kernel
theorem dX0_work_99 : decode cX0_work 99 = .ok (.iconst 5, 1) := by decide +kernel
theorem dX0_work_100 : decode cX0_work 100 = .ok (.aload_n 0, 1) := by decide +kernel
theorem dX0_work_101 : decode cX0_work 101 = .ok (.iconst 1, 1) := by decide +kernel
theorem dX0_work_102 : decode cX0_work 102 = .ok (.invokevirtual 77, 3) := by decide +kernel
theorem dX0_work_105 : decode cX0_work 105 = .ok (.iastore, 1) := by decide +kernel
theorem dX0_work_106 : decode cX0_work 106 = .ok (.aload_n 0, 1) := by decide +kernel
theorem dX0_work_107 : decode cX0_work 107 = .ok (.getfield 13, 3) := by decide +kernel
theorem dX0_work_110 : decode cX0_work 110 = .ok (.iconst 0, 1) := by decide +kernel
theorem dX0_work_111 : decode cX0_work 111 = .ok (.aload_n 0, 1) := by decide +kernel
theorem dX0_work_112 : decode cX0_work 112 = .ok (.getfield 13, 3) := by decide +kernel
theorem dX0_work_115 : decode cX0_work 115 = .ok (.iconst 5, 1) := by decide +kernel
theorem dX0_work_116 : decode cX0_work 116 = .ok (.iaload, 1) := by decide +kernel
theorem dX0_work_117 : decode cX0_work 117 = .ok (.ifCond .le 7, 3) := by decide +kernel
theorem dX0_work_120 : decode cX0_work 120 = .ok (.iconst 1, 1) := by decide +kernel
theorem dX0_work_121 : decode cX0_work 121 = .ok (.goto 4, 3) := by decide +kernel
theorem dX0_work_124 : decode cX0_work 124 = .ok (.iconst 0, 1) := by decide +kernel
theorem dX0_work_125 : decode cX0_work 125 = .ok (.iastore, 1) := by decide +kernel
theorem dX0_work_126 : decode cX0_work 126 = .ok (.aload_n 0, 1) := by decide +kernel
theorem dX0_work_127 : decode cX0_work 127 = .ok (.getfield 13, 3) := by decide +kernel
theorem dX0_work_130 : decode cX0_work 130 = .ok (.iconst 1, 1) := by decide +kernel
theorem dX0_work_131 : decode cX0_work 131 = .ok (.aload_n 0, 1) := by decide +kernel
theorem dX0_work_132 : decode cX0_work 132 = .ok (.getfield 13, 3) := by decide +kernel
theorem dX0_work_135 : decode cX0_work 135 = .ok (.iconst 5, 1) := by decide +kernel
theorem dX0_work_136 : decode cX0_work 136 = .ok (.iaload, 1) := by decide +kernel
theorem dX0_work_137 : decode cX0_work 137 = .ok (.aload_n 0, 1) := by decide +kernel
theorem dX0_work_138 : decode cX0_work 138 = .ok (.getfield 13, 3) := by decide +kernel
theorem dX0_work_141 : decode cX0_work 141 = .ok (.iconst 4, 1) := by decide +kernel
theorem dX0_work_142 : decode cX0_work 142 = .ok (.iaload, 1) := by decide +kernel
theorem dX0_work_143 : decode cX0_work 143 = .ok (.if_icmp .ne 7, 3) := by decide +kernel
theorem dX0_work_146 : decode cX0_work 146 = .ok (.iconst 1, 1) := by decide +kernel
theorem dX0_work_147 : decode cX0_work 147 = .ok (.goto 4, 3) := by decide +kernel
theorem dX0_work_150 : decode cX0_work 150 = .ok (.iconst 0, 1) := by decide +kernel
theorem dX0_work_151 : decode cX0_work 151 = .ok (.iastore, 1) := by decide +kernel
theorem dX0_work_152 : decode cX0_work 152 = .ok (.return_, 1) := by decide +kernel
def f_X0_work_125 (F P : Nat) (S : xSt) (v0 : Nat) (s0 : Int32) (s1 : Int32) (s2 : Nat) (D : xDt) : Option (xDt) :=
  xgrd (xin s1 (xl S s2)) (xlet (xup D.1 s2 (s1).toNatClampNeg s0, D.2) fun D2 => xgrd (xin 5 (xl S (xr S v0 0))) (xgrd (xin 4 (xl S (xr S v0 0))) (if (D2.1 (xr S v0 0) (5 : Int32).toNatClampNeg) = (D2.1 (xr S v0 0) (4 : Int32).toNatClampNeg) then (xgrd (xin 1 (xl S (xr S v0 0))) (xlet (xup D2.1 (xr S v0 0) (1 : Int32).toNatClampNeg 1, D2.2) fun D8 => some D8)) else (xgrd (xin 1 (xl S (xr S v0 0))) (xlet (xup D2.1 (xr S v0 0) (1 : Int32).toNatClampNeg 0, D2.2) fun D6 => some D6)))))
set_option maxHeartbeats 4000000 in
theorem t_X0_work_125 {F P : Nat} {S : xSt} (hS : xWF S) {v0 : Nat} {s0 : Int32} {s1 : Int32} {s2 : Nat} {D : xDt} {r : xDt} (k0 : xK S v0 0) (ks2 : xK S s2 100) (h : f_X0_work_125 F P S v0 s0 s1 s2 D = some r) : yEx md_X0_work 5 125 [(0, .ref v0)] [.int s0, .int s1, .ref s2] S D (xQv S r) := by
  unfold f_X0_work_125 at h
  refine xgrd_e h (fun g1 h => ?_)
  refine xlet_e h (fun D2 eD2 h => ?_)
  refine y_iast dX0_work_125 ks2 g1 eD2 ?_
  refine x_aload_n dX0_work_126 0 rfl ?_
  refine y_getr (kd := 100) hS fl_RX0_13 dX0_work_127 rfl k0 ?_
  refine x_iconst 1 dX0_work_130 (by decide) ?_
  refine x_aload_n dX0_work_131 0 rfl ?_
  refine y_getr (kd := 100) hS fl_RX0_13 dX0_work_132 rfl k0 ?_
  refine x_iconst 5 dX0_work_135 (by decide) ?_
  refine xgrd_e h (fun g3 h => ?_)
  refine y_iald dX0_work_136 ((hS.f k0 0 100 rfl).2) g3 ?_
  refine x_aload_n dX0_work_137 0 rfl ?_
  refine y_getr (kd := 100) hS fl_RX0_13 dX0_work_138 rfl k0 ?_
  refine x_iconst 4 dX0_work_141 (by decide) ?_
  refine xgrd_e h (fun g4 h => ?_)
  refine y_iald dX0_work_142 ((hS.f k0 0 100 rfl).2) g4 ?_
  refine x_icmp_ne 150 dX0_work_143 (by decide) (fun c => ?_) (fun c => ?_)
  · rw [if_neg c] at h
    refine x_iconst 0 dX0_work_150 (by decide) ?_
    refine xgrd_e h (fun g5 h => ?_)
    refine xlet_e h (fun D6 eD6 h => ?_)
    refine y_iast dX0_work_151 ((hS.f k0 0 100 rfl).2) g5 eD6 ?_
    obtain rfl := Option.some.inj h
    exact y_vret rfl dX0_work_152
  · rw [if_pos c] at h
    refine x_iconst 1 dX0_work_146 (by decide) ?_
    refine x_goto 151 dX0_work_147 (by decide) ?_
    refine xgrd_e h (fun g7 h => ?_)
    refine xlet_e h (fun D8 eD8 h => ?_)
    refine y_iast dX0_work_151 ((hS.f k0 0 100 rfl).2) g7 eD8 ?_
    obtain rfl := Option.some.inj h
    exact y_vret rfl dX0_work_152

def f_X0_work (F P : Nat) (S : xSt) (v0 : Nat) (v1 : Nat) (D : xDt) : Option (xDt) :=
  (f_X2_hasAny F P S v1 2 D).bind fun q1 => if q1.1 = 0 then ((f_X8_build F P S (xr S v0 1) v1 q1.2).bind fun q2 => if (q2.2.1 (xr S v0 1) 9) = 0 then ((f_X0_findKnownBits F P S v0 q2.2).bind fun q3 => (f_X0_makeTypes F P S v0 q2.1 q3).bind fun q4 => xgrd (xin 2 (xl S (xr S v0 0))) (xlet (xup q4.1 (xr S v0 0) (2 : Int32).toNatClampNeg (q4.1 (xr S v0 1) 8), q4.2) fun D6 => (f_X0_sizeOf F P S v0 0 D6).bind fun q7 => xgrd (xin 3 (xl S (xr S v0 0))) (xlet (xup q7.2.1 (xr S v0 0) (3 : Int32).toNatClampNeg q7.1, q7.2.2) fun D9 => (f_X0_sift F P S v0 D9).bind fun q10 => (f_X0_sizeOf F P S v0 0 q10).bind fun q11 => xgrd (xin 4 (xl S (xr S v0 0))) (xlet (xup q11.2.1 (xr S v0 0) (4 : Int32).toNatClampNeg q11.1, q11.2.2) fun D13 => (f_X0_sizeOf F P S v0 1 D13).bind fun q14 => xgrd (xin 5 (xl S (xr S v0 0))) (xlet (xup q14.2.1 (xr S v0 0) (5 : Int32).toNatClampNeg q14.1, q14.2.2) fun D16 => xgrd (xin 5 (xl S (xr S v0 0))) (if (D16.1 (xr S v0 0) (5 : Int32).toNatClampNeg) ≤ 0 then (f_X0_work_125 F P S v0 0 0 (xr S v0 0) D16) else (f_X0_work_125 F P S v0 1 0 (xr S v0 0) D16))))))) else ((f_J7_fill_53178 F P S (xr S v0 0) (-3) q2.2).bind fun q18 => some q18)) else ((f_J7_fill_53178 F P S (xr S v0 0) (-1) q1.2).bind fun q19 => some q19)
set_option maxHeartbeats 4000000 in
theorem S_X0_work {F P : Nat} {S : xSt} (hS : xWF S) {v0 : Nat} {v1 : Nat} {D : xDt} {r : xDt} (k0 : xK S v0 0) (k1 : xK S v1 2) (h : f_X0_work F P S v0 v1 D = some r) : xSp md_X0_work (5, 0, 0) [.ref v0, .ref v1] (S, D) (xQv S r) := by
  unfold f_X0_work at h
  refine xEntry (by decide) (Nat.le_of_ble_eq_true rfl) ?_
  refine x_lv (lv' := [(0, .ref v0), (1, .ref v1)]) [0, 1] rfl ?_
  refine x_aload_n dX0_work_0 1 rfl ?_
  refine y_ldcS 2 (by decide) rfl rfl dX0_work_1 ?_
  refine xbnd_e h (fun q1 e1 h => ?_)
  refine y_callVi (As := [.float (xsS 2)]) (q := q1) cv_RX0_46 dX0_work_3 k1 rfl (Nat.le_of_ble_eq_true rfl) (by omega) (S_X2_hasAny hS k1 (by decide) e1) ?_
  refine x_if_eq 18 dX0_work_6 (by decide) (fun c => ?_) (fun c => ?_)
  · rw [if_pos c] at h
    refine x_aload_n dX0_work_18 0 rfl ?_
    refine y_getr (kd := 8) hS fl_RX0_18 dX0_work_19 rfl k0 ?_
    refine x_aload_n dX0_work_22 1 rfl ?_
    refine xbnd_e h (fun q2 e2 h => ?_)
    refine y_callVi (As := [.ref v1]) (q := q2) cv_RX0_58 dX0_work_23 ((hS.f k0 1 8 rfl).2) rfl (Nat.le_of_ble_eq_true rfl) (by omega) (S_X8_build hS ((hS.f k0 1 8 rfl).2) k1 e2) ?_
    refine y_istore_n q2.1 rfl [(2, .int q2.1), (0, .ref v0), (1, .ref v1)] dX0_work_26 (by show _ < 3; decide) rfl ?_
    refine x_aload_n dX0_work_27 1 rfl ?_
    refine y_getr (kd := 8) hS fl_RX0_18 dX0_work_28 rfl k0 ?_
    refine y_geti fl_RX0_62 dX0_work_31 rfl ((hS.f k0 1 8 rfl).2) ?_
    refine x_if_eq 47 dX0_work_34 (by decide) (fun c => ?_) (fun c => ?_)
    · rw [if_pos c] at h
      refine x_aload_n dX0_work_47 1 rfl ?_
      refine xbnd_e h (fun q3 e3 h => ?_)
      refine y_callVv (As := []) (q := q3) cv_RX0_66 dX0_work_48 k0 rfl (Nat.le_of_ble_eq_true rfl) (by omega) (S_X0_findKnownBits hS k0 e3) ?_
      refine x_aload_n dX0_work_51 1 rfl ?_
      refine x_iload_n dX0_work_52 0 rfl ?_
      refine xbnd_e h (fun q4 e4 h => ?_)
      refine y_callVv (As := [.int q2.1]) (q := q4) cv_RX0_69 dX0_work_53 k0 rfl (Nat.le_of_ble_eq_true rfl) (by omega) (S_X0_makeTypes hS k0 e4) ?_
      refine x_aload_n dX0_work_56 1 rfl ?_
      refine y_getr (kd := 100) hS fl_RX0_13 dX0_work_57 rfl k0 ?_
      refine x_iconst 2 dX0_work_60 (by decide) ?_
      refine x_aload_n dX0_work_61 1 rfl ?_
      refine y_getr (kd := 8) hS fl_RX0_18 dX0_work_62 rfl k0 ?_
      refine y_geti fl_RX0_73 dX0_work_65 rfl ((hS.f k0 1 8 rfl).2) ?_
      refine xgrd_e h (fun g5 h => ?_)
      refine xlet_e h (fun D6 eD6 h => ?_)
      refine y_iast dX0_work_68 ((hS.f k0 0 100 rfl).2) g5 eD6 ?_
      refine x_aload_n dX0_work_69 1 rfl ?_
      refine y_getr (kd := 100) hS fl_RX0_13 dX0_work_70 rfl k0 ?_
      refine x_iconst 3 dX0_work_73 (by decide) ?_
      refine x_aload_n dX0_work_74 1 rfl ?_
      refine x_iconst 0 dX0_work_75 (by decide) ?_
      refine xbnd_e h (fun q7 e7 h => ?_)
      refine y_callVi (As := [.int 0]) (q := q7) cv_RX0_77 dX0_work_76 k0 rfl (Nat.le_of_ble_eq_true rfl) (by omega) (S_X0_sizeOf hS k0 e7) ?_
      refine xgrd_e h (fun g8 h => ?_)
      refine xlet_e h (fun D9 eD9 h => ?_)
      refine y_iast dX0_work_79 ((hS.f k0 0 100 rfl).2) g8 eD9 ?_
      refine x_aload_n dX0_work_80 1 rfl ?_
      refine xbnd_e h (fun q10 e10 h => ?_)
      refine y_callVv (As := []) (q := q10) cv_RX0_81 dX0_work_81 k0 rfl (Nat.le_of_ble_eq_true rfl) (by omega) (S_X0_sift hS k0 e10) ?_
      refine x_aload_n dX0_work_84 1 rfl ?_
      refine y_getr (kd := 100) hS fl_RX0_13 dX0_work_85 rfl k0 ?_
      refine x_iconst 4 dX0_work_88 (by decide) ?_
      refine x_aload_n dX0_work_89 1 rfl ?_
      refine x_iconst 0 dX0_work_90 (by decide) ?_
      refine xbnd_e h (fun q11 e11 h => ?_)
      refine y_callVi (As := [.int 0]) (q := q11) cv_RX0_77 dX0_work_91 k0 rfl (Nat.le_of_ble_eq_true rfl) (by omega) (S_X0_sizeOf hS k0 e11) ?_
      refine xgrd_e h (fun g12 h => ?_)
      refine xlet_e h (fun D13 eD13 h => ?_)
      refine y_iast dX0_work_94 ((hS.f k0 0 100 rfl).2) g12 eD13 ?_
      refine x_aload_n dX0_work_95 1 rfl ?_
      refine y_getr (kd := 100) hS fl_RX0_13 dX0_work_96 rfl k0 ?_
      refine x_iconst 5 dX0_work_99 (by decide) ?_
      refine x_aload_n dX0_work_100 1 rfl ?_
      refine x_iconst 1 dX0_work_101 (by decide) ?_
      refine xbnd_e h (fun q14 e14 h => ?_)
      refine y_callVi (As := [.int 1]) (q := q14) cv_RX0_77 dX0_work_102 k0 rfl (Nat.le_of_ble_eq_true rfl) (by omega) (S_X0_sizeOf hS k0 e14) ?_
      refine xgrd_e h (fun g15 h => ?_)
      refine xlet_e h (fun D16 eD16 h => ?_)
      refine y_iast dX0_work_105 ((hS.f k0 0 100 rfl).2) g15 eD16 ?_
      refine x_aload_n dX0_work_106 1 rfl ?_
      refine y_getr (kd := 100) hS fl_RX0_13 dX0_work_107 rfl k0 ?_
      refine x_iconst 0 dX0_work_110 (by decide) ?_
      refine x_aload_n dX0_work_111 1 rfl ?_
      refine y_getr (kd := 100) hS fl_RX0_13 dX0_work_112 rfl k0 ?_
      refine x_iconst 5 dX0_work_115 (by decide) ?_
      refine xgrd_e h (fun g17 h => ?_)
      refine y_iald dX0_work_116 ((hS.f k0 0 100 rfl).2) g17 ?_
      refine x_if_le 124 dX0_work_117 (by decide) (fun c => ?_) (fun c => ?_)
      · rw [if_pos c] at h
        refine x_iconst 0 dX0_work_124 (by decide) ?_
        refine x_lv (lv' := [(0, .ref v0)]) [1] rfl ?_
        exact t_X0_work_125 hS k0 ((hS.f k0 0 100 rfl).2) h
      · rw [if_neg c] at h
        refine x_iconst 1 dX0_work_120 (by decide) ?_
        refine x_goto 125 dX0_work_121 (by decide) ?_
        refine x_lv (lv' := [(0, .ref v0)]) [1] rfl ?_
        exact t_X0_work_125 hS k0 ((hS.f k0 0 100 rfl).2) h
    · rw [if_neg c] at h
      refine x_aload_n dX0_work_37 1 rfl ?_
      refine y_getr (kd := 100) hS fl_RX0_13 dX0_work_38 rfl k0 ?_
      refine x_bipush (-3) dX0_work_41 (by decide) ?_
      refine xbnd_e h (fun q18 e18 h => ?_)
      refine y_callSv (As := [.ref (xr S v0 0), .int (-3)]) (q := q18) cs_RX0_52 dX0_work_43 rfl (Nat.le_of_ble_eq_true rfl) (by omega) (S_J7_fill_53178 hS ((hS.f k0 0 100 rfl).2) e18) ?_
      obtain rfl := Option.some.inj h
      exact y_vret rfl dX0_work_46
  · rw [if_neg c] at h
    refine x_aload_n dX0_work_9 0 rfl ?_
    refine y_getr (kd := 100) hS fl_RX0_13 dX0_work_10 rfl k0 ?_
    refine x_iconst (-1) dX0_work_13 (by decide) ?_
    refine xbnd_e h (fun q19 e19 h => ?_)
    refine y_callSv (As := [.ref (xr S v0 0), .int (-1)]) (q := q19) cs_RX0_52 dX0_work_14 rfl (Nat.le_of_ble_eq_true rfl) (by omega) (S_J7_fill_53178 hS ((hS.f k0 0 100 rfl).2) e19) ?_
    obtain rfl := Option.some.inj h
    exact y_vret rfl dX0_work_17

theorem dX1_has_0 : decode cX1_has 0 = .ok (.iload_n 1, 1) := by decide +kernel
theorem dX1_has_1 : decode cX1_has 1 = .ok (.ifCond .lt 15, 3) := by decide +kernel
theorem dX1_has_4 : decode cX1_has 4 = .ok (.iload_n 1, 1) := by decide +kernel
theorem dX1_has_5 : decode cX1_has 5 = .ok (.aload_n 0, 1) := by decide +kernel
theorem dX1_has_6 : decode cX1_has 6 = .ok (.getfield 34, 3) := by decide +kernel
theorem dX1_has_9 : decode cX1_has 9 = .ok (.if_icmp .ge 7, 3) := by decide +kernel
theorem dX1_has_12 : decode cX1_has 12 = .ok (.iconst 1, 1) := by decide +kernel
theorem dX1_has_13 : decode cX1_has 13 = .ok (.goto 4, 3) := by decide +kernel
theorem dX1_has_16 : decode cX1_has 16 = .ok (.iconst 0, 1) := by decide +kernel
theorem dX1_has_17 : decode cX1_has 17 = .ok (.ireturn, 1) := by decide +kernel
def f_X1_has_16 (F P : Nat) (S : xSt) (D : xDt) : Option (Int32 × xDt) :=
  some (0, D)
set_option maxHeartbeats 4000000 in
theorem t_X1_has_16 {F P : Nat} {S : xSt} (hS : xWF S) {D : xDt} {r : Int32 × xDt} (h : f_X1_has_16 F P S D = some r) : yEx md_X1_has 0 16 [] [] S D (xQi S r) := by
  unfold f_X1_has_16 at h
  refine x_iconst 0 dX1_has_16 (by decide) ?_
  obtain rfl := Option.some.inj h
  exact y_zret rfl rfl dX1_has_17

def f_X1_has (F P : Nat) (S : xSt) (v0 : Nat) (v1 : Int32) (D : xDt) : Option (Int32 × xDt) :=
  if v1 < 0 then (f_X1_has_16 F P S D) else (if (D.1 v0 0) ≤ v1 then (f_X1_has_16 F P S D) else (some (1, D)))
set_option maxHeartbeats 4000000 in
theorem S_X1_has {F P : Nat} {S : xSt} (hS : xWF S) {v0 : Nat} {v1 : Int32} {D : xDt} {r : Int32 × xDt} (k0 : xK S v0 1) (h : f_X1_has F P S v0 v1 D = some r) : xSp md_X1_has (0, 0, 0) [.ref v0, .int v1] (S, D) (xQi S r) := by
  unfold f_X1_has at h
  refine xEntry (by decide) (Nat.le_of_ble_eq_true rfl) ?_
  refine x_lv (lv' := [(0, .ref v0), (1, .int v1)]) [0, 1] rfl ?_
  refine x_iload_n dX1_has_0 1 rfl ?_
  refine x_if_lt 16 dX1_has_1 (by decide) (fun c => ?_) (fun c => ?_)
  · rw [if_pos c] at h
    refine x_lv (lv' := []) [] rfl ?_
    exact t_X1_has_16 hS h
  · rw [if_neg c] at h
    refine x_iload_n dX1_has_4 1 rfl ?_
    refine x_aload_n dX1_has_5 0 rfl ?_
    refine y_geti fl_RX1_34 dX1_has_6 rfl k0 ?_
    refine x_icmp_ge 16 dX1_has_9 (by decide) (fun c => ?_) (fun c => ?_)
    · rw [if_pos c] at h
      refine x_lv (lv' := []) [] rfl ?_
      exact t_X1_has_16 hS h
    · rw [if_neg c] at h
      refine x_iconst 1 dX1_has_12 (by decide) ?_
      refine x_goto 17 dX1_has_13 (by decide) ?_
      obtain rfl := Option.some.inj h
      exact y_zret rfl rfl dX1_has_17

theorem dX2_addAll_0 : decode cX2_addAll 0 = .ok (.iload_n 3, 1) := by decide +kernel
theorem dX2_addAll_1 : decode cX2_addAll 1 = .ok (.iload_n 2, 1) := by decide +kernel
theorem dX2_addAll_2 : decode cX2_addAll 2 = .ok (.isub, 1) := by decide +kernel
theorem dX2_addAll_3 : decode cX2_addAll 3 = .ok (.istore 4, 2) := by decide +kernel
theorem dX2_addAll_5 : decode cX2_addAll 5 = .ok (.iload_n 2, 1) := by decide +kernel
theorem dX2_addAll_6 : decode cX2_addAll 6 = .ok (.ifCond .lt 29, 3) := by decide +kernel
theorem dX2_addAll_9 : decode cX2_addAll 9 = .ok (.iload 4, 2) := by decide +kernel
theorem dX2_addAll_11 : decode cX2_addAll 11 = .ok (.ifCond .lt 24, 3) := by decide +kernel
theorem dX2_addAll_14 : decode cX2_addAll 14 = .ok (.iload_n 3, 1) := by decide +kernel
theorem dX2_addAll_15 : decode cX2_addAll 15 = .ok (.aload_n 1, 1) := by decide +kernel
theorem dX2_addAll_16 : decode cX2_addAll 16 = .ok (.arraylength, 1) := by decide +kernel
theorem dX2_addAll_17 : decode cX2_addAll 17 = .ok (.if_icmp .gt 18, 3) := by decide +kernel
theorem dX2_addAll_20 : decode cX2_addAll 20 = .ok (.iload 4, 2) := by decide +kernel
theorem dX2_addAll_22 : decode cX2_addAll 22 = .ok (.aload_n 0, 1) := by decide +kernel
theorem dX2_addAll_23 : decode cX2_addAll 23 = .ok (.getfield 13, 3) := by decide +kernel
theorem dX2_addAll_26 : decode cX2_addAll 26 = .ok (.arraylength, 1) := by decide +kernel
theorem dX2_addAll_27 : decode cX2_addAll 27 = .ok (.aload_n 0, 1) := by decide +kernel
theorem dX2_addAll_28 : decode cX2_addAll 28 = .ok (.getfield 19, 3) := by decide +kernel
theorem dX2_addAll_31 : decode cX2_addAll 31 = .ok (.isub, 1) := by decide +kernel
theorem dX2_addAll_32 : decode cX2_addAll 32 = .ok (.if_icmp .le 5, 3) := by decide +kernel
theorem dX2_addAll_35 : decode cX2_addAll 35 = .ok (.iconst 0, 1) := by decide +kernel
theorem dX2_addAll_36 : decode cX2_addAll 36 = .ok (.ireturn, 1) := by decide +kernel
theorem dX2_addAll_37 : decode cX2_addAll 37 = .ok (.aload_n 1, 1) := by decide +kernel
theorem dX2_addAll_38 : decode cX2_addAll 38 = .ok (.iload_n 2, 1) := by decide +kernel
theorem dX2_addAll_39 : decode cX2_addAll 39 = .ok (.aload_n 0, 1) := by decide +kernel
theorem dX2_addAll_40 : decode cX2_addAll 40 = .ok (.getfield 13, 3) := by decide +kernel
theorem dX2_addAll_43 : decode cX2_addAll 43 = .ok (.aload_n 0, 1) := by decide +kernel
theorem dX2_addAll_44 : decode cX2_addAll 44 = .ok (.getfield 19, 3) := by decide +kernel
theorem dX2_addAll_47 : decode cX2_addAll 47 = .ok (.iload 4, 2) := by decide +kernel
theorem dX2_addAll_49 : decode cX2_addAll 49 = .ok (.invokestatic 23, 3) := by decide +kernel
theorem dX2_addAll_52 : decode cX2_addAll 52 = .ok (.aload_n 0, 1) := by decide +kernel
theorem dX2_addAll_53 : decode cX2_addAll 53 = .ok (.dup, 1) := by decide +kernel
theorem dX2_addAll_54 : decode cX2_addAll 54 = .ok (.getfield 19, 3) := by decide +kernel
theorem dX2_addAll_57 : decode cX2_addAll 57 = .ok (.iload 4, 2) := by decide +kernel
theorem dX2_addAll_59 : decode cX2_addAll 59 = .ok (.iadd, 1) := by decide +kernel
theorem dX2_addAll_60 : decode cX2_addAll 60 = .ok (.putfield 19, 3) := by decide +kernel
theorem dX2_addAll_63 : decode cX2_addAll 63 = .ok (.iconst 1, 1) := by decide +kernel
theorem dX2_addAll_64 : decode cX2_addAll 64 = .ok (.ireturn, 1) := by decide +kernel
def f_X2_addAll (F P : Nat) (S : xSt) (v0 : Nat) (v1 : Nat) (v2 : Int32) (v3 : Int32) (D : xDt) : Option (Int32 × xDt) :=
  xlet (v3 - v2) fun v4_1 => if v2 < 0 then (some (0, D)) else (if v4_1 < 0 then (some (0, D)) else (if (Int32.ofNat (xl S v1)) < v3 then (some (0, D)) else (if v4_1 ≤ ((Int32.ofNat (xl S (xr S v0 0))) - (D.1 v0 1)) then (xgrd (xcpin v2 (D.1 v0 1) v4_1 (xl S v1) (xl S (xr S v0 0))) (xlet (xcp D.1 v1 (xr S v0 0) (v2).toNatClampNeg (D.1 v0 1).toNatClampNeg (v4_1).toNatClampNeg, D.2) fun D3 => xlet (xup D3.1 v0 1 ((D3.1 v0 1) + v4_1), D3.2) fun D4 => some (1, D4))) else (some (0, D)))))
set_option maxHeartbeats 4000000 in
theorem S_X2_addAll {F P : Nat} {S : xSt} (hS : xWF S) {v0 : Nat} {v1 : Nat} {v2 : Int32} {v3 : Int32} {D : xDt} {r : Int32 × xDt} (k0 : xK S v0 2) (k1 : xK S v1 100) (h : f_X2_addAll F P S v0 v1 v2 v3 D = some r) : xSp md_X2_addAll (1, 0, 0) [.ref v0, .ref v1, .int v2, .int v3] (S, D) (xQi S r) := by
  unfold f_X2_addAll at h
  refine xEntry (by decide) (Nat.le_of_ble_eq_true rfl) ?_
  refine x_lv (lv' := [(0, .ref v0), (1, .ref v1), (2, .int v2), (3, .int v3)]) [0, 1, 2, 3] rfl ?_
  refine x_iload_n dX2_addAll_0 3 rfl ?_
  refine x_iload_n dX2_addAll_1 2 rfl ?_
  refine x_isub dX2_addAll_2 ?_
  refine xlet_e h (fun v4_1 ev4_1 h => ?_)
  refine y_istore v4_1 ev4_1 [(4, .int v4_1), (0, .ref v0), (1, .ref v1), (2, .int v2), (3, .int v3)] dX2_addAll_3 (by show _ < 5; decide) rfl ?_
  refine x_iload_n dX2_addAll_5 3 rfl ?_
  refine x_if_lt 35 dX2_addAll_6 (by decide) (fun c => ?_) (fun c => ?_)
  · rw [if_pos c] at h
    refine x_iconst 0 dX2_addAll_35 (by decide) ?_
    obtain rfl := Option.some.inj h
    exact y_zret rfl rfl dX2_addAll_36
  · rw [if_neg c] at h
    refine x_iload dX2_addAll_9 0 rfl ?_
    refine x_if_lt 35 dX2_addAll_11 (by decide) (fun c => ?_) (fun c => ?_)
    · rw [if_pos c] at h
      refine x_iconst 0 dX2_addAll_35 (by decide) ?_
      obtain rfl := Option.some.inj h
      exact y_zret rfl rfl dX2_addAll_36
    · rw [if_neg c] at h
      refine x_iload_n dX2_addAll_14 4 rfl ?_
      refine x_aload_n dX2_addAll_15 2 rfl ?_
      refine y_alen dX2_addAll_16 k1 (by decide) ?_
      refine x_icmp_gt 35 dX2_addAll_17 (by decide) (fun c => ?_) (fun c => ?_)
      · rw [if_pos c] at h
        refine x_iconst 0 dX2_addAll_35 (by decide) ?_
        obtain rfl := Option.some.inj h
        exact y_zret rfl rfl dX2_addAll_36
      · rw [if_neg c] at h
        refine x_iload dX2_addAll_20 0 rfl ?_
        refine x_aload_n dX2_addAll_22 1 rfl ?_
        refine y_getr (kd := 100) hS fl_RX2_13 dX2_addAll_23 rfl k0 ?_
        refine y_alen dX2_addAll_26 ((hS.f k0 0 100 rfl).2) (by decide) ?_
        refine x_aload_n dX2_addAll_27 1 rfl ?_
        refine y_geti fl_RX2_19 dX2_addAll_28 rfl k0 ?_
        refine x_isub dX2_addAll_31 ?_
        refine x_icmp_le 37 dX2_addAll_32 (by decide) (fun c => ?_) (fun c => ?_)
        · rw [if_pos c] at h
          refine x_aload_n dX2_addAll_37 2 rfl ?_
          refine x_iload_n dX2_addAll_38 3 rfl ?_
          refine x_aload_n dX2_addAll_39 1 rfl ?_
          refine y_getr (kd := 100) hS fl_RX2_13 dX2_addAll_40 rfl k0 ?_
          refine x_aload_n dX2_addAll_43 1 rfl ?_
          refine y_geti fl_RX2_19 dX2_addAll_44 rfl k0 ?_
          refine x_iload dX2_addAll_47 0 rfl ?_
          refine xgrd_e h (fun g2 h => ?_)
          refine xlet_e h (fun D3 eD3 h => ?_)
          refine y_copyi cp_RX2_23 dX2_addAll_49 k1 ((hS.f k0 0 100 rfl).2) g2 (Nat.le_of_ble_eq_true rfl) (by omega) eD3 ?_
          refine x_aload_n dX2_addAll_52 1 rfl ?_
          refine x_dup dX2_addAll_53 rfl ?_
          refine y_geti fl_RX2_19 dX2_addAll_54 rfl k0 ?_
          refine x_iload dX2_addAll_57 0 rfl ?_
          refine x_iadd dX2_addAll_59 ?_
          refine xlet_e h (fun D4 eD4 h => ?_)
          refine y_puti fp_RX2_19 dX2_addAll_60 rfl k0 eD4 ?_
          refine x_iconst 1 dX2_addAll_63 (by decide) ?_
          obtain rfl := Option.some.inj h
          exact y_zret rfl rfl dX2_addAll_64
        · rw [if_neg c] at h
          refine x_iconst 0 dX2_addAll_35 (by decide) ?_
          obtain rfl := Option.some.inj h
          exact y_zret rfl rfl dX2_addAll_36

theorem dX2_copy_0 : decode cX2_copy 0 = .ok (.aload_n 0, 1) := by decide +kernel
theorem dX2_copy_1 : decode cX2_copy 1 = .ok (.iconst 0, 1) := by decide +kernel
theorem dX2_copy_2 : decode cX2_copy 2 = .ok (.putfield 19, 3) := by decide +kernel
theorem dX2_copy_5 : decode cX2_copy 5 = .ok (.aload_n 0, 1) := by decide +kernel
theorem dX2_copy_6 : decode cX2_copy 6 = .ok (.aload_n 1, 1) := by decide +kernel
theorem dX2_copy_7 : decode cX2_copy 7 = .ok (.getfield 13, 3) := by decide +kernel
theorem dX2_copy_10 : decode cX2_copy 10 = .ok (.iconst 0, 1) := by decide +kernel
theorem dX2_copy_11 : decode cX2_copy 11 = .ok (.aload_n 1, 1) := by decide +kernel
theorem dX2_copy_12 : decode cX2_copy 12 = .ok (.getfield 19, 3) := by decide +kernel
theorem dX2_copy_15 : decode cX2_copy 15 = .ok (.invokevirtual 29, 3) := by decide +kernel
theorem dX2_copy_18 : decode cX2_copy 18 = .ok (.pop, 1) := by decide +kernel
theorem dX2_copy_19 : decode cX2_copy 19 = .ok (.return_, 1) := by decide +kernel
def f_X2_copy (F P : Nat) (S : xSt) (v0 : Nat) (v1 : Nat) (D : xDt) : Option (xDt) :=
  xlet (xup D.1 v0 1 0, D.2) fun D1 => (f_X2_addAll F P S v0 (xr S v1 0) 0 (D1.1 v1 1) D1).bind fun q2 => some q2.2
set_option maxHeartbeats 4000000 in
theorem S_X2_copy {F P : Nat} {S : xSt} (hS : xWF S) {v0 : Nat} {v1 : Nat} {D : xDt} {r : xDt} (k0 : xK S v0 2) (k1 : xK S v1 2) (h : f_X2_copy F P S v0 v1 D = some r) : xSp md_X2_copy (2, 0, 0) [.ref v0, .ref v1] (S, D) (xQv S r) := by
  unfold f_X2_copy at h
  refine xEntry (by decide) (Nat.le_of_ble_eq_true rfl) ?_
  refine x_lv (lv' := [(0, .ref v0), (1, .ref v1)]) [0, 1] rfl ?_
  refine x_aload_n dX2_copy_0 0 rfl ?_
  refine x_iconst 0 dX2_copy_1 (by decide) ?_
  refine xlet_e h (fun D1 eD1 h => ?_)
  refine y_puti fp_RX2_19 dX2_copy_2 rfl k0 eD1 ?_
  refine x_aload_n dX2_copy_5 0 rfl ?_
  refine x_aload_n dX2_copy_6 1 rfl ?_
  refine y_getr (kd := 100) hS fl_RX2_13 dX2_copy_7 rfl k1 ?_
  refine x_iconst 0 dX2_copy_10 (by decide) ?_
  refine x_aload_n dX2_copy_11 1 rfl ?_
  refine y_geti fl_RX2_19 dX2_copy_12 rfl k1 ?_
  refine xbnd_e h (fun q2 e2 h => ?_)
  refine y_callVi (As := [.ref (xr S v1 0), .int 0, .int (D1.1 v1 1)]) (q := q2) cv_RX2_29 dX2_copy_15 k0 rfl (Nat.le_of_ble_eq_true rfl) (by omega) (S_X2_addAll hS k0 ((hS.f k1 0 100 rfl).2) e2) ?_
  refine x_pop dX2_copy_18 rfl ?_
  obtain rfl := Option.some.inj h
  exact y_vret rfl dX2_copy_19

theorem dX1_add_0 : decode cX1_add 0 = .ok (.aload_n 0, 1) := by decide +kernel
theorem dX1_add_1 : decode cX1_add 1 = .ok (.getfield 34, 3) := by decide +kernel
theorem dX1_add_4 : decode cX1_add 4 = .ok (.bipush 8, 2) := by decide +kernel
theorem dX1_add_6 : decode cX1_add 6 = .ok (.if_icmp .ge 13, 3) := by decide +kernel
theorem dX1_add_9 : decode cX1_add 9 = .ok (.aload_n 1, 1) := by decide +kernel
theorem dX1_add_10 : decode cX1_add 10 = .ok (.getfield 38, 3) := by decide +kernel
theorem dX1_add_13 : decode cX1_add 13 = .ok (.sipush 150, 3) := by decide +kernel
theorem dX1_add_16 : decode cX1_add 16 = .ok (.if_icmp .le 5, 3) := by decide +kernel
theorem dX1_add_19 : decode cX1_add 19 = .ok (.iconst (-1), 1) := by decide +kernel
theorem dX1_add_20 : decode cX1_add 20 = .ok (.ireturn, 1) := by decide +kernel
theorem dX1_add_21 : decode cX1_add 21 = .ok (.aload_n 0, 1) := by decide +kernel
theorem dX1_add_22 : decode cX1_add 22 = .ok (.dup, 1) := by decide +kernel
theorem dX1_add_23 : decode cX1_add 23 = .ok (.getfield 34, 3) := by decide +kernel
theorem dX1_add_26 : decode cX1_add 26 = .ok (.dup_x1, 1) := by decide +kernel
theorem dX1_add_27 : decode cX1_add 27 = .ok (.iconst 1, 1) := by decide +kernel
theorem dX1_add_28 : decode cX1_add 28 = .ok (.iadd, 1) := by decide +kernel
theorem dX1_add_29 : decode cX1_add 29 = .ok (.putfield 34, 3) := by decide +kernel
theorem dX1_add_32 : decode cX1_add 32 = .ok (.istore_n 2, 1) := by decide +kernel
theorem dX1_add_33 : decode cX1_add 33 = .ok (.aload_n 0, 1) := by decide +kernel
theorem dX1_add_34 : decode cX1_add 34 = .ok (.getfield 13, 3) := by decide +kernel
theorem dX1_add_37 : decode cX1_add 37 = .ok (.iload_n 2, 1) := by decide +kernel
theorem dX1_add_38 : decode cX1_add 38 = .ok (.bipush 9, 2) := by decide +kernel
theorem dX1_add_40 : decode cX1_add 40 = .ok (.imul, 1) := by decide +kernel
theorem dX1_add_41 : decode cX1_add 41 = .ok (.aaload, 1) := by decide +kernel
theorem dX1_add_42 : decode cX1_add 42 = .ok (.aload_n 1, 1) := by decide +kernel
theorem dX1_add_43 : decode cX1_add 43 = .ok (.invokevirtual 39, 3) := by decide +kernel
theorem dX1_add_46 : decode cX1_add 46 = .ok (.iconst 0, 1) := by decide +kernel
theorem dX1_add_47 : decode cX1_add 47 = .ok (.istore_n 3, 1) := by decide +kernel
theorem dX1_add_48 : decode cX1_add 48 = .ok (.iload_n 3, 1) := by decide +kernel
theorem dX1_add_49 : decode cX1_add 49 = .ok (.bipush 8, 2) := by decide +kernel
theorem dX1_add_51 : decode cX1_add 51 = .ok (.if_icmp .ge 26, 3) := by decide +kernel
theorem dX1_add_54 : decode cX1_add 54 = .ok (.aload_n 0, 1) := by decide +kernel
theorem dX1_add_55 : decode cX1_add 55 = .ok (.getfield 13, 3) := by decide +kernel
theorem dX1_add_58 : decode cX1_add 58 = .ok (.iload_n 2, 1) := by decide +kernel
theorem dX1_add_59 : decode cX1_add 59 = .ok (.bipush 9, 2) := by decide +kernel
theorem dX1_add_61 : decode cX1_add 61 = .ok (.imul, 1) := by decide +kernel
theorem dX1_add_62 : decode cX1_add 62 = .ok (.iconst 1, 1) := by decide +kernel
theorem dX1_add_63 : decode cX1_add 63 = .ok (.iadd, 1) := by decide +kernel
theorem dX1_add_64 : decode cX1_add 64 = .ok (.iload_n 3, 1) := by decide +kernel
theorem dX1_add_65 : decode cX1_add 65 = .ok (.iadd, 1) := by decide +kernel
theorem dX1_add_66 : decode cX1_add 66 = .ok (.aaload, 1) := by decide +kernel
theorem dX1_add_67 : decode cX1_add 67 = .ok (.iconst 0, 1) := by decide +kernel
theorem dX1_add_68 : decode cX1_add 68 = .ok (.putfield 38, 3) := by decide +kernel
theorem dX1_add_71 : decode cX1_add 71 = .ok (.iinc 3 1, 3) := by decide +kernel
theorem dX1_add_74 : decode cX1_add 74 = .ok (.goto (-26), 3) := by decide +kernel
theorem dX1_add_77 : decode cX1_add 77 = .ok (.iconst 0, 1) := by decide +kernel
theorem dX1_add_78 : decode cX1_add 78 = .ok (.istore_n 3, 1) := by decide +kernel
theorem dX1_add_79 : decode cX1_add 79 = .ok (.iload_n 3, 1) := by decide +kernel
theorem dX1_add_80 : decode cX1_add 80 = .ok (.iconst 4, 1) := by decide +kernel
theorem dX1_add_81 : decode cX1_add 81 = .ok (.if_icmp .ge 23, 3) := by decide +kernel
theorem dX1_add_84 : decode cX1_add 84 = .ok (.aload_n 0, 1) := by decide +kernel
theorem dX1_add_85 : decode cX1_add 85 = .ok (.getfield 17, 3) := by decide +kernel
theorem dX1_add_88 : decode cX1_add 88 = .ok (.iload_n 3, 1) := by decide +kernel
theorem dX1_add_89 : decode cX1_add 89 = .ok (.bipush 8, 2) := by decide +kernel
theorem dX1_add_91 : decode cX1_add 91 = .ok (.imul, 1) := by decide +kernel
theorem dX1_add_92 : decode cX1_add 92 = .ok (.iload_n 2, 1) := by decide +kernel
theorem dX1_add_93 : decode cX1_add 93 = .ok (.iadd, 1) := by decide +kernel
theorem dX1_add_94 : decode cX1_add 94 = .ok (.iconst 1, 1) := by decide +kernel
theorem dX1_add_95 : decode cX1_add 95 = .ok (.iload_n 2, 1) := by decide +kernel
theorem dX1_add_96 : decode cX1_add 96 = .ok (.ishl, 1) := by decide +kernel
theorem dX1_add_97 : decode cX1_add 97 = .ok (.iastore, 1) := by decide +kernel
theorem dX1_add_98 : decode cX1_add 98 = .ok (.iinc 3 1, 3) := by decide +kernel
theorem dX1_add_101 : decode cX1_add 101 = .ok (.goto (-22), 3) := by decide +kernel
theorem dX1_add_104 : decode cX1_add 104 = .ok (.iload_n 2, 1) := by decide +kernel
theorem dX1_add_105 : decode cX1_add 105 = .ok (.ireturn, 1) := by decide +kernel
def f_X1_add_79s (F P : Nat) (S : xSt) (rec_79 : Nat → Int32 → Int32 → xDt → Option (Int32 × xDt)) (v0 : Nat) (v2 : Int32) (v3 : Int32) (D : xDt) : Option (Int32 × xDt) :=
  if 4 ≤ v3 then (some (v2, D)) else (xgrd (xin ((v3 * 8) + v2) (xl S (xr S v0 2))) (xlet (xup D.1 (xr S v0 2) ((v3 * 8) + v2).toNatClampNeg (jishl 1 v2), D.2) fun D2 => xlet (v3 + 1) fun v3_3 => rec_79 v0 v2 v3_3 D2))
def f_X1_add_79 (F P : Nat) (S : xSt) : Nat → Nat → Int32 → Int32 → xDt → Option (Int32 × xDt)
  | 0 => fun _ _ _ _ => none
  | n + 1 => f_X1_add_79s F P S (f_X1_add_79 F P S n)
set_option maxHeartbeats 4000000 in
theorem t_X1_add_79s {F P : Nat} {S : xSt} (hS : xWF S) {rec_79 : Nat → Int32 → Int32 → xDt → Option (Int32 × xDt)} (hrec_79 : ∀ {v0 : Nat} {v2 : Int32} {v3 : Int32} {D : xDt} {r : Int32 × xDt}, xK S v0 1 → rec_79 v0 v2 v3 D = some r → yEx md_X1_add 3 79 [(0, .ref v0), (2, .int v2), (3, .int v3)] [] S D (xQi S r)) {v0 : Nat} {v2 : Int32} {v3 : Int32} {D : xDt} {r : Int32 × xDt} (k0 : xK S v0 1) (h : f_X1_add_79s F P S rec_79 v0 v2 v3 D = some r) : yEx md_X1_add 3 79 [(0, .ref v0), (2, .int v2), (3, .int v3)] [] S D (xQi S r) := by
  unfold f_X1_add_79s at h
  refine x_iload_n dX1_add_79 2 rfl ?_
  refine x_iconst 4 dX1_add_80 (by decide) ?_
  refine x_icmp_ge 104 dX1_add_81 (by decide) (fun c => ?_) (fun c => ?_)
  · rw [if_pos c] at h
    refine x_iload_n dX1_add_104 1 rfl ?_
    obtain rfl := Option.some.inj h
    exact y_iret rfl dX1_add_105
  · rw [if_neg c] at h
    refine x_aload_n dX1_add_84 0 rfl ?_
    refine y_getr (kd := 100) hS fl_RX1_17 dX1_add_85 rfl k0 ?_
    refine x_iload_n dX1_add_88 2 rfl ?_
    refine x_bipush 8 dX1_add_89 (by decide) ?_
    refine x_imul dX1_add_91 ?_
    refine x_iload_n dX1_add_92 1 rfl ?_
    refine x_iadd dX1_add_93 ?_
    refine x_iconst 1 dX1_add_94 (by decide) ?_
    refine x_iload_n dX1_add_95 1 rfl ?_
    refine x_ishl dX1_add_96 ?_
    refine xgrd_e h (fun g1 h => ?_)
    refine xlet_e h (fun D2 eD2 h => ?_)
    refine y_iast dX1_add_97 ((hS.f k0 2 100 rfl).2) g1 eD2 ?_
    refine xlet_e h (fun v3_3 ev3_3 h => ?_)
    refine y_iinc v3_3 ev3_3 (by decide) [(3, .int v3_3), (0, .ref v0), (2, .int v2)] dX1_add_98 2 rfl (by show _ < 4; decide) rfl ?_
    refine x_goto 79 dX1_add_101 (by decide) ?_
    refine x_lv (lv' := [(0, .ref v0), (2, .int v2), (3, .int v3_3)]) [1, 2, 0] rfl ?_
    exact hrec_79 k0 h
theorem t_X1_add_79 {F P : Nat} {S : xSt} (hS : xWF S) : ∀ (n : Nat) {v0 : Nat} {v2 : Int32} {v3 : Int32} {D : xDt} {r : Int32 × xDt}, xK S v0 1 → f_X1_add_79 F P S n v0 v2 v3 D = some r → yEx md_X1_add 3 79 [(0, .ref v0), (2, .int v2), (3, .int v3)] [] S D (xQi S r) := by
  intro n
  induction n with
  | zero => intros; rename_i h; cases h
  | succ n ih =>
    intro v0 v2 v3 D r k0 h
    exact t_X1_add_79s hS (fun k0 h => ih k0 h) k0 h

def f_X1_add_48s (F P : Nat) (S : xSt) (rec_48 : Nat → Int32 → Int32 → xDt → Option (Int32 × xDt)) (v0 : Nat) (v2 : Int32) (v3 : Int32) (D : xDt) : Option (Int32 × xDt) :=
  if 8 ≤ v3 then (f_X1_add_79 F P S F v0 v2 0 D) else (xgrd (xin (((v2 * 9) + 1) + v3) (xl S (xr S v0 1))) (xlet (xup D.1 (xr S (xr S v0 1) (((v2 * 9) + 1) + v3).toNatClampNeg) 1 0, D.2) fun D2 => xlet (v3 + 1) fun v3_3 => rec_48 v0 v2 v3_3 D2))
def f_X1_add_48 (F P : Nat) (S : xSt) : Nat → Nat → Int32 → Int32 → xDt → Option (Int32 × xDt)
  | 0 => fun _ _ _ _ => none
  | n + 1 => f_X1_add_48s F P S (f_X1_add_48 F P S n)
set_option maxHeartbeats 4000000 in
theorem t_X1_add_48s {F P : Nat} {S : xSt} (hS : xWF S) {rec_48 : Nat → Int32 → Int32 → xDt → Option (Int32 × xDt)} (hrec_48 : ∀ {v0 : Nat} {v2 : Int32} {v3 : Int32} {D : xDt} {r : Int32 × xDt}, xK S v0 1 → rec_48 v0 v2 v3 D = some r → yEx md_X1_add 3 48 [(0, .ref v0), (2, .int v2), (3, .int v3)] [] S D (xQi S r)) {v0 : Nat} {v2 : Int32} {v3 : Int32} {D : xDt} {r : Int32 × xDt} (k0 : xK S v0 1) (h : f_X1_add_48s F P S rec_48 v0 v2 v3 D = some r) : yEx md_X1_add 3 48 [(0, .ref v0), (2, .int v2), (3, .int v3)] [] S D (xQi S r) := by
  unfold f_X1_add_48s at h
  refine x_iload_n dX1_add_48 2 rfl ?_
  refine x_bipush 8 dX1_add_49 (by decide) ?_
  refine x_icmp_ge 77 dX1_add_51 (by decide) (fun c => ?_) (fun c => ?_)
  · rw [if_pos c] at h
    refine x_iconst 0 dX1_add_77 (by decide) ?_
    refine y_istore_n 0 rfl [(3, .int 0), (0, .ref v0), (2, .int v2)] dX1_add_78 (by show _ < 4; decide) rfl ?_
    refine x_lv (lv' := [(0, .ref v0), (2, .int v2), (3, .int 0)]) [1, 2, 0] rfl ?_
    exact t_X1_add_79 hS F k0 h
  · rw [if_neg c] at h
    refine x_aload_n dX1_add_54 0 rfl ?_
    refine y_getr (kd := 202) hS fl_RX1_13 dX1_add_55 rfl k0 ?_
    refine x_iload_n dX1_add_58 1 rfl ?_
    refine x_bipush 9 dX1_add_59 (by decide) ?_
    refine x_imul dX1_add_61 ?_
    refine x_iconst 1 dX1_add_62 (by decide) ?_
    refine x_iadd dX1_add_63 ?_
    refine x_iload_n dX1_add_64 2 rfl ?_
    refine x_iadd dX1_add_65 ?_
    refine xgrd_e h (fun g1 h => ?_)
    refine y_aald hS dX1_add_66 ((hS.f k0 1 202 rfl).2) (by decide) g1 ?_
    refine x_iconst 0 dX1_add_67 (by decide) ?_
    refine xlet_e h (fun D2 eD2 h => ?_)
    refine y_puti fp_RX1_38 dX1_add_68 rfl ((hS.e ((hS.f k0 1 202 rfl).2) (by decide) (xin_lt g1)).2) eD2 ?_
    refine xlet_e h (fun v3_3 ev3_3 h => ?_)
    refine y_iinc v3_3 ev3_3 (by decide) [(3, .int v3_3), (0, .ref v0), (2, .int v2)] dX1_add_71 2 rfl (by show _ < 4; decide) rfl ?_
    refine x_goto 48 dX1_add_74 (by decide) ?_
    refine x_lv (lv' := [(0, .ref v0), (2, .int v2), (3, .int v3_3)]) [1, 2, 0] rfl ?_
    exact hrec_48 k0 h
theorem t_X1_add_48 {F P : Nat} {S : xSt} (hS : xWF S) : ∀ (n : Nat) {v0 : Nat} {v2 : Int32} {v3 : Int32} {D : xDt} {r : Int32 × xDt}, xK S v0 1 → f_X1_add_48 F P S n v0 v2 v3 D = some r → yEx md_X1_add 3 48 [(0, .ref v0), (2, .int v2), (3, .int v3)] [] S D (xQi S r) := by
  intro n
  induction n with
  | zero => intros; rename_i h; cases h
  | succ n ih =>
    intro v0 v2 v3 D r k0 h
    exact t_X1_add_48s hS (fun k0 h => ih k0 h) k0 h

def f_X1_add (F P : Nat) (S : xSt) (v0 : Nat) (v1 : Nat) (D : xDt) : Option (Int32 × xDt) :=
  if 8 ≤ (D.1 v0 0) then (some ((-1), D)) else (if (D.1 v1 1) ≤ 150 then (xlet (xup D.1 v0 0 ((D.1 v0 0) + 1), D.2) fun D1 => xlet (D.1 v0 0) fun v2_2 => xgrd (xin (v2_2 * 9) (xl S (xr S v0 1))) ((f_X2_copy F P S (xr S (xr S v0 1) (v2_2 * 9).toNatClampNeg) v1 D1).bind fun q4 => f_X1_add_48 F P S F v0 v2_2 0 q4)) else (some ((-1), D)))
set_option maxHeartbeats 4000000 in
theorem S_X1_add {F P : Nat} {S : xSt} (hS : xWF S) {v0 : Nat} {v1 : Nat} {D : xDt} {r : Int32 × xDt} (k0 : xK S v0 1) (k1 : xK S v1 2) (h : f_X1_add F P S v0 v1 D = some r) : xSp md_X1_add (3, 0, 0) [.ref v0, .ref v1] (S, D) (xQi S r) := by
  unfold f_X1_add at h
  refine xEntry (by decide) (Nat.le_of_ble_eq_true rfl) ?_
  refine x_lv (lv' := [(0, .ref v0), (1, .ref v1)]) [0, 1] rfl ?_
  refine x_aload_n dX1_add_0 0 rfl ?_
  refine y_geti fl_RX1_34 dX1_add_1 rfl k0 ?_
  refine x_bipush 8 dX1_add_4 (by decide) ?_
  refine x_icmp_ge 19 dX1_add_6 (by decide) (fun c => ?_) (fun c => ?_)
  · rw [if_pos c] at h
    refine x_iconst (-1) dX1_add_19 (by decide) ?_
    obtain rfl := Option.some.inj h
    exact y_iret rfl dX1_add_20
  · rw [if_neg c] at h
    refine x_aload_n dX1_add_9 1 rfl ?_
    refine y_geti fl_RX1_38 dX1_add_10 rfl k1 ?_
    refine x_sipush 150 dX1_add_13 (by decide) ?_
    refine x_icmp_le 21 dX1_add_16 (by decide) (fun c => ?_) (fun c => ?_)
    · rw [if_pos c] at h
      refine x_aload_n dX1_add_21 0 rfl ?_
      refine x_dup dX1_add_22 rfl ?_
      refine y_geti fl_RX1_34 dX1_add_23 rfl k0 ?_
      refine x_dup_x1 dX1_add_26 rfl rfl ?_
      refine x_iconst 1 dX1_add_27 (by decide) ?_
      refine x_iadd dX1_add_28 ?_
      refine xlet_e h (fun D1 eD1 h => ?_)
      refine y_puti fp_RX1_34 dX1_add_29 rfl k0 eD1 ?_
      refine xlet_e h (fun v2_2 ev2_2 h => ?_)
      refine y_istore_n v2_2 ev2_2 [(2, .int v2_2), (0, .ref v0), (1, .ref v1)] dX1_add_32 (by show _ < 4; decide) rfl ?_
      refine x_aload_n dX1_add_33 1 rfl ?_
      refine y_getr (kd := 202) hS fl_RX1_13 dX1_add_34 rfl k0 ?_
      refine x_iload_n dX1_add_37 0 rfl ?_
      refine x_bipush 9 dX1_add_38 (by decide) ?_
      refine x_imul dX1_add_40 ?_
      refine xgrd_e h (fun g3 h => ?_)
      refine y_aald hS dX1_add_41 ((hS.f k0 1 202 rfl).2) (by decide) g3 ?_
      refine x_aload_n dX1_add_42 2 rfl ?_
      refine xbnd_e h (fun q4 e4 h => ?_)
      refine y_callVv (As := [.ref v1]) (q := q4) cv_RX1_39 dX1_add_43 ((hS.e ((hS.f k0 1 202 rfl).2) (by decide) (xin_lt g3)).2) rfl (Nat.le_of_ble_eq_true rfl) (by omega) (S_X2_copy hS ((hS.e ((hS.f k0 1 202 rfl).2) (by decide) (xin_lt g3)).2) k1 e4) ?_
      refine x_iconst 0 dX1_add_46 (by decide) ?_
      refine y_istore_n 0 rfl [(3, .int 0), (2, .int v2_2), (0, .ref v0), (1, .ref v1)] dX1_add_47 (by show _ < 4; decide) rfl ?_
      refine x_lv (lv' := [(0, .ref v0), (2, .int v2_2), (3, .int 0)]) [2, 1, 0] rfl ?_
      exact t_X1_add_48 hS F k0 h
    · rw [if_neg c] at h
      refine x_iconst (-1) dX1_add_19 (by decide) ?_
      obtain rfl := Option.some.inj h
      exact y_iret rfl dX1_add_20

theorem dX1_setChange_0 : decode cX1_setChange 0 = .ok (.aload_n 0, 1) := by decide +kernel
theorem dX1_setChange_1 : decode cX1_setChange 1 = .ok (.getfield 13, 3) := by decide +kernel
theorem dX1_setChange_4 : decode cX1_setChange 4 = .ok (.iload_n 1, 1) := by decide +kernel
theorem dX1_setChange_5 : decode cX1_setChange 5 = .ok (.bipush 9, 2) := by decide +kernel
theorem dX1_setChange_7 : decode cX1_setChange 7 = .ok (.imul, 1) := by decide +kernel
theorem dX1_setChange_8 : decode cX1_setChange 8 = .ok (.iconst 1, 1) := by decide +kernel
theorem dX1_setChange_9 : decode cX1_setChange 9 = .ok (.iadd, 1) := by decide +kernel
theorem dX1_setChange_10 : decode cX1_setChange 10 = .ok (.iload_n 2, 1) := by decide +kernel
theorem dX1_setChange_11 : decode cX1_setChange 11 = .ok (.iadd, 1) := by decide +kernel
theorem dX1_setChange_12 : decode cX1_setChange 12 = .ok (.aaload, 1) := by decide +kernel
theorem dX1_setChange_13 : decode cX1_setChange 13 = .ok (.aload_n 3, 1) := by decide +kernel
theorem dX1_setChange_14 : decode cX1_setChange 14 = .ok (.invokevirtual 39, 3) := by decide +kernel
theorem dX1_setChange_17 : decode cX1_setChange 17 = .ok (.return_, 1) := by decide +kernel
def f_X1_setChange (F P : Nat) (S : xSt) (v0 : Nat) (v1 : Int32) (v2 : Int32) (v3 : Nat) (D : xDt) : Option (xDt) :=
  xgrd (xin (((v1 * 9) + 1) + v2) (xl S (xr S v0 1))) ((f_X2_copy F P S (xr S (xr S v0 1) (((v1 * 9) + 1) + v2).toNatClampNeg) v3 D).bind fun q2 => some q2)
set_option maxHeartbeats 4000000 in
theorem S_X1_setChange {F P : Nat} {S : xSt} (hS : xWF S) {v0 : Nat} {v1 : Int32} {v2 : Int32} {v3 : Nat} {D : xDt} {r : xDt} (k0 : xK S v0 1) (k3 : xK S v3 2) (h : f_X1_setChange F P S v0 v1 v2 v3 D = some r) : xSp md_X1_setChange (3, 0, 0) [.ref v0, .int v1, .int v2, .ref v3] (S, D) (xQv S r) := by
  unfold f_X1_setChange at h
  refine xEntry (by decide) (Nat.le_of_ble_eq_true rfl) ?_
  refine x_lv (lv' := [(0, .ref v0), (1, .int v1), (2, .int v2), (3, .ref v3)]) [0, 1, 2, 3] rfl ?_
  refine x_aload_n dX1_setChange_0 0 rfl ?_
  refine y_getr (kd := 202) hS fl_RX1_13 dX1_setChange_1 rfl k0 ?_
  refine x_iload_n dX1_setChange_4 1 rfl ?_
  refine x_bipush 9 dX1_setChange_5 (by decide) ?_
  refine x_imul dX1_setChange_7 ?_
  refine x_iconst 1 dX1_setChange_8 (by decide) ?_
  refine x_iadd dX1_setChange_9 ?_
  refine x_iload_n dX1_setChange_10 2 rfl ?_
  refine x_iadd dX1_setChange_11 ?_
  refine xgrd_e h (fun g1 h => ?_)
  refine y_aald hS dX1_setChange_12 ((hS.f k0 1 202 rfl).2) (by decide) g1 ?_
  refine x_aload_n dX1_setChange_13 3 rfl ?_
  refine xbnd_e h (fun q2 e2 h => ?_)
  refine y_callVv (As := [.ref v3]) (q := q2) cv_RX1_39 dX1_setChange_14 ((hS.e ((hS.f k0 1 202 rfl).2) (by decide) (xin_lt g1)).2) rfl (Nat.le_of_ble_eq_true rfl) (by omega) (S_X2_copy hS ((hS.e ((hS.f k0 1 202 rfl).2) (by decide) (xin_lt g1)).2) k3 e2) ?_
  obtain rfl := Option.some.inj h
  exact y_vret rfl dX1_setChange_17

theorem dJ6_bitCount_0f7a4_0 : decode cJ6_bitCount_0f7a4 0 = .ok (.iload_n 0, 1) := by decide +kernel
theorem dJ6_bitCount_0f7a4_1 : decode cJ6_bitCount_0f7a4 1 = .ok (.iload_n 0, 1) := by decide +kernel
theorem dJ6_bitCount_0f7a4_2 : decode cJ6_bitCount_0f7a4 2 = .ok (.iconst 1, 1) := by decide +kernel
theorem dJ6_bitCount_0f7a4_3 : decode cJ6_bitCount_0f7a4 3 = .ok (.iushr, 1) := by decide +kernel
theorem dJ6_bitCount_0f7a4_4 : decode cJ6_bitCount_0f7a4 4 = .ok (.ldc_w 265, 3) := by decide +kernel
theorem dJ6_bitCount_0f7a4_7 : decode cJ6_bitCount_0f7a4 7 = .ok (.iand, 1) := by decide +kernel
theorem dJ6_bitCount_0f7a4_8 : decode cJ6_bitCount_0f7a4 8 = .ok (.isub, 1) := by decide +kernel
theorem dJ6_bitCount_0f7a4_9 : decode cJ6_bitCount_0f7a4 9 = .ok (.istore_n 0, 1) := by decide +kernel
theorem dJ6_bitCount_0f7a4_10 : decode cJ6_bitCount_0f7a4 10 = .ok (.iload_n 0, 1) := by decide +kernel
theorem dJ6_bitCount_0f7a4_11 : decode cJ6_bitCount_0f7a4 11 = .ok (.ldc_w 266, 3) := by decide +kernel
theorem dJ6_bitCount_0f7a4_14 : decode cJ6_bitCount_0f7a4 14 = .ok (.iand, 1) := by decide +kernel
theorem dJ6_bitCount_0f7a4_15 : decode cJ6_bitCount_0f7a4 15 = .ok (.iload_n 0, 1) := by decide +kernel
theorem dJ6_bitCount_0f7a4_16 : decode cJ6_bitCount_0f7a4 16 = .ok (.iconst 2, 1) := by decide +kernel
theorem dJ6_bitCount_0f7a4_17 : decode cJ6_bitCount_0f7a4 17 = .ok (.iushr, 1) := by decide +kernel
theorem dJ6_bitCount_0f7a4_18 : decode cJ6_bitCount_0f7a4 18 = .ok (.ldc_w 266, 3) := by decide +kernel
theorem dJ6_bitCount_0f7a4_21 : decode cJ6_bitCount_0f7a4 21 = .ok (.iand, 1) := by decide +kernel
theorem dJ6_bitCount_0f7a4_22 : decode cJ6_bitCount_0f7a4 22 = .ok (.iadd, 1) := by decide +kernel
theorem dJ6_bitCount_0f7a4_23 : decode cJ6_bitCount_0f7a4 23 = .ok (.istore_n 0, 1) := by decide +kernel
theorem dJ6_bitCount_0f7a4_24 : decode cJ6_bitCount_0f7a4 24 = .ok (.iload_n 0, 1) := by decide +kernel
theorem dJ6_bitCount_0f7a4_25 : decode cJ6_bitCount_0f7a4 25 = .ok (.iload_n 0, 1) := by decide +kernel
theorem dJ6_bitCount_0f7a4_26 : decode cJ6_bitCount_0f7a4 26 = .ok (.iconst 4, 1) := by decide +kernel
theorem dJ6_bitCount_0f7a4_27 : decode cJ6_bitCount_0f7a4 27 = .ok (.iushr, 1) := by decide +kernel
theorem dJ6_bitCount_0f7a4_28 : decode cJ6_bitCount_0f7a4 28 = .ok (.iadd, 1) := by decide +kernel
theorem dJ6_bitCount_0f7a4_29 : decode cJ6_bitCount_0f7a4 29 = .ok (.ldc_w 267, 3) := by decide +kernel
theorem dJ6_bitCount_0f7a4_32 : decode cJ6_bitCount_0f7a4 32 = .ok (.iand, 1) := by decide +kernel
theorem dJ6_bitCount_0f7a4_33 : decode cJ6_bitCount_0f7a4 33 = .ok (.istore_n 0, 1) := by decide +kernel
theorem dJ6_bitCount_0f7a4_34 : decode cJ6_bitCount_0f7a4 34 = .ok (.iload_n 0, 1) := by decide +kernel
theorem dJ6_bitCount_0f7a4_35 : decode cJ6_bitCount_0f7a4 35 = .ok (.iload_n 0, 1) := by decide +kernel
theorem dJ6_bitCount_0f7a4_36 : decode cJ6_bitCount_0f7a4 36 = .ok (.bipush 8, 2) := by decide +kernel
theorem dJ6_bitCount_0f7a4_38 : decode cJ6_bitCount_0f7a4 38 = .ok (.iushr, 1) := by decide +kernel
theorem dJ6_bitCount_0f7a4_39 : decode cJ6_bitCount_0f7a4 39 = .ok (.iadd, 1) := by decide +kernel
theorem dJ6_bitCount_0f7a4_40 : decode cJ6_bitCount_0f7a4 40 = .ok (.istore_n 0, 1) := by decide +kernel
theorem dJ6_bitCount_0f7a4_41 : decode cJ6_bitCount_0f7a4 41 = .ok (.iload_n 0, 1) := by decide +kernel
theorem dJ6_bitCount_0f7a4_42 : decode cJ6_bitCount_0f7a4 42 = .ok (.iload_n 0, 1) := by decide +kernel
theorem dJ6_bitCount_0f7a4_43 : decode cJ6_bitCount_0f7a4 43 = .ok (.bipush 16, 2) := by decide +kernel
theorem dJ6_bitCount_0f7a4_45 : decode cJ6_bitCount_0f7a4 45 = .ok (.iushr, 1) := by decide +kernel
theorem dJ6_bitCount_0f7a4_46 : decode cJ6_bitCount_0f7a4 46 = .ok (.iadd, 1) := by decide +kernel
theorem dJ6_bitCount_0f7a4_47 : decode cJ6_bitCount_0f7a4 47 = .ok (.istore_n 0, 1) := by decide +kernel
theorem dJ6_bitCount_0f7a4_48 : decode cJ6_bitCount_0f7a4 48 = .ok (.iload_n 0, 1) := by decide +kernel
theorem dJ6_bitCount_0f7a4_49 : decode cJ6_bitCount_0f7a4 49 = .ok (.bipush 63, 2) := by decide +kernel
theorem dJ6_bitCount_0f7a4_51 : decode cJ6_bitCount_0f7a4 51 = .ok (.iand, 1) := by decide +kernel
theorem dJ6_bitCount_0f7a4_52 : decode cJ6_bitCount_0f7a4 52 = .ok (.ireturn, 1) := by decide +kernel
def f_J6_bitCount_0f7a4 (F P : Nat) (S : xSt) (v0 : Int32) (D : xDt) : Option (Int32 × xDt) :=
  xlet (v0 - ((jiushr v0 1) &&& 1431655765)) fun v0_1 => xlet ((v0_1 &&& 858993459) + ((jiushr v0_1 2) &&& 858993459)) fun v0_2 => xlet ((v0_2 + (jiushr v0_2 4)) &&& 252645135) fun v0_3 => xlet (v0_3 + (jiushr v0_3 8)) fun v0_4 => xlet (v0_4 + (jiushr v0_4 16)) fun v0_5 => some (v0_5 &&& 63, D)
set_option maxHeartbeats 4000000 in
theorem S_J6_bitCount_0f7a4 {F P : Nat} {S : xSt} (hS : xWF S) {v0 : Int32} {D : xDt} {r : Int32 × xDt} (h : f_J6_bitCount_0f7a4 F P S v0 D = some r) : xSp md_J6_bitCount_0f7a4 (0, 0, 0) [.int v0] (S, D) (xQi S r) := by
  unfold f_J6_bitCount_0f7a4 at h
  refine xEntry (by decide) (Nat.le_of_ble_eq_true rfl) ?_
  refine x_lv (lv' := [(0, .int v0)]) [0] rfl ?_
  refine x_iload_n dJ6_bitCount_0f7a4_0 0 rfl ?_
  refine x_iload_n dJ6_bitCount_0f7a4_1 0 rfl ?_
  refine x_iconst 1 dJ6_bitCount_0f7a4_2 (by decide) ?_
  refine x_iushr dJ6_bitCount_0f7a4_3 ?_
  refine x_ldcw 1431655765 dJ6_bitCount_0f7a4_4 wd_755 ?_
  refine x_iand dJ6_bitCount_0f7a4_7 ?_
  refine x_isub dJ6_bitCount_0f7a4_8 ?_
  refine xlet_e h (fun v0_1 ev0_1 h => ?_)
  refine y_istore_n v0_1 ev0_1 [(0, .int v0_1)] dJ6_bitCount_0f7a4_9 (by show _ < 1; decide) rfl ?_
  refine x_iload_n dJ6_bitCount_0f7a4_10 0 rfl ?_
  refine x_ldcw 858993459 dJ6_bitCount_0f7a4_11 wd_756 ?_
  refine x_iand dJ6_bitCount_0f7a4_14 ?_
  refine x_iload_n dJ6_bitCount_0f7a4_15 0 rfl ?_
  refine x_iconst 2 dJ6_bitCount_0f7a4_16 (by decide) ?_
  refine x_iushr dJ6_bitCount_0f7a4_17 ?_
  refine x_ldcw 858993459 dJ6_bitCount_0f7a4_18 wd_756 ?_
  refine x_iand dJ6_bitCount_0f7a4_21 ?_
  refine x_iadd dJ6_bitCount_0f7a4_22 ?_
  refine xlet_e h (fun v0_2 ev0_2 h => ?_)
  refine y_istore_n v0_2 ev0_2 [(0, .int v0_2)] dJ6_bitCount_0f7a4_23 (by show _ < 1; decide) rfl ?_
  refine x_iload_n dJ6_bitCount_0f7a4_24 0 rfl ?_
  refine x_iload_n dJ6_bitCount_0f7a4_25 0 rfl ?_
  refine x_iconst 4 dJ6_bitCount_0f7a4_26 (by decide) ?_
  refine x_iushr dJ6_bitCount_0f7a4_27 ?_
  refine x_iadd dJ6_bitCount_0f7a4_28 ?_
  refine x_ldcw 252645135 dJ6_bitCount_0f7a4_29 wd_757 ?_
  refine x_iand dJ6_bitCount_0f7a4_32 ?_
  refine xlet_e h (fun v0_3 ev0_3 h => ?_)
  refine y_istore_n v0_3 ev0_3 [(0, .int v0_3)] dJ6_bitCount_0f7a4_33 (by show _ < 1; decide) rfl ?_
  refine x_iload_n dJ6_bitCount_0f7a4_34 0 rfl ?_
  refine x_iload_n dJ6_bitCount_0f7a4_35 0 rfl ?_
  refine x_bipush 8 dJ6_bitCount_0f7a4_36 (by decide) ?_
  refine x_iushr dJ6_bitCount_0f7a4_38 ?_
  refine x_iadd dJ6_bitCount_0f7a4_39 ?_
  refine xlet_e h (fun v0_4 ev0_4 h => ?_)
  refine y_istore_n v0_4 ev0_4 [(0, .int v0_4)] dJ6_bitCount_0f7a4_40 (by show _ < 1; decide) rfl ?_
  refine x_iload_n dJ6_bitCount_0f7a4_41 0 rfl ?_
  refine x_iload_n dJ6_bitCount_0f7a4_42 0 rfl ?_
  refine x_bipush 16 dJ6_bitCount_0f7a4_43 (by decide) ?_
  refine x_iushr dJ6_bitCount_0f7a4_45 ?_
  refine x_iadd dJ6_bitCount_0f7a4_46 ?_
  refine xlet_e h (fun v0_5 ev0_5 h => ?_)
  refine y_istore_n v0_5 ev0_5 [(0, .int v0_5)] dJ6_bitCount_0f7a4_47 (by show _ < 1; decide) rfl ?_
  refine x_iload_n dJ6_bitCount_0f7a4_48 0 rfl ?_
  refine x_bipush 63 dJ6_bitCount_0f7a4_49 (by decide) ?_
  refine x_iand dJ6_bitCount_0f7a4_51 ?_
  obtain rfl := Option.some.inj h
  exact y_iret rfl dJ6_bitCount_0f7a4_52

theorem dX1_merge_0 : decode cX1_merge 0 = .ok (.iload_n 1, 1) := by decide +kernel
theorem dX1_merge_1 : decode cX1_merge 1 = .ok (.bipush 8, 2) := by decide +kernel
theorem dX1_merge_3 : decode cX1_merge 3 = .ok (.imul, 1) := by decide +kernel
theorem dX1_merge_4 : decode cX1_merge 4 = .ok (.istore 4, 2) := by decide +kernel
theorem dX1_merge_6 : decode cX1_merge 6 = .ok (.aload_n 0, 1) := by decide +kernel
theorem dX1_merge_7 : decode cX1_merge 7 = .ok (.getfield 17, 3) := by decide +kernel
theorem dX1_merge_10 : decode cX1_merge 10 = .ok (.iload 4, 2) := by decide +kernel
theorem dX1_merge_12 : decode cX1_merge 12 = .ok (.iload_n 2, 1) := by decide +kernel
theorem dX1_merge_13 : decode cX1_merge 13 = .ok (.iadd, 1) := by decide +kernel
theorem dX1_merge_14 : decode cX1_merge 14 = .ok (.iaload, 1) := by decide +kernel
theorem dX1_merge_15 : decode cX1_merge 15 = .ok (.aload_n 0, 1) := by decide +kernel
theorem dX1_merge_16 : decode cX1_merge 16 = .ok (.getfield 17, 3) := by decide +kernel
theorem dX1_merge_19 : decode cX1_merge 19 = .ok (.iload 4, 2) := by decide +kernel
theorem dX1_merge_21 : decode cX1_merge 21 = .ok (.iload_n 3, 1) := by decide +kernel
theorem dX1_merge_22 : decode cX1_merge 22 = .ok (.iadd, 1) := by decide +kernel
theorem dX1_merge_23 : decode cX1_merge 23 = .ok (.iaload, 1) := by decide +kernel
theorem dX1_merge_24 : decode cX1_merge 24 = .ok (.ior, 1) := by decide +kernel
theorem dX1_merge_25 : decode cX1_merge 25 = .ok (.istore 5, 2) := by decide +kernel
theorem dX1_merge_27 : decode cX1_merge 27 = .ok (.iconst 0, 1) := by decide +kernel
theorem dX1_merge_28 : decode cX1_merge 28 = .ok (.istore 6, 2) := by decide +kernel
theorem dX1_merge_30 : decode cX1_merge 30 = .ok (.iload 6, 2) := by decide +kernel
theorem dX1_merge_32 : decode cX1_merge 32 = .ok (.aload_n 0, 1) := by decide +kernel
theorem dX1_merge_33 : decode cX1_merge 33 = .ok (.getfield 34, 3) := by decide +kernel
theorem dX1_merge_36 : decode cX1_merge 36 = .ok (.if_icmp .ge 31, 3) := by decide +kernel
theorem dX1_merge_39 : decode cX1_merge 39 = .ok (.iload 5, 2) := by decide +kernel
theorem dX1_merge_41 : decode cX1_merge 41 = .ok (.iload 6, 2) := by decide +kernel
theorem dX1_merge_43 : decode cX1_merge 43 = .ok (.ishr, 1) := by decide +kernel
theorem dX1_merge_44 : decode cX1_merge 44 = .ok (.iconst 1, 1) := by decide +kernel
theorem dX1_merge_45 : decode cX1_merge 45 = .ok (.iand, 1) := by decide +kernel
theorem dX1_merge_46 : decode cX1_merge 46 = .ok (.ifCond .eq 15, 3) := by decide +kernel
theorem dX1_merge_49 : decode cX1_merge 49 = .ok (.aload_n 0, 1) := by decide +kernel
theorem dX1_merge_50 : decode cX1_merge 50 = .ok (.getfield 17, 3) := by decide +kernel
theorem dX1_merge_53 : decode cX1_merge 53 = .ok (.iload 4, 2) := by decide +kernel
theorem dX1_merge_55 : decode cX1_merge 55 = .ok (.iload 6, 2) := by decide +kernel
theorem dX1_merge_57 : decode cX1_merge 57 = .ok (.iadd, 1) := by decide +kernel
theorem dX1_merge_58 : decode cX1_merge 58 = .ok (.iload 5, 2) := by decide +kernel
theorem dX1_merge_60 : decode cX1_merge 60 = .ok (.iastore, 1) := by decide +kernel
theorem dX1_merge_61 : decode cX1_merge 61 = .ok (.iinc 6 1, 3) := by decide +kernel
theorem dX1_merge_64 : decode cX1_merge 64 = .ok (.goto (-34), 3) := by decide +kernel
theorem dX1_merge_67 : decode cX1_merge 67 = .ok (.iload 5, 2) := by decide +kernel
theorem dX1_merge_69 : decode cX1_merge 69 = .ok (.invokestatic 43, 3) := by decide +kernel
theorem dX1_merge_72 : decode cX1_merge 72 = .ok (.ireturn, 1) := by decide +kernel
def f_X1_merge_61 (F P : Nat) (S : xSt) (rec_30 : Nat → Int32 → Int32 → Int32 → xDt → Option (Int32 × xDt)) (v0 : Nat) (v4 : Int32) (v5 : Int32) (v6 : Int32) (D : xDt) : Option (Int32 × xDt) :=
  xlet (v6 + 1) fun v6_1 => rec_30 v0 v4 v5 v6_1 D
set_option maxHeartbeats 4000000 in
theorem t_X1_merge_61 {F P : Nat} {S : xSt} (hS : xWF S) {rec_30 : Nat → Int32 → Int32 → Int32 → xDt → Option (Int32 × xDt)} (hrec_30 : ∀ {v0 : Nat} {v4 : Int32} {v5 : Int32} {v6 : Int32} {D : xDt} {r : Int32 × xDt}, xK S v0 1 → rec_30 v0 v4 v5 v6 D = some r → yEx md_X1_merge 1 30 [(0, .ref v0), (4, .int v4), (5, .int v5), (6, .int v6)] [] S D (xQi S r)) {v0 : Nat} {v4 : Int32} {v5 : Int32} {v6 : Int32} {D : xDt} {r : Int32 × xDt} (k0 : xK S v0 1) (h : f_X1_merge_61 F P S rec_30 v0 v4 v5 v6 D = some r) : yEx md_X1_merge 1 61 [(0, .ref v0), (4, .int v4), (5, .int v5), (6, .int v6)] [] S D (xQi S r) := by
  unfold f_X1_merge_61 at h
  refine xlet_e h (fun v6_1 ev6_1 h => ?_)
  refine y_iinc v6_1 ev6_1 (by decide) [(6, .int v6_1), (0, .ref v0), (4, .int v4), (5, .int v5)] dX1_merge_61 3 rfl (by show _ < 7; decide) rfl ?_
  refine x_goto 30 dX1_merge_64 (by decide) ?_
  refine x_lv (lv' := [(0, .ref v0), (4, .int v4), (5, .int v5), (6, .int v6_1)]) [1, 2, 3, 0] rfl ?_
  exact hrec_30 k0 h

def f_X1_merge_30s (F P : Nat) (S : xSt) (rec_30 : Nat → Int32 → Int32 → Int32 → xDt → Option (Int32 × xDt)) (v0 : Nat) (v4 : Int32) (v5 : Int32) (v6 : Int32) (D : xDt) : Option (Int32 × xDt) :=
  if (D.1 v0 0) ≤ v6 then ((f_J6_bitCount_0f7a4 F P S v5 D).bind fun q1 => some (q1.1, q1.2)) else (if ((jishr v5 v6) &&& 1) = 0 then (f_X1_merge_61 F P S rec_30 v0 v4 v5 v6 D) else (xgrd (xin (v4 + v6) (xl S (xr S v0 2))) (xlet (xup D.1 (xr S v0 2) (v4 + v6).toNatClampNeg v5, D.2) fun D3 => f_X1_merge_61 F P S rec_30 v0 v4 v5 v6 D3)))
def f_X1_merge_30 (F P : Nat) (S : xSt) : Nat → Nat → Int32 → Int32 → Int32 → xDt → Option (Int32 × xDt)
  | 0 => fun _ _ _ _ _ => none
  | n + 1 => f_X1_merge_30s F P S (f_X1_merge_30 F P S n)
set_option maxHeartbeats 4000000 in
theorem t_X1_merge_30s {F P : Nat} {S : xSt} (hS : xWF S) {rec_30 : Nat → Int32 → Int32 → Int32 → xDt → Option (Int32 × xDt)} (hrec_30 : ∀ {v0 : Nat} {v4 : Int32} {v5 : Int32} {v6 : Int32} {D : xDt} {r : Int32 × xDt}, xK S v0 1 → rec_30 v0 v4 v5 v6 D = some r → yEx md_X1_merge 1 30 [(0, .ref v0), (4, .int v4), (5, .int v5), (6, .int v6)] [] S D (xQi S r)) {v0 : Nat} {v4 : Int32} {v5 : Int32} {v6 : Int32} {D : xDt} {r : Int32 × xDt} (k0 : xK S v0 1) (h : f_X1_merge_30s F P S rec_30 v0 v4 v5 v6 D = some r) : yEx md_X1_merge 1 30 [(0, .ref v0), (4, .int v4), (5, .int v5), (6, .int v6)] [] S D (xQi S r) := by
  unfold f_X1_merge_30s at h
  refine x_iload dX1_merge_30 3 rfl ?_
  refine x_aload_n dX1_merge_32 0 rfl ?_
  refine y_geti fl_RX1_34 dX1_merge_33 rfl k0 ?_
  refine x_icmp_ge 67 dX1_merge_36 (by decide) (fun c => ?_) (fun c => ?_)
  · rw [if_pos c] at h
    refine x_iload dX1_merge_67 2 rfl ?_
    refine xbnd_e h (fun q1 e1 h => ?_)
    refine y_callSi (As := [.int v5]) (q := q1) cs_RX1_43 dX1_merge_69 rfl (Nat.le_of_ble_eq_true rfl) (by omega) (S_J6_bitCount_0f7a4 hS e1) ?_
    obtain rfl := Option.some.inj h
    exact y_iret rfl dX1_merge_72
  · rw [if_neg c] at h
    refine x_iload dX1_merge_39 2 rfl ?_
    refine x_iload dX1_merge_41 3 rfl ?_
    refine x_ishr dX1_merge_43 ?_
    refine x_iconst 1 dX1_merge_44 (by decide) ?_
    refine x_iand dX1_merge_45 ?_
    refine x_if_eq 61 dX1_merge_46 (by decide) (fun c => ?_) (fun c => ?_)
    · rw [if_pos c] at h
      exact t_X1_merge_61 hS hrec_30 k0 h
    · rw [if_neg c] at h
      refine x_aload_n dX1_merge_49 0 rfl ?_
      refine y_getr (kd := 100) hS fl_RX1_17 dX1_merge_50 rfl k0 ?_
      refine x_iload dX1_merge_53 1 rfl ?_
      refine x_iload dX1_merge_55 3 rfl ?_
      refine x_iadd dX1_merge_57 ?_
      refine x_iload dX1_merge_58 2 rfl ?_
      refine xgrd_e h (fun g2 h => ?_)
      refine xlet_e h (fun D3 eD3 h => ?_)
      refine y_iast dX1_merge_60 ((hS.f k0 2 100 rfl).2) g2 eD3 ?_
      exact t_X1_merge_61 hS hrec_30 k0 h
theorem t_X1_merge_30 {F P : Nat} {S : xSt} (hS : xWF S) : ∀ (n : Nat) {v0 : Nat} {v4 : Int32} {v5 : Int32} {v6 : Int32} {D : xDt} {r : Int32 × xDt}, xK S v0 1 → f_X1_merge_30 F P S n v0 v4 v5 v6 D = some r → yEx md_X1_merge 1 30 [(0, .ref v0), (4, .int v4), (5, .int v5), (6, .int v6)] [] S D (xQi S r) := by
  intro n
  induction n with
  | zero => intros; rename_i h; cases h
  | succ n ih =>
    intro v0 v4 v5 v6 D r k0 h
    exact t_X1_merge_30s hS (fun k0 h => ih k0 h) k0 h

def f_X1_merge (F P : Nat) (S : xSt) (v0 : Nat) (v1 : Int32) (v2 : Int32) (v3 : Int32) (D : xDt) : Option (Int32 × xDt) :=
  xlet (v1 * 8) fun v4_1 => xgrd (xin (v4_1 + v2) (xl S (xr S v0 2))) (xgrd (xin (v4_1 + v3) (xl S (xr S v0 2))) (xlet ((D.1 (xr S v0 2) (v4_1 + v2).toNatClampNeg) ||| (D.1 (xr S v0 2) (v4_1 + v3).toNatClampNeg)) fun v5_4 => f_X1_merge_30 F P S F v0 v4_1 v5_4 0 D))
set_option maxHeartbeats 4000000 in
theorem S_X1_merge {F P : Nat} {S : xSt} (hS : xWF S) {v0 : Nat} {v1 : Int32} {v2 : Int32} {v3 : Int32} {D : xDt} {r : Int32 × xDt} (k0 : xK S v0 1) (h : f_X1_merge F P S v0 v1 v2 v3 D = some r) : xSp md_X1_merge (1, 0, 0) [.ref v0, .int v1, .int v2, .int v3] (S, D) (xQi S r) := by
  unfold f_X1_merge at h
  refine xEntry (by decide) (Nat.le_of_ble_eq_true rfl) ?_
  refine x_lv (lv' := [(0, .ref v0), (1, .int v1), (2, .int v2), (3, .int v3)]) [0, 1, 2, 3] rfl ?_
  refine x_iload_n dX1_merge_0 1 rfl ?_
  refine x_bipush 8 dX1_merge_1 (by decide) ?_
  refine x_imul dX1_merge_3 ?_
  refine xlet_e h (fun v4_1 ev4_1 h => ?_)
  refine y_istore v4_1 ev4_1 [(4, .int v4_1), (0, .ref v0), (1, .int v1), (2, .int v2), (3, .int v3)] dX1_merge_4 (by show _ < 7; decide) rfl ?_
  refine x_aload_n dX1_merge_6 1 rfl ?_
  refine y_getr (kd := 100) hS fl_RX1_17 dX1_merge_7 rfl k0 ?_
  refine x_iload dX1_merge_10 0 rfl ?_
  refine x_iload_n dX1_merge_12 3 rfl ?_
  refine x_iadd dX1_merge_13 ?_
  refine xgrd_e h (fun g2 h => ?_)
  refine y_iald dX1_merge_14 ((hS.f k0 2 100 rfl).2) g2 ?_
  refine x_aload_n dX1_merge_15 1 rfl ?_
  refine y_getr (kd := 100) hS fl_RX1_17 dX1_merge_16 rfl k0 ?_
  refine x_iload dX1_merge_19 0 rfl ?_
  refine x_iload_n dX1_merge_21 4 rfl ?_
  refine x_iadd dX1_merge_22 ?_
  refine xgrd_e h (fun g3 h => ?_)
  refine y_iald dX1_merge_23 ((hS.f k0 2 100 rfl).2) g3 ?_
  refine x_ior dX1_merge_24 ?_
  refine xlet_e h (fun v5_4 ev5_4 h => ?_)
  refine y_istore v5_4 ev5_4 [(5, .int v5_4), (4, .int v4_1), (0, .ref v0), (1, .int v1), (2, .int v2), (3, .int v3)] dX1_merge_25 (by show _ < 7; decide) rfl ?_
  refine x_iconst 0 dX1_merge_27 (by decide) ?_
  refine y_istore 0 rfl [(6, .int 0), (5, .int v5_4), (4, .int v4_1), (0, .ref v0), (1, .int v1), (2, .int v2), (3, .int v3)] dX1_merge_28 (by show _ < 7; decide) rfl ?_
  refine x_lv (lv' := [(0, .ref v0), (4, .int v4_1), (5, .int v5_4), (6, .int 0)]) [3, 2, 1, 0] rfl ?_
  exact t_X1_merge_30 hS F k0 h

theorem dX10_all_0 : decode cX10_all 0 = .ok (.aload_n 0, 1) := by decide +kernel
theorem dX10_all_1 : decode cX10_all 1 = .ok (.getfield 18, 3) := by decide +kernel
theorem dX10_all_4 : decode cX10_all 4 = .ok (.bipush 64, 2) := by decide +kernel
theorem dX10_all_6 : decode cX10_all 6 = .ok (.if_icmp .lt 9, 3) := by decide +kernel
theorem dX10_all_9 : decode cX10_all 9 = .ok (.ldc2_w 22, 3) := by decide +kernel
theorem dX10_all_12 : decode cX10_all 12 = .ok (.goto 11, 3) := by decide +kernel
theorem dX10_all_15 : decode cX10_all 15 = .ok (.lconst 1, 1) := by decide +kernel
theorem dX10_all_16 : decode cX10_all 16 = .ok (.aload_n 0, 1) := by decide +kernel
theorem dX10_all_17 : decode cX10_all 17 = .ok (.getfield 18, 3) := by decide +kernel
theorem dX10_all_20 : decode cX10_all 20 = .ok (.lshl, 1) := by decide +kernel
theorem dX10_all_21 : decode cX10_all 21 = .ok (.lconst 1, 1) := by decide +kernel
theorem dX10_all_22 : decode cX10_all 22 = .ok (.lsub, 1) := by decide +kernel
theorem dX10_all_23 : decode cX10_all 23 = .ok (.lreturn, 1) := by decide +kernel
def f_X10_all (F P : Nat) (S : xSt) (v0 : Nat) (D : xDt) : Option (Int64 × xDt) :=
  if (D.1 v0 0) < 64 then (some ((jlshl 1 (D.1 v0 0)) - 1, D)) else (some ((-1), D))
set_option maxHeartbeats 4000000 in
theorem S_X10_all {F P : Nat} {S : xSt} (hS : xWF S) {v0 : Nat} {D : xDt} {r : Int64 × xDt} (k0 : xK S v0 10) (h : f_X10_all F P S v0 D = some r) : xSp md_X10_all (0, 0, 0) [.ref v0] (S, D) (xQl S r) := by
  unfold f_X10_all at h
  refine xEntry (by decide) (Nat.le_of_ble_eq_true rfl) ?_
  refine x_lv (lv' := [(0, .ref v0)]) [0] rfl ?_
  refine x_aload_n dX10_all_0 0 rfl ?_
  refine y_geti fl_RX10_18 dX10_all_1 rfl k0 ?_
  refine x_bipush 64 dX10_all_4 (by decide) ?_
  refine x_icmp_lt 15 dX10_all_6 (by decide) (fun c => ?_) (fun c => ?_)
  · rw [if_pos c] at h
    refine x_lconst 1 dX10_all_15 (by decide) ?_
    refine x_aload_n dX10_all_16 0 rfl ?_
    refine y_geti fl_RX10_18 dX10_all_17 rfl k0 ?_
    refine x_lshl dX10_all_20 ?_
    refine x_lconst 1 dX10_all_21 (by decide) ?_
    refine x_lsub dX10_all_22 ?_
    obtain rfl := Option.some.inj h
    exact y_lret rfl dX10_all_23
  · rw [if_neg c] at h
    refine x_ldc2 (-1) dX10_all_9 wd_425 ?_
    refine x_goto 23 dX10_all_12 (by decide) ?_
    obtain rfl := Option.some.inj h
    exact y_lret rfl dX10_all_23

theorem dX3_leaf_0 : decode cX3_leaf 0 = .ok (.iload_n 1, 1) := by decide +kernel
theorem dX3_leaf_1 : decode cX3_leaf 1 = .ok (.bipush 48, 2) := by decide +kernel
theorem dX3_leaf_3 : decode cX3_leaf 3 = .ok (.if_icmp .ne 5, 3) := by decide +kernel
theorem dX3_leaf_6 : decode cX3_leaf 6 = .ok (.lconst 0, 1) := by decide +kernel
theorem dX3_leaf_7 : decode cX3_leaf 7 = .ok (.lreturn, 1) := by decide +kernel
theorem dX3_leaf_8 : decode cX3_leaf 8 = .ok (.iload_n 1, 1) := by decide +kernel
theorem dX3_leaf_9 : decode cX3_leaf 9 = .ok (.bipush 49, 2) := by decide +kernel
theorem dX3_leaf_11 : decode cX3_leaf 11 = .ok (.if_icmp .ne 10, 3) := by decide +kernel
theorem dX3_leaf_14 : decode cX3_leaf 14 = .ok (.aload_n 0, 1) := by decide +kernel
theorem dX3_leaf_15 : decode cX3_leaf 15 = .ok (.getfield 32, 3) := by decide +kernel
theorem dX3_leaf_18 : decode cX3_leaf 18 = .ok (.goto 17, 3) := by decide +kernel
theorem dX3_leaf_21 : decode cX3_leaf 21 = .ok (.aload_n 0, 1) := by decide +kernel
theorem dX3_leaf_22 : decode cX3_leaf 22 = .ok (.getfield 32, 3) := by decide +kernel
theorem dX3_leaf_25 : decode cX3_leaf 25 = .ok (.aload_n 2, 1) := by decide +kernel
theorem dX3_leaf_26 : decode cX3_leaf 26 = .ok (.getfield 64, 3) := by decide +kernel
theorem dX3_leaf_29 : decode cX3_leaf 29 = .ok (.iload_n 1, 1) := by decide +kernel
theorem dX3_leaf_30 : decode cX3_leaf 30 = .ok (.bipush 97, 2) := by decide +kernel
theorem dX3_leaf_32 : decode cX3_leaf 32 = .ok (.isub, 1) := by decide +kernel
theorem dX3_leaf_33 : decode cX3_leaf 33 = .ok (.laload, 1) := by decide +kernel
theorem dX3_leaf_34 : decode cX3_leaf 34 = .ok (.land, 1) := by decide +kernel
theorem dX3_leaf_35 : decode cX3_leaf 35 = .ok (.lreturn, 1) := by decide +kernel
def f_X3_leaf (F P : Nat) (S : xSt) (v0 : Nat) (v1 : Int32) (v2 : Nat) (D : xDt) : Option (Int64 × xDt) :=
  if v1 = 48 then (some (0, D)) else (if v1 = 49 then (some (D.2 v0 5, D)) else (xgrd (xin (v1 - 97) (xl S (xr S v2 1))) (some ((D.2 v0 5) &&& (D.2 (xr S v2 1) (v1 - 97).toNatClampNeg), D))))
set_option maxHeartbeats 4000000 in
theorem S_X3_leaf {F P : Nat} {S : xSt} (hS : xWF S) {v0 : Nat} {v1 : Int32} {v2 : Nat} {D : xDt} {r : Int64 × xDt} (k0 : xK S v0 3) (k2 : xK S v2 10) (h : f_X3_leaf F P S v0 v1 v2 D = some r) : xSp md_X3_leaf (0, 0, 0) [.ref v0, .int v1, .ref v2] (S, D) (xQl S r) := by
  unfold f_X3_leaf at h
  refine xEntry (by decide) (Nat.le_of_ble_eq_true rfl) ?_
  refine x_lv (lv' := [(0, .ref v0), (1, .int v1), (2, .ref v2)]) [0, 1, 2] rfl ?_
  refine x_iload_n dX3_leaf_0 1 rfl ?_
  refine x_bipush 48 dX3_leaf_1 (by decide) ?_
  refine x_icmp_ne 8 dX3_leaf_3 (by decide) (fun c => ?_) (fun c => ?_)
  · rw [if_neg c] at h
    refine x_iload_n dX3_leaf_8 1 rfl ?_
    refine x_bipush 49 dX3_leaf_9 (by decide) ?_
    refine x_icmp_ne 21 dX3_leaf_11 (by decide) (fun c => ?_) (fun c => ?_)
    · rw [if_neg c] at h
      refine x_aload_n dX3_leaf_21 0 rfl ?_
      refine y_getl fl_RX3_32 dX3_leaf_22 rfl k0 ?_
      refine x_aload_n dX3_leaf_25 2 rfl ?_
      refine y_getr (kd := 101) hS fl_RX3_64 dX3_leaf_26 rfl k2 ?_
      refine x_iload_n dX3_leaf_29 1 rfl ?_
      refine x_bipush 97 dX3_leaf_30 (by decide) ?_
      refine x_isub dX3_leaf_32 ?_
      refine xgrd_e h (fun g1 h => ?_)
      refine y_lald dX3_leaf_33 ((hS.f k2 1 101 rfl).2) g1 ?_
      refine x_land dX3_leaf_34 ?_
      obtain rfl := Option.some.inj h
      exact y_lret rfl dX3_leaf_35
    · rw [if_pos c] at h
      refine x_aload_n dX3_leaf_14 0 rfl ?_
      refine y_getl fl_RX3_32 dX3_leaf_15 rfl k0 ?_
      refine x_goto 35 dX3_leaf_18 (by decide) ?_
      obtain rfl := Option.some.inj h
      exact y_lret rfl dX3_leaf_35
  · rw [if_pos c] at h
    refine x_lconst 0 dX3_leaf_6 (by decide) ?_
    obtain rfl := Option.some.inj h
    exact y_lret rfl dX3_leaf_7

theorem dX11_isSaying_0 : decode cX11_isSaying 0 = .ok (.iload_n 0, 1) := by decide +kernel
theorem dX11_isSaying_1 : decode cX11_isSaying 1 = .ok (.bipush 91, 2) := by decide +kernel
theorem dX11_isSaying_3 : decode cX11_isSaying 3 = .ok (.if_icmp .eq 9, 3) := by decide +kernel
theorem dX11_isSaying_6 : decode cX11_isSaying 6 = .ok (.iload_n 0, 1) := by decide +kernel
theorem dX11_isSaying_7 : decode cX11_isSaying 7 = .ok (.bipush 123, 2) := by decide +kernel
theorem dX11_isSaying_9 : decode cX11_isSaying 9 = .ok (.if_icmp .ne 7, 3) := by decide +kernel
theorem dX11_isSaying_12 : decode cX11_isSaying 12 = .ok (.iconst 1, 1) := by decide +kernel
theorem dX11_isSaying_13 : decode cX11_isSaying 13 = .ok (.goto 4, 3) := by decide +kernel
theorem dX11_isSaying_16 : decode cX11_isSaying 16 = .ok (.iconst 0, 1) := by decide +kernel
theorem dX11_isSaying_17 : decode cX11_isSaying 17 = .ok (.ireturn, 1) := by decide +kernel
def f_X11_isSaying_12 (F P : Nat) (S : xSt) (D : xDt) : Option (Int32 × xDt) :=
  some (1, D)
set_option maxHeartbeats 4000000 in
theorem t_X11_isSaying_12 {F P : Nat} {S : xSt} (hS : xWF S) {D : xDt} {r : Int32 × xDt} (h : f_X11_isSaying_12 F P S D = some r) : yEx md_X11_isSaying 0 12 [] [] S D (xQi S r) := by
  unfold f_X11_isSaying_12 at h
  refine x_iconst 1 dX11_isSaying_12 (by decide) ?_
  refine x_goto 17 dX11_isSaying_13 (by decide) ?_
  obtain rfl := Option.some.inj h
  exact y_zret rfl rfl dX11_isSaying_17

def f_X11_isSaying (F P : Nat) (S : xSt) (v0 : Int32) (D : xDt) : Option (Int32 × xDt) :=
  if v0 = 91 then (f_X11_isSaying_12 F P S D) else (if v0 = 123 then (f_X11_isSaying_12 F P S D) else (some (0, D)))
set_option maxHeartbeats 4000000 in
theorem S_X11_isSaying {F P : Nat} {S : xSt} (hS : xWF S) {v0 : Int32} {D : xDt} {r : Int32 × xDt} (h : f_X11_isSaying F P S v0 D = some r) : xSp md_X11_isSaying (0, 0, 0) [.int v0] (S, D) (xQi S r) := by
  unfold f_X11_isSaying at h
  refine xEntry (by decide) (Nat.le_of_ble_eq_true rfl) ?_
  refine x_lv (lv' := [(0, .int v0)]) [0] rfl ?_
  refine x_iload_n dX11_isSaying_0 0 rfl ?_
  refine x_bipush 91 dX11_isSaying_1 (by decide) ?_
  refine x_icmp_eq 12 dX11_isSaying_3 (by decide) (fun c => ?_) (fun c => ?_)
  · rw [if_pos c] at h
    refine x_lv (lv' := []) [] rfl ?_
    exact t_X11_isSaying_12 hS h
  · rw [if_neg c] at h
    refine x_iload_n dX11_isSaying_6 0 rfl ?_
    refine x_bipush 123 dX11_isSaying_7 (by decide) ?_
    refine x_icmp_ne 16 dX11_isSaying_9 (by decide) (fun c => ?_) (fun c => ?_)
    · rw [if_neg c] at h
      refine x_iconst 0 dX11_isSaying_16 (by decide) ?_
      obtain rfl := Option.some.inj h
      exact y_zret rfl rfl dX11_isSaying_17
    · rw [if_pos c] at h
      refine x_lv (lv' := []) [] rfl ?_
      exact t_X11_isSaying_12 hS h

theorem dX11_hasTwoParts_0 : decode cX11_hasTwoParts 0 = .ok (.iload_n 0, 1) := by decide +kernel
theorem dX11_hasTwoParts_1 : decode cX11_hasTwoParts 1 = .ok (.invokestatic 259, 3) := by decide +kernel
theorem dX11_hasTwoParts_4 : decode cX11_hasTwoParts 4 = .ok (.ifCond .ne 10, 3) := by decide +kernel
theorem dX11_hasTwoParts_7 : decode cX11_hasTwoParts 7 = .ok (.iload_n 0, 1) := by decide +kernel
theorem dX11_hasTwoParts_8 : decode cX11_hasTwoParts 8 = .ok (.invokestatic 262, 3) := by decide +kernel
theorem dX11_hasTwoParts_11 : decode cX11_hasTwoParts 11 = .ok (.ifCond .eq 7, 3) := by decide +kernel
theorem dX11_hasTwoParts_14 : decode cX11_hasTwoParts 14 = .ok (.iconst 1, 1) := by decide +kernel
theorem dX11_hasTwoParts_15 : decode cX11_hasTwoParts 15 = .ok (.goto 4, 3) := by decide +kernel
theorem dX11_hasTwoParts_18 : decode cX11_hasTwoParts 18 = .ok (.iconst 0, 1) := by decide +kernel
theorem dX11_hasTwoParts_19 : decode cX11_hasTwoParts 19 = .ok (.ireturn, 1) := by decide +kernel
def f_X11_hasTwoParts_14 (F P : Nat) (S : xSt) (D : xDt) : Option (Int32 × xDt) :=
  some (1, D)
set_option maxHeartbeats 4000000 in
theorem t_X11_hasTwoParts_14 {F P : Nat} {S : xSt} (hS : xWF S) {D : xDt} {r : Int32 × xDt} (h : f_X11_hasTwoParts_14 F P S D = some r) : yEx md_X11_hasTwoParts 1 14 [] [] S D (xQi S r) := by
  unfold f_X11_hasTwoParts_14 at h
  refine x_iconst 1 dX11_hasTwoParts_14 (by decide) ?_
  refine x_goto 19 dX11_hasTwoParts_15 (by decide) ?_
  obtain rfl := Option.some.inj h
  exact y_zret rfl rfl dX11_hasTwoParts_19

def f_X11_hasTwoParts (F P : Nat) (S : xSt) (v0 : Int32) (D : xDt) : Option (Int32 × xDt) :=
  (f_X11_isJoin F P S v0 D).bind fun q1 => if q1.1 = 0 then ((f_X11_isSaying F P S v0 q1.2).bind fun q2 => if q2.1 = 0 then (some (0, q2.2)) else (f_X11_hasTwoParts_14 F P S q2.2)) else (f_X11_hasTwoParts_14 F P S q1.2)
set_option maxHeartbeats 4000000 in
theorem S_X11_hasTwoParts {F P : Nat} {S : xSt} (hS : xWF S) {v0 : Int32} {D : xDt} {r : Int32 × xDt} (h : f_X11_hasTwoParts F P S v0 D = some r) : xSp md_X11_hasTwoParts (1, 0, 0) [.int v0] (S, D) (xQi S r) := by
  unfold f_X11_hasTwoParts at h
  refine xEntry (by decide) (Nat.le_of_ble_eq_true rfl) ?_
  refine x_lv (lv' := [(0, .int v0)]) [0] rfl ?_
  refine x_iload_n dX11_hasTwoParts_0 0 rfl ?_
  refine xbnd_e h (fun q1 e1 h => ?_)
  refine y_callSi (As := [.int v0]) (q := q1) cs_RX11_259 dX11_hasTwoParts_1 rfl (Nat.le_of_ble_eq_true rfl) (by omega) (S_X11_isJoin hS e1) ?_
  refine x_if_ne 14 dX11_hasTwoParts_4 (by decide) (fun c => ?_) (fun c => ?_)
  · rw [if_neg c] at h
    refine x_lv (lv' := []) [] rfl ?_
    exact t_X11_hasTwoParts_14 hS h
  · rw [if_pos c] at h
    refine x_iload_n dX11_hasTwoParts_7 0 rfl ?_
    refine xbnd_e h (fun q2 e2 h => ?_)
    refine y_callSi (As := [.int v0]) (q := q2) cs_RX11_262 dX11_hasTwoParts_8 rfl (Nat.le_of_ble_eq_true rfl) (by omega) (S_X11_isSaying hS e2) ?_
    refine x_if_eq 18 dX11_hasTwoParts_11 (by decide) (fun c => ?_) (fun c => ?_)
    · rw [if_pos c] at h
      refine x_iconst 0 dX11_hasTwoParts_18 (by decide) ?_
      obtain rfl := Option.some.inj h
      exact y_zret rfl rfl dX11_hasTwoParts_19
    · rw [if_neg c] at h
      refine x_lv (lv' := []) [] rfl ?_
      exact t_X11_hasTwoParts_14 hS h

theorem dX3_joined_0 : decode cX3_joined 0 = .ok (.iload_n 1, 1) := by decide +kernel
theorem dX3_joined_1 : decode cX3_joined 1 = .ok (.lookupswitch 67 #[(38, 62), (61, 43), (123, 62), (124, 57)], 43) := by decide +kernel
theorem dX3_joined_44 : decode cX3_joined 44 = .ok (.aload_n 0, 1) := by decide +kernel
theorem dX3_joined_45 : decode cX3_joined 45 = .ok (.getfield 32, 3) := by decide +kernel
theorem dX3_joined_48 : decode cX3_joined 48 = .ok (.lload_n 2, 1) := by decide +kernel
theorem dX3_joined_49 : decode cX3_joined 49 = .ok (.lload 4, 2) := by decide +kernel
theorem dX3_joined_51 : decode cX3_joined 51 = .ok (.lxor, 1) := by decide +kernel
theorem dX3_joined_52 : decode cX3_joined 52 = .ok (.ldc2_w 81, 3) := by decide +kernel
theorem dX3_joined_55 : decode cX3_joined 55 = .ok (.lxor, 1) := by decide +kernel
theorem dX3_joined_56 : decode cX3_joined 56 = .ok (.land, 1) := by decide +kernel
theorem dX3_joined_57 : decode cX3_joined 57 = .ok (.lreturn, 1) := by decide +kernel
theorem dX3_joined_58 : decode cX3_joined 58 = .ok (.lload_n 2, 1) := by decide +kernel
theorem dX3_joined_59 : decode cX3_joined 59 = .ok (.lload 4, 2) := by decide +kernel
theorem dX3_joined_61 : decode cX3_joined 61 = .ok (.lor, 1) := by decide +kernel
theorem dX3_joined_62 : decode cX3_joined 62 = .ok (.lreturn, 1) := by decide +kernel
theorem dX3_joined_63 : decode cX3_joined 63 = .ok (.lload_n 2, 1) := by decide +kernel
theorem dX3_joined_64 : decode cX3_joined 64 = .ok (.lload 4, 2) := by decide +kernel
theorem dX3_joined_66 : decode cX3_joined 66 = .ok (.land, 1) := by decide +kernel
theorem dX3_joined_67 : decode cX3_joined 67 = .ok (.lreturn, 1) := by decide +kernel
theorem dX3_joined_68 : decode cX3_joined 68 = .ok (.aload_n 0, 1) := by decide +kernel
theorem dX3_joined_69 : decode cX3_joined 69 = .ok (.getfield 32, 3) := by decide +kernel
theorem dX3_joined_72 : decode cX3_joined 72 = .ok (.lload_n 2, 1) := by decide +kernel
theorem dX3_joined_73 : decode cX3_joined 73 = .ok (.ldc2_w 81, 3) := by decide +kernel
theorem dX3_joined_76 : decode cX3_joined 76 = .ok (.lxor, 1) := by decide +kernel
theorem dX3_joined_77 : decode cX3_joined 77 = .ok (.land, 1) := by decide +kernel
theorem dX3_joined_78 : decode cX3_joined 78 = .ok (.lload 4, 2) := by decide +kernel
theorem dX3_joined_80 : decode cX3_joined 80 = .ok (.lor, 1) := by decide +kernel
theorem dX3_joined_81 : decode cX3_joined 81 = .ok (.lreturn, 1) := by decide +kernel
def f_X3_joined (F P : Nat) (S : xSt) (v0 : Nat) (v1 : Int32) (v2 : Int64) (v4 : Int64) (D : xDt) : Option (Int64 × xDt) :=
  if v1 = 38 then (some (v2 &&& v4, D)) else (if v1 = 61 then (some ((D.2 v0 5) &&& ((v2 ^^^ v4) ^^^ (-1)), D)) else (if v1 = 123 then (some (v2 &&& v4, D)) else (if v1 = 124 then (some (v2 ||| v4, D)) else (some (((D.2 v0 5) &&& (v2 ^^^ (-1))) ||| v4, D)))))
set_option maxHeartbeats 4000000 in
theorem S_X3_joined {F P : Nat} {S : xSt} (hS : xWF S) {v0 : Nat} {v1 : Int32} {v2 : Int64} {v4 : Int64} {D : xDt} {r : Int64 × xDt} (k0 : xK S v0 3) (h : f_X3_joined F P S v0 v1 v2 v4 D = some r) : xSp md_X3_joined (0, 0, 0) [.ref v0, .int v1, .long v2, .long v4] (S, D) (xQl S r) := by
  unfold f_X3_joined at h
  refine xEntry (by decide) (Nat.le_of_ble_eq_true rfl) ?_
  refine x_lv (lv' := [(0, .ref v0), (1, .int v1), (2, .long v2), (4, .long v4)]) [0, 1, 2, 3] rfl ?_
  refine x_iload_n dX3_joined_0 1 rfl ?_
  by_cases c0 : v1 = 38
  · rw [if_pos c0] at h
    refine x_ls 63 dX3_joined_1 (by decide) (by rw [c0]) (by decide) ?_
    refine x_lload_n dX3_joined_63 2 rfl ?_
    refine x_lload dX3_joined_64 3 rfl ?_
    refine x_land dX3_joined_66 ?_
    obtain rfl := Option.some.inj h
    exact y_lret rfl dX3_joined_67
  · rw [if_neg c0] at h
    by_cases c1 : v1 = 61
    · rw [if_pos c1] at h
      refine x_ls 44 dX3_joined_1 (by decide) (by rw [c1]) (by decide) ?_
      refine x_aload_n dX3_joined_44 0 rfl ?_
      refine y_getl fl_RX3_32 dX3_joined_45 rfl k0 ?_
      refine x_lload_n dX3_joined_48 2 rfl ?_
      refine x_lload dX3_joined_49 3 rfl ?_
      refine x_lxor dX3_joined_51 ?_
      refine x_ldc2 (-1) dX3_joined_52 wd_629 ?_
      refine x_lxor dX3_joined_55 ?_
      refine x_land dX3_joined_56 ?_
      obtain rfl := Option.some.inj h
      exact y_lret rfl dX3_joined_57
    · rw [if_neg c1] at h
      by_cases c2 : v1 = 123
      · rw [if_pos c2] at h
        refine x_ls 63 dX3_joined_1 (by decide) (by rw [c2]) (by decide) ?_
        refine x_lload_n dX3_joined_63 2 rfl ?_
        refine x_lload dX3_joined_64 3 rfl ?_
        refine x_land dX3_joined_66 ?_
        obtain rfl := Option.some.inj h
        exact y_lret rfl dX3_joined_67
      · rw [if_neg c2] at h
        by_cases c3 : v1 = 124
        · rw [if_pos c3] at h
          refine x_ls 58 dX3_joined_1 (by decide) (by rw [c3]) (by decide) ?_
          refine x_lload_n dX3_joined_58 2 rfl ?_
          refine x_lload dX3_joined_59 3 rfl ?_
          refine x_lor dX3_joined_61 ?_
          obtain rfl := Option.some.inj h
          exact y_lret rfl dX3_joined_62
        · rw [if_neg c3] at h
          refine x_ls (off := 67) 68 dX3_joined_1 (by decide) ((lv_osw c0 (by decide)).trans ((lv_osw c1 (by decide)).trans ((lv_osw c2 (by decide)).trans ((lv_osw c3 (by decide)).trans rfl)))) (by decide) ?_
          refine x_aload_n dX3_joined_68 0 rfl ?_
          refine y_getl fl_RX3_32 dX3_joined_69 rfl k0 ?_
          refine x_lload_n dX3_joined_72 2 rfl ?_
          refine x_ldc2 (-1) dX3_joined_73 wd_629 ?_
          refine x_lxor dX3_joined_76 ?_
          refine x_land dX3_joined_77 ?_
          refine x_lload dX3_joined_78 3 rfl ?_
          refine x_lor dX3_joined_80 ?_
          obtain rfl := Option.some.inj h
          exact y_lret rfl dX3_joined_81

theorem dX10_near_0 : decode cX10_near 0 = .ok (.lconst 0, 1) := by decide +kernel
theorem dX10_near_1 : decode cX10_near 1 = .ok (.lstore 4, 2) := by decide +kernel
theorem dX10_near_3 : decode cX10_near 3 = .ok (.iconst 0, 1) := by decide +kernel
theorem dX10_near_4 : decode cX10_near 4 = .ok (.istore 6, 2) := by decide +kernel
theorem dX10_near_6 : decode cX10_near 6 = .ok (.iload 6, 2) := by decide +kernel
theorem dX10_near_8 : decode cX10_near 8 = .ok (.aload_n 0, 1) := by decide +kernel
theorem dX10_near_9 : decode cX10_near 9 = .ok (.getfield 18, 3) := by decide +kernel
theorem dX10_near_12 : decode cX10_near 12 = .ok (.if_icmp .ge 44, 3) := by decide +kernel
theorem dX10_near_15 : decode cX10_near 15 = .ok (.lload_n 2, 1) := by decide +kernel
theorem dX10_near_16 : decode cX10_near 16 = .ok (.lload 4, 2) := by decide +kernel
theorem dX10_near_18 : decode cX10_near 18 = .ok (.ldc2_w 22, 3) := by decide +kernel
theorem dX10_near_21 : decode cX10_near 21 = .ok (.lxor, 1) := by decide +kernel
theorem dX10_near_22 : decode cX10_near 22 = .ok (.land, 1) := by decide +kernel
theorem dX10_near_23 : decode cX10_near 23 = .ok (.iload 6, 2) := by decide +kernel
theorem dX10_near_25 : decode cX10_near 25 = .ok (.lushr, 1) := by decide +kernel
theorem dX10_near_26 : decode cX10_near 26 = .ok (.lconst 1, 1) := by decide +kernel
theorem dX10_near_27 : decode cX10_near 27 = .ok (.land, 1) := by decide +kernel
theorem dX10_near_28 : decode cX10_near 28 = .ok (.lconst 0, 1) := by decide +kernel
theorem dX10_near_29 : decode cX10_near 29 = .ok (.lcmp, 1) := by decide +kernel
theorem dX10_near_30 : decode cX10_near 30 = .ok (.ifCond .eq 20, 3) := by decide +kernel
theorem dX10_near_33 : decode cX10_near 33 = .ok (.lload 4, 2) := by decide +kernel
theorem dX10_near_35 : decode cX10_near 35 = .ok (.aload_n 0, 1) := by decide +kernel
theorem dX10_near_36 : decode cX10_near 36 = .ok (.getfield 15, 3) := by decide +kernel
theorem dX10_near_39 : decode cX10_near 39 = .ok (.iload_n 1, 1) := by decide +kernel
theorem dX10_near_40 : decode cX10_near 40 = .ok (.bipush 64, 2) := by decide +kernel
theorem dX10_near_42 : decode cX10_near 42 = .ok (.imul, 1) := by decide +kernel
theorem dX10_near_43 : decode cX10_near 43 = .ok (.iload 6, 2) := by decide +kernel
theorem dX10_near_45 : decode cX10_near 45 = .ok (.iadd, 1) := by decide +kernel
theorem dX10_near_46 : decode cX10_near 46 = .ok (.laload, 1) := by decide +kernel
theorem dX10_near_47 : decode cX10_near 47 = .ok (.lor, 1) := by decide +kernel
theorem dX10_near_48 : decode cX10_near 48 = .ok (.lstore 4, 2) := by decide +kernel
theorem dX10_near_50 : decode cX10_near 50 = .ok (.iinc 6 1, 3) := by decide +kernel
theorem dX10_near_53 : decode cX10_near 53 = .ok (.goto (-47), 3) := by decide +kernel
theorem dX10_near_56 : decode cX10_near 56 = .ok (.lload 4, 2) := by decide +kernel
theorem dX10_near_58 : decode cX10_near 58 = .ok (.lreturn, 1) := by decide +kernel
def f_X10_near_50 (F P : Nat) (S : xSt) (rec_6 : Nat → Int32 → Int64 → Int64 → Int32 → xDt → Option (Int64 × xDt)) (v0 : Nat) (v1 : Int32) (v2 : Int64) (v4 : Int64) (v6 : Int32) (D : xDt) : Option (Int64 × xDt) :=
  xlet (v6 + 1) fun v6_1 => rec_6 v0 v1 v2 v4 v6_1 D
set_option maxHeartbeats 4000000 in
theorem t_X10_near_50 {F P : Nat} {S : xSt} (hS : xWF S) {rec_6 : Nat → Int32 → Int64 → Int64 → Int32 → xDt → Option (Int64 × xDt)} (hrec_6 : ∀ {v0 : Nat} {v1 : Int32} {v2 : Int64} {v4 : Int64} {v6 : Int32} {D : xDt} {r : Int64 × xDt}, xK S v0 10 → rec_6 v0 v1 v2 v4 v6 D = some r → yEx md_X10_near 0 6 [(0, .ref v0), (1, .int v1), (2, .long v2), (4, .long v4), (6, .int v6)] [] S D (xQl S r)) {v0 : Nat} {v1 : Int32} {v2 : Int64} {v4 : Int64} {v6 : Int32} {D : xDt} {r : Int64 × xDt} (k0 : xK S v0 10) (h : f_X10_near_50 F P S rec_6 v0 v1 v2 v4 v6 D = some r) : yEx md_X10_near 0 50 [(0, .ref v0), (1, .int v1), (2, .long v2), (4, .long v4), (6, .int v6)] [] S D (xQl S r) := by
  unfold f_X10_near_50 at h
  refine xlet_e h (fun v6_1 ev6_1 h => ?_)
  refine y_iinc v6_1 ev6_1 (by decide) [(6, .int v6_1), (0, .ref v0), (1, .int v1), (2, .long v2), (4, .long v4)] dX10_near_50 4 rfl (by show _ < 7; decide) rfl ?_
  refine x_goto 6 dX10_near_53 (by decide) ?_
  refine x_lv (lv' := [(0, .ref v0), (1, .int v1), (2, .long v2), (4, .long v4), (6, .int v6_1)]) [1, 2, 3, 4, 0] rfl ?_
  exact hrec_6 k0 h

def f_X10_near_6s (F P : Nat) (S : xSt) (rec_6 : Nat → Int32 → Int64 → Int64 → Int32 → xDt → Option (Int64 × xDt)) (v0 : Nat) (v1 : Int32) (v2 : Int64) (v4 : Int64) (v6 : Int32) (D : xDt) : Option (Int64 × xDt) :=
  if (D.1 v0 0) ≤ v6 then (some (v4, D)) else (if (lg_cmp ((jlushr (v2 &&& (v4 ^^^ (-1))) v6) &&& 1) 0) = 0 then (f_X10_near_50 F P S rec_6 v0 v1 v2 v4 v6 D) else (xgrd (xin ((v1 * 64) + v6) (xl S (xr S v0 2))) (xlet (v4 ||| (D.2 (xr S v0 2) ((v1 * 64) + v6).toNatClampNeg)) fun v4_2 => f_X10_near_50 F P S rec_6 v0 v1 v2 v4_2 v6 D)))
def f_X10_near_6 (F P : Nat) (S : xSt) : Nat → Nat → Int32 → Int64 → Int64 → Int32 → xDt → Option (Int64 × xDt)
  | 0 => fun _ _ _ _ _ _ => none
  | n + 1 => f_X10_near_6s F P S (f_X10_near_6 F P S n)
set_option maxHeartbeats 4000000 in
theorem t_X10_near_6s {F P : Nat} {S : xSt} (hS : xWF S) {rec_6 : Nat → Int32 → Int64 → Int64 → Int32 → xDt → Option (Int64 × xDt)} (hrec_6 : ∀ {v0 : Nat} {v1 : Int32} {v2 : Int64} {v4 : Int64} {v6 : Int32} {D : xDt} {r : Int64 × xDt}, xK S v0 10 → rec_6 v0 v1 v2 v4 v6 D = some r → yEx md_X10_near 0 6 [(0, .ref v0), (1, .int v1), (2, .long v2), (4, .long v4), (6, .int v6)] [] S D (xQl S r)) {v0 : Nat} {v1 : Int32} {v2 : Int64} {v4 : Int64} {v6 : Int32} {D : xDt} {r : Int64 × xDt} (k0 : xK S v0 10) (h : f_X10_near_6s F P S rec_6 v0 v1 v2 v4 v6 D = some r) : yEx md_X10_near 0 6 [(0, .ref v0), (1, .int v1), (2, .long v2), (4, .long v4), (6, .int v6)] [] S D (xQl S r) := by
  unfold f_X10_near_6s at h
  refine x_iload dX10_near_6 4 rfl ?_
  refine x_aload_n dX10_near_8 0 rfl ?_
  refine y_geti fl_RX10_18 dX10_near_9 rfl k0 ?_
  refine x_icmp_ge 56 dX10_near_12 (by decide) (fun c => ?_) (fun c => ?_)
  · rw [if_pos c] at h
    refine x_lload dX10_near_56 3 rfl ?_
    obtain rfl := Option.some.inj h
    exact y_lret rfl dX10_near_58
  · rw [if_neg c] at h
    refine x_lload_n dX10_near_15 2 rfl ?_
    refine x_lload dX10_near_16 3 rfl ?_
    refine x_ldc2 (-1) dX10_near_18 wd_425 ?_
    refine x_lxor dX10_near_21 ?_
    refine x_land dX10_near_22 ?_
    refine x_iload dX10_near_23 4 rfl ?_
    refine x_lushr dX10_near_25 ?_
    refine x_lconst 1 dX10_near_26 (by decide) ?_
    refine x_land dX10_near_27 ?_
    refine x_lconst 0 dX10_near_28 (by decide) ?_
    refine x_lcmp dX10_near_29 ?_
    refine x_if_eq 50 dX10_near_30 (by decide) (fun c => ?_) (fun c => ?_)
    · rw [if_pos c] at h
      exact t_X10_near_50 hS hrec_6 k0 h
    · rw [if_neg c] at h
      refine x_lload dX10_near_33 3 rfl ?_
      refine x_aload_n dX10_near_35 0 rfl ?_
      refine y_getr (kd := 101) hS fl_RX10_15 dX10_near_36 rfl k0 ?_
      refine x_iload_n dX10_near_39 1 rfl ?_
      refine x_bipush 64 dX10_near_40 (by decide) ?_
      refine x_imul dX10_near_42 ?_
      refine x_iload dX10_near_43 4 rfl ?_
      refine x_iadd dX10_near_45 ?_
      refine xgrd_e h (fun g1 h => ?_)
      refine y_lald dX10_near_46 ((hS.f k0 2 101 rfl).2) g1 ?_
      refine x_lor dX10_near_47 ?_
      refine xlet_e h (fun v4_2 ev4_2 h => ?_)
      refine y_lstore v4_2 ev4_2 [(4, .long v4_2), (0, .ref v0), (1, .int v1), (2, .long v2), (6, .int v6)] dX10_near_48 (by show _ < 7; decide) rfl ?_
      refine x_lv (lv' := [(0, .ref v0), (1, .int v1), (2, .long v2), (4, .long v4_2), (6, .int v6)]) [1, 2, 3, 0, 4] rfl ?_
      exact t_X10_near_50 hS hrec_6 k0 h
theorem t_X10_near_6 {F P : Nat} {S : xSt} (hS : xWF S) : ∀ (n : Nat) {v0 : Nat} {v1 : Int32} {v2 : Int64} {v4 : Int64} {v6 : Int32} {D : xDt} {r : Int64 × xDt}, xK S v0 10 → f_X10_near_6 F P S n v0 v1 v2 v4 v6 D = some r → yEx md_X10_near 0 6 [(0, .ref v0), (1, .int v1), (2, .long v2), (4, .long v4), (6, .int v6)] [] S D (xQl S r) := by
  intro n
  induction n with
  | zero => intros; rename_i h; cases h
  | succ n ih =>
    intro v0 v1 v2 v4 v6 D r k0 h
    exact t_X10_near_6s hS (fun k0 h => ih k0 h) k0 h

def f_X10_near (F P : Nat) (S : xSt) (v0 : Nat) (v1 : Int32) (v2 : Int64) (D : xDt) : Option (Int64 × xDt) :=
  f_X10_near_6 F P S F v0 v1 v2 0 0 D
set_option maxHeartbeats 4000000 in
theorem S_X10_near {F P : Nat} {S : xSt} (hS : xWF S) {v0 : Nat} {v1 : Int32} {v2 : Int64} {D : xDt} {r : Int64 × xDt} (k0 : xK S v0 10) (h : f_X10_near F P S v0 v1 v2 D = some r) : xSp md_X10_near (0, 0, 0) [.ref v0, .int v1, .long v2] (S, D) (xQl S r) := by
  unfold f_X10_near at h
  refine xEntry (by decide) (Nat.le_of_ble_eq_true rfl) ?_
  refine x_lv (lv' := [(0, .ref v0), (1, .int v1), (2, .long v2)]) [0, 1, 2] rfl ?_
  refine x_lconst 0 dX10_near_0 (by decide) ?_
  refine y_lstore 0 rfl [(4, .long 0), (0, .ref v0), (1, .int v1), (2, .long v2)] dX10_near_1 (by show _ < 7; decide) rfl ?_
  refine x_iconst 0 dX10_near_3 (by decide) ?_
  refine y_istore 0 rfl [(6, .int 0), (4, .long 0), (0, .ref v0), (1, .int v1), (2, .long v2)] dX10_near_4 (by show _ < 7; decide) rfl ?_
  refine x_lv (lv' := [(0, .ref v0), (1, .int v1), (2, .long v2), (4, .long 0), (6, .int 0)]) [2, 3, 4, 1, 0] rfl ?_
  exact t_X10_near_6 hS F k0 h

theorem dX3_known_0 : decode cX3_known 0 = .ok (.lconst 0, 1) := by decide +kernel
theorem dX3_known_1 : decode cX3_known 1 = .ok (.lstore 5, 2) := by decide +kernel
theorem dX3_known_3 : decode cX3_known 3 = .ok (.iconst 0, 1) := by decide +kernel
theorem dX3_known_4 : decode cX3_known 4 = .ok (.istore 7, 2) := by decide +kernel
theorem dX3_known_6 : decode cX3_known 6 = .ok (.iload 7, 2) := by decide +kernel
theorem dX3_known_8 : decode cX3_known 8 = .ok (.iconst 4, 1) := by decide +kernel
theorem dX3_known_9 : decode cX3_known 9 = .ok (.if_icmp .ge 40, 3) := by decide +kernel
theorem dX3_known_12 : decode cX3_known 12 = .ok (.iload_n 1, 1) := by decide +kernel
theorem dX3_known_13 : decode cX3_known 13 = .ok (.iload 7, 2) := by decide +kernel
theorem dX3_known_15 : decode cX3_known 15 = .ok (.invokestatic 92, 3) := by decide +kernel
theorem dX3_known_18 : decode cX3_known 18 = .ok (.ifCond .eq 25, 3) := by decide +kernel
theorem dX3_known_21 : decode cX3_known 21 = .ok (.lload 5, 2) := by decide +kernel
theorem dX3_known_23 : decode cX3_known 23 = .ok (.aload 4, 2) := by decide +kernel
theorem dX3_known_25 : decode cX3_known 25 = .ok (.iload 7, 2) := by decide +kernel
theorem dX3_known_27 : decode cX3_known 27 = .ok (.aload_n 0, 1) := by decide +kernel
theorem dX3_known_28 : decode cX3_known 28 = .ok (.getfield 32, 3) := by decide +kernel
theorem dX3_known_31 : decode cX3_known 31 = .ok (.lload_n 2, 1) := by decide +kernel
theorem dX3_known_32 : decode cX3_known 32 = .ok (.ldc2_w 81, 3) := by decide +kernel
theorem dX3_known_35 : decode cX3_known 35 = .ok (.lxor, 1) := by decide +kernel
theorem dX3_known_36 : decode cX3_known 36 = .ok (.land, 1) := by decide +kernel
theorem dX3_known_37 : decode cX3_known 37 = .ok (.invokevirtual 96, 3) := by decide +kernel
theorem dX3_known_40 : decode cX3_known 40 = .ok (.lor, 1) := by decide +kernel
theorem dX3_known_41 : decode cX3_known 41 = .ok (.lstore 5, 2) := by decide +kernel
theorem dX3_known_43 : decode cX3_known 43 = .ok (.iinc 7 1, 3) := by decide +kernel
theorem dX3_known_46 : decode cX3_known 46 = .ok (.goto (-40), 3) := by decide +kernel
theorem dX3_known_49 : decode cX3_known 49 = .ok (.aload_n 0, 1) := by decide +kernel
theorem dX3_known_50 : decode cX3_known 50 = .ok (.getfield 32, 3) := by decide +kernel
theorem dX3_known_53 : decode cX3_known 53 = .ok (.lload 5, 2) := by decide +kernel
theorem dX3_known_55 : decode cX3_known 55 = .ok (.ldc2_w 81, 3) := by decide +kernel
theorem dX3_known_58 : decode cX3_known 58 = .ok (.lxor, 1) := by decide +kernel
theorem dX3_known_59 : decode cX3_known 59 = .ok (.land, 1) := by decide +kernel
theorem dX3_known_60 : decode cX3_known 60 = .ok (.lreturn, 1) := by decide +kernel
def f_X3_known_43 (F P : Nat) (S : xSt) (rec_6 : Nat → Int32 → Int64 → Nat → Int64 → Int32 → xDt → Option (Int64 × xDt)) (v0 : Nat) (v1 : Int32) (v2 : Int64) (v4 : Nat) (v5 : Int64) (v7 : Int32) (D : xDt) : Option (Int64 × xDt) :=
  xlet (v7 + 1) fun v7_1 => rec_6 v0 v1 v2 v4 v5 v7_1 D
set_option maxHeartbeats 4000000 in
theorem t_X3_known_43 {F P : Nat} {S : xSt} (hS : xWF S) {rec_6 : Nat → Int32 → Int64 → Nat → Int64 → Int32 → xDt → Option (Int64 × xDt)} (hrec_6 : ∀ {v0 : Nat} {v1 : Int32} {v2 : Int64} {v4 : Nat} {v5 : Int64} {v7 : Int32} {D : xDt} {r : Int64 × xDt}, xK S v0 3 → xK S v4 10 → rec_6 v0 v1 v2 v4 v5 v7 D = some r → yEx md_X3_known 1 6 [(0, .ref v0), (1, .int v1), (2, .long v2), (4, .ref v4), (5, .long v5), (7, .int v7)] [] S D (xQl S r)) {v0 : Nat} {v1 : Int32} {v2 : Int64} {v4 : Nat} {v5 : Int64} {v7 : Int32} {D : xDt} {r : Int64 × xDt} (k0 : xK S v0 3) (k4 : xK S v4 10) (h : f_X3_known_43 F P S rec_6 v0 v1 v2 v4 v5 v7 D = some r) : yEx md_X3_known 1 43 [(0, .ref v0), (1, .int v1), (2, .long v2), (4, .ref v4), (5, .long v5), (7, .int v7)] [] S D (xQl S r) := by
  unfold f_X3_known_43 at h
  refine xlet_e h (fun v7_1 ev7_1 h => ?_)
  refine y_iinc v7_1 ev7_1 (by decide) [(7, .int v7_1), (0, .ref v0), (1, .int v1), (2, .long v2), (4, .ref v4), (5, .long v5)] dX3_known_43 5 rfl (by show _ < 8; decide) rfl ?_
  refine x_goto 6 dX3_known_46 (by decide) ?_
  refine x_lv (lv' := [(0, .ref v0), (1, .int v1), (2, .long v2), (4, .ref v4), (5, .long v5), (7, .int v7_1)]) [1, 2, 3, 4, 5, 0] rfl ?_
  exact hrec_6 k0 k4 h

def f_X3_known_6s (F P : Nat) (S : xSt) (rec_6 : Nat → Int32 → Int64 → Nat → Int64 → Int32 → xDt → Option (Int64 × xDt)) (v0 : Nat) (v1 : Int32) (v2 : Int64) (v4 : Nat) (v5 : Int64) (v7 : Int32) (D : xDt) : Option (Int64 × xDt) :=
  if 4 ≤ v7 then (some ((D.2 v0 5) &&& (v5 ^^^ (-1)), D)) else ((f_X11_hasAgent F P S v1 v7 D).bind fun q1 => if q1.1 = 0 then (f_X3_known_43 F P S rec_6 v0 v1 v2 v4 v5 v7 q1.2) else ((f_X10_near F P S v4 v7 ((q1.2.2 v0 5) &&& (v2 ^^^ (-1))) q1.2).bind fun q2 => xlet (v5 ||| q2.1) fun v5_3 => f_X3_known_43 F P S rec_6 v0 v1 v2 v4 v5_3 v7 q2.2))
def f_X3_known_6 (F P : Nat) (S : xSt) : Nat → Nat → Int32 → Int64 → Nat → Int64 → Int32 → xDt → Option (Int64 × xDt)
  | 0 => fun _ _ _ _ _ _ _ => none
  | n + 1 => f_X3_known_6s F P S (f_X3_known_6 F P S n)
set_option maxHeartbeats 4000000 in
theorem t_X3_known_6s {F P : Nat} {S : xSt} (hS : xWF S) {rec_6 : Nat → Int32 → Int64 → Nat → Int64 → Int32 → xDt → Option (Int64 × xDt)} (hrec_6 : ∀ {v0 : Nat} {v1 : Int32} {v2 : Int64} {v4 : Nat} {v5 : Int64} {v7 : Int32} {D : xDt} {r : Int64 × xDt}, xK S v0 3 → xK S v4 10 → rec_6 v0 v1 v2 v4 v5 v7 D = some r → yEx md_X3_known 1 6 [(0, .ref v0), (1, .int v1), (2, .long v2), (4, .ref v4), (5, .long v5), (7, .int v7)] [] S D (xQl S r)) {v0 : Nat} {v1 : Int32} {v2 : Int64} {v4 : Nat} {v5 : Int64} {v7 : Int32} {D : xDt} {r : Int64 × xDt} (k0 : xK S v0 3) (k4 : xK S v4 10) (h : f_X3_known_6s F P S rec_6 v0 v1 v2 v4 v5 v7 D = some r) : yEx md_X3_known 1 6 [(0, .ref v0), (1, .int v1), (2, .long v2), (4, .ref v4), (5, .long v5), (7, .int v7)] [] S D (xQl S r) := by
  unfold f_X3_known_6s at h
  refine x_iload dX3_known_6 5 rfl ?_
  refine x_iconst 4 dX3_known_8 (by decide) ?_
  refine x_icmp_ge 49 dX3_known_9 (by decide) (fun c => ?_) (fun c => ?_)
  · rw [if_pos c] at h
    refine x_aload_n dX3_known_49 0 rfl ?_
    refine y_getl fl_RX3_32 dX3_known_50 rfl k0 ?_
    refine x_lload dX3_known_53 4 rfl ?_
    refine x_ldc2 (-1) dX3_known_55 wd_629 ?_
    refine x_lxor dX3_known_58 ?_
    refine x_land dX3_known_59 ?_
    obtain rfl := Option.some.inj h
    exact y_lret rfl dX3_known_60
  · rw [if_neg c] at h
    refine x_iload_n dX3_known_12 1 rfl ?_
    refine x_iload dX3_known_13 5 rfl ?_
    refine xbnd_e h (fun q1 e1 h => ?_)
    refine y_callNi (As := [.int v1, .int v7]) (q := q1) cn_RX3_92 dX3_known_15 rfl (Nat.le_of_ble_eq_true rfl) (by omega) (S_X11_hasAgent hS e1) ?_
    refine x_if_eq 43 dX3_known_18 (by decide) (fun c => ?_) (fun c => ?_)
    · rw [if_pos c] at h
      exact t_X3_known_43 hS hrec_6 k0 k4 h
    · rw [if_neg c] at h
      refine x_lload dX3_known_21 4 rfl ?_
      refine x_aload dX3_known_23 3 rfl ?_
      refine x_iload dX3_known_25 5 rfl ?_
      refine x_aload_n dX3_known_27 0 rfl ?_
      refine y_getl fl_RX3_32 dX3_known_28 rfl k0 ?_
      refine x_lload_n dX3_known_31 2 rfl ?_
      refine x_ldc2 (-1) dX3_known_32 wd_629 ?_
      refine x_lxor dX3_known_35 ?_
      refine x_land dX3_known_36 ?_
      refine xbnd_e h (fun q2 e2 h => ?_)
      refine y_callVl (As := [.int v7, .long ((q1.2.2 v0 5) &&& (v2 ^^^ (-1)))]) (q := q2) cv_RX3_96 dX3_known_37 k4 rfl (Nat.le_of_ble_eq_true rfl) (by omega) (S_X10_near hS k4 e2) ?_
      refine x_lor dX3_known_40 ?_
      refine xlet_e h (fun v5_3 ev5_3 h => ?_)
      refine y_lstore v5_3 ev5_3 [(5, .long v5_3), (0, .ref v0), (1, .int v1), (2, .long v2), (4, .ref v4), (7, .int v7)] dX3_known_41 (by show _ < 8; decide) rfl ?_
      refine x_lv (lv' := [(0, .ref v0), (1, .int v1), (2, .long v2), (4, .ref v4), (5, .long v5_3), (7, .int v7)]) [1, 2, 3, 4, 0, 5] rfl ?_
      exact t_X3_known_43 hS hrec_6 k0 k4 h
theorem t_X3_known_6 {F P : Nat} {S : xSt} (hS : xWF S) : ∀ (n : Nat) {v0 : Nat} {v1 : Int32} {v2 : Int64} {v4 : Nat} {v5 : Int64} {v7 : Int32} {D : xDt} {r : Int64 × xDt}, xK S v0 3 → xK S v4 10 → f_X3_known_6 F P S n v0 v1 v2 v4 v5 v7 D = some r → yEx md_X3_known 1 6 [(0, .ref v0), (1, .int v1), (2, .long v2), (4, .ref v4), (5, .long v5), (7, .int v7)] [] S D (xQl S r) := by
  intro n
  induction n with
  | zero => intros; rename_i h; cases h
  | succ n ih =>
    intro v0 v1 v2 v4 v5 v7 D r k0 k4 h
    exact t_X3_known_6s hS (fun k0 k4 h => ih k0 k4 h) k0 k4 h

def f_X3_known (F P : Nat) (S : xSt) (v0 : Nat) (v1 : Int32) (v2 : Int64) (v4 : Nat) (D : xDt) : Option (Int64 × xDt) :=
  f_X3_known_6 F P S F v0 v1 v2 v4 0 0 D
set_option maxHeartbeats 4000000 in
theorem S_X3_known {F P : Nat} {S : xSt} (hS : xWF S) {v0 : Nat} {v1 : Int32} {v2 : Int64} {v4 : Nat} {D : xDt} {r : Int64 × xDt} (k0 : xK S v0 3) (k4 : xK S v4 10) (h : f_X3_known F P S v0 v1 v2 v4 D = some r) : xSp md_X3_known (1, 0, 0) [.ref v0, .int v1, .long v2, .ref v4] (S, D) (xQl S r) := by
  unfold f_X3_known at h
  refine xEntry (by decide) (Nat.le_of_ble_eq_true rfl) ?_
  refine x_lv (lv' := [(0, .ref v0), (1, .int v1), (2, .long v2), (4, .ref v4)]) [0, 1, 2, 3] rfl ?_
  refine x_lconst 0 dX3_known_0 (by decide) ?_
  refine y_lstore 0 rfl [(5, .long 0), (0, .ref v0), (1, .int v1), (2, .long v2), (4, .ref v4)] dX3_known_1 (by show _ < 8; decide) rfl ?_
  refine x_iconst 0 dX3_known_3 (by decide) ?_
  refine y_istore 0 rfl [(7, .int 0), (5, .long 0), (0, .ref v0), (1, .int v1), (2, .long v2), (4, .ref v4)] dX3_known_4 (by show _ < 8; decide) rfl ?_
  refine x_lv (lv' := [(0, .ref v0), (1, .int v1), (2, .long v2), (4, .ref v4), (5, .long 0), (7, .int 0)]) [2, 3, 4, 5, 1, 0] rfl ?_
  exact t_X3_known_6 hS F k0 k4 h

theorem dX3_common_0 : decode cX3_common 0 = .ok (.aload_n 0, 1) := by decide +kernel
theorem dX3_common_1 : decode cX3_common 1 = .ok (.getfield 32, 3) := by decide +kernel
theorem dX3_common_4 : decode cX3_common 4 = .ok (.lload_n 2, 1) := by decide +kernel
theorem dX3_common_5 : decode cX3_common 5 = .ok (.ldc2_w 81, 3) := by decide +kernel
theorem dX3_common_8 : decode cX3_common 8 = .ok (.lxor, 1) := by decide +kernel
theorem dX3_common_9 : decode cX3_common 9 = .ok (.land, 1) := by decide +kernel
theorem dX3_common_10 : decode cX3_common 10 = .ok (.lstore 5, 2) := by decide +kernel
theorem dX3_common_12 : decode cX3_common 12 = .ok (.iconst 0, 1) := by decide +kernel
theorem dX3_common_13 : decode cX3_common 13 = .ok (.istore 7, 2) := by decide +kernel
theorem dX3_common_15 : decode cX3_common 15 = .ok (.iload 7, 2) := by decide +kernel
theorem dX3_common_17 : decode cX3_common 17 = .ok (.bipush 64, 2) := by decide +kernel
theorem dX3_common_19 : decode cX3_common 19 = .ok (.if_icmp .ge 71, 3) := by decide +kernel
theorem dX3_common_22 : decode cX3_common 22 = .ok (.lload 5, 2) := by decide +kernel
theorem dX3_common_24 : decode cX3_common 24 = .ok (.lstore 8, 2) := by decide +kernel
theorem dX3_common_26 : decode cX3_common 26 = .ok (.iconst 0, 1) := by decide +kernel
theorem dX3_common_27 : decode cX3_common 27 = .ok (.istore 10, 2) := by decide +kernel
theorem dX3_common_29 : decode cX3_common 29 = .ok (.iload 10, 2) := by decide +kernel
theorem dX3_common_31 : decode cX3_common 31 = .ok (.iconst 4, 1) := by decide +kernel
theorem dX3_common_32 : decode cX3_common 32 = .ok (.if_icmp .ge 37, 3) := by decide +kernel
theorem dX3_common_35 : decode cX3_common 35 = .ok (.iload_n 1, 1) := by decide +kernel
theorem dX3_common_36 : decode cX3_common 36 = .ok (.iload 10, 2) := by decide +kernel
theorem dX3_common_38 : decode cX3_common 38 = .ok (.invokestatic 92, 3) := by decide +kernel
theorem dX3_common_41 : decode cX3_common 41 = .ok (.ifCond .eq 22, 3) := by decide +kernel
theorem dX3_common_44 : decode cX3_common 44 = .ok (.lload 8, 2) := by decide +kernel
theorem dX3_common_46 : decode cX3_common 46 = .ok (.aload_n 0, 1) := by decide +kernel
theorem dX3_common_47 : decode cX3_common 47 = .ok (.getfield 32, 3) := by decide +kernel
theorem dX3_common_50 : decode cX3_common 50 = .ok (.aload 4, 2) := by decide +kernel
theorem dX3_common_52 : decode cX3_common 52 = .ok (.iload 10, 2) := by decide +kernel
theorem dX3_common_54 : decode cX3_common 54 = .ok (.lload 8, 2) := by decide +kernel
theorem dX3_common_56 : decode cX3_common 56 = .ok (.invokevirtual 96, 3) := by decide +kernel
theorem dX3_common_59 : decode cX3_common 59 = .ok (.land, 1) := by decide +kernel
theorem dX3_common_60 : decode cX3_common 60 = .ok (.lor, 1) := by decide +kernel
theorem dX3_common_61 : decode cX3_common 61 = .ok (.lstore 8, 2) := by decide +kernel
theorem dX3_common_63 : decode cX3_common 63 = .ok (.iinc 10 1, 3) := by decide +kernel
theorem dX3_common_66 : decode cX3_common 66 = .ok (.goto (-37), 3) := by decide +kernel
theorem dX3_common_69 : decode cX3_common 69 = .ok (.lload 8, 2) := by decide +kernel
theorem dX3_common_71 : decode cX3_common 71 = .ok (.lload 5, 2) := by decide +kernel
theorem dX3_common_73 : decode cX3_common 73 = .ok (.lcmp, 1) := by decide +kernel
theorem dX3_common_74 : decode cX3_common 74 = .ok (.ifCond .ne 6, 3) := by decide +kernel
theorem dX3_common_77 : decode cX3_common 77 = .ok (.goto 13, 3) := by decide +kernel
theorem dX3_common_80 : decode cX3_common 80 = .ok (.lload 8, 2) := by decide +kernel
theorem dX3_common_82 : decode cX3_common 82 = .ok (.lstore 5, 2) := by decide +kernel
theorem dX3_common_84 : decode cX3_common 84 = .ok (.iinc 7 1, 3) := by decide +kernel
theorem dX3_common_87 : decode cX3_common 87 = .ok (.goto (-72), 3) := by decide +kernel
theorem dX3_common_90 : decode cX3_common 90 = .ok (.aload_n 0, 1) := by decide +kernel
theorem dX3_common_91 : decode cX3_common 91 = .ok (.getfield 32, 3) := by decide +kernel
theorem dX3_common_94 : decode cX3_common 94 = .ok (.lload 5, 2) := by decide +kernel
theorem dX3_common_96 : decode cX3_common 96 = .ok (.ldc2_w 81, 3) := by decide +kernel
theorem dX3_common_99 : decode cX3_common 99 = .ok (.lxor, 1) := by decide +kernel
theorem dX3_common_100 : decode cX3_common 100 = .ok (.land, 1) := by decide +kernel
theorem dX3_common_101 : decode cX3_common 101 = .ok (.lreturn, 1) := by decide +kernel
def f_X3_common_63 (F P : Nat) (S : xSt) (rec_15 : Nat → Int32 → Nat → Int64 → Int32 → xDt → Option (Int64 × xDt)) (rec_29 : Nat → Int32 → Nat → Int64 → Int32 → Int64 → Int32 → xDt → Option (Int64 × xDt)) (v0 : Nat) (v1 : Int32) (v4 : Nat) (v5 : Int64) (v7 : Int32) (v8 : Int64) (v10 : Int32) (D : xDt) : Option (Int64 × xDt) :=
  xlet (v10 + 1) fun v10_1 => rec_29 v0 v1 v4 v5 v7 v8 v10_1 D
set_option maxHeartbeats 4000000 in
theorem t_X3_common_63 {F P : Nat} {S : xSt} (hS : xWF S) {rec_15 : Nat → Int32 → Nat → Int64 → Int32 → xDt → Option (Int64 × xDt)} (hrec_15 : ∀ {v0 : Nat} {v1 : Int32} {v4 : Nat} {v5 : Int64} {v7 : Int32} {D : xDt} {r : Int64 × xDt}, xK S v0 3 → xK S v4 10 → rec_15 v0 v1 v4 v5 v7 D = some r → yEx md_X3_common 1 15 [(0, .ref v0), (1, .int v1), (4, .ref v4), (5, .long v5), (7, .int v7)] [] S D (xQl S r)) {rec_29 : Nat → Int32 → Nat → Int64 → Int32 → Int64 → Int32 → xDt → Option (Int64 × xDt)} (hrec_29 : ∀ {v0 : Nat} {v1 : Int32} {v4 : Nat} {v5 : Int64} {v7 : Int32} {v8 : Int64} {v10 : Int32} {D : xDt} {r : Int64 × xDt}, xK S v0 3 → xK S v4 10 → rec_29 v0 v1 v4 v5 v7 v8 v10 D = some r → yEx md_X3_common 1 29 [(0, .ref v0), (1, .int v1), (4, .ref v4), (5, .long v5), (7, .int v7), (8, .long v8), (10, .int v10)] [] S D (xQl S r)) {v0 : Nat} {v1 : Int32} {v4 : Nat} {v5 : Int64} {v7 : Int32} {v8 : Int64} {v10 : Int32} {D : xDt} {r : Int64 × xDt} (k0 : xK S v0 3) (k4 : xK S v4 10) (h : f_X3_common_63 F P S rec_15 rec_29 v0 v1 v4 v5 v7 v8 v10 D = some r) : yEx md_X3_common 1 63 [(0, .ref v0), (1, .int v1), (4, .ref v4), (5, .long v5), (7, .int v7), (8, .long v8), (10, .int v10)] [] S D (xQl S r) := by
  unfold f_X3_common_63 at h
  refine xlet_e h (fun v10_1 ev10_1 h => ?_)
  refine y_iinc v10_1 ev10_1 (by decide) [(10, .int v10_1), (0, .ref v0), (1, .int v1), (4, .ref v4), (5, .long v5), (7, .int v7), (8, .long v8)] dX3_common_63 6 rfl (by show _ < 11; decide) rfl ?_
  refine x_goto 29 dX3_common_66 (by decide) ?_
  refine x_lv (lv' := [(0, .ref v0), (1, .int v1), (4, .ref v4), (5, .long v5), (7, .int v7), (8, .long v8), (10, .int v10_1)]) [1, 2, 3, 4, 5, 6, 0] rfl ?_
  exact hrec_29 k0 k4 h

def f_X3_common_90 (F P : Nat) (S : xSt) (v0 : Nat) (v5 : Int64) (D : xDt) : Option (Int64 × xDt) :=
  some ((D.2 v0 5) &&& (v5 ^^^ (-1)), D)
set_option maxHeartbeats 4000000 in
theorem t_X3_common_90 {F P : Nat} {S : xSt} (hS : xWF S) {v0 : Nat} {v5 : Int64} {D : xDt} {r : Int64 × xDt} (k0 : xK S v0 3) (h : f_X3_common_90 F P S v0 v5 D = some r) : yEx md_X3_common 1 90 [(0, .ref v0), (5, .long v5)] [] S D (xQl S r) := by
  unfold f_X3_common_90 at h
  refine x_aload_n dX3_common_90 0 rfl ?_
  refine y_getl fl_RX3_32 dX3_common_91 rfl k0 ?_
  refine x_lload dX3_common_94 1 rfl ?_
  refine x_ldc2 (-1) dX3_common_96 wd_629 ?_
  refine x_lxor dX3_common_99 ?_
  refine x_land dX3_common_100 ?_
  obtain rfl := Option.some.inj h
  exact y_lret rfl dX3_common_101

def f_X3_common_29s (F P : Nat) (S : xSt) (rec_15 : Nat → Int32 → Nat → Int64 → Int32 → xDt → Option (Int64 × xDt)) (rec_29 : Nat → Int32 → Nat → Int64 → Int32 → Int64 → Int32 → xDt → Option (Int64 × xDt)) (v0 : Nat) (v1 : Int32) (v4 : Nat) (v5 : Int64) (v7 : Int32) (v8 : Int64) (v10 : Int32) (D : xDt) : Option (Int64 × xDt) :=
  if 4 ≤ v10 then (if (lg_cmp v8 v5) = 0 then (f_X3_common_90 F P S v0 v5 D) else (xlet (v7 + 1) fun v7_1 => rec_15 v0 v1 v4 v8 v7_1 D)) else ((f_X11_hasAgent F P S v1 v10 D).bind fun q2 => if q2.1 = 0 then (f_X3_common_63 F P S rec_15 rec_29 v0 v1 v4 v5 v7 v8 v10 q2.2) else ((f_X10_near F P S v4 v10 v8 q2.2).bind fun q3 => xlet (v8 ||| ((q2.2.2 v0 5) &&& q3.1)) fun v8_4 => f_X3_common_63 F P S rec_15 rec_29 v0 v1 v4 v5 v7 v8_4 v10 q3.2))
def f_X3_common_29 (F P : Nat) (S : xSt) (rec_15 : Nat → Int32 → Nat → Int64 → Int32 → xDt → Option (Int64 × xDt)) : Nat → Nat → Int32 → Nat → Int64 → Int32 → Int64 → Int32 → xDt → Option (Int64 × xDt)
  | 0 => fun _ _ _ _ _ _ _ _ => none
  | n + 1 => f_X3_common_29s F P S rec_15 (f_X3_common_29 F P S rec_15 n)
set_option maxHeartbeats 4000000 in
theorem t_X3_common_29s {F P : Nat} {S : xSt} (hS : xWF S) {rec_15 : Nat → Int32 → Nat → Int64 → Int32 → xDt → Option (Int64 × xDt)} (hrec_15 : ∀ {v0 : Nat} {v1 : Int32} {v4 : Nat} {v5 : Int64} {v7 : Int32} {D : xDt} {r : Int64 × xDt}, xK S v0 3 → xK S v4 10 → rec_15 v0 v1 v4 v5 v7 D = some r → yEx md_X3_common 1 15 [(0, .ref v0), (1, .int v1), (4, .ref v4), (5, .long v5), (7, .int v7)] [] S D (xQl S r)) {rec_29 : Nat → Int32 → Nat → Int64 → Int32 → Int64 → Int32 → xDt → Option (Int64 × xDt)} (hrec_29 : ∀ {v0 : Nat} {v1 : Int32} {v4 : Nat} {v5 : Int64} {v7 : Int32} {v8 : Int64} {v10 : Int32} {D : xDt} {r : Int64 × xDt}, xK S v0 3 → xK S v4 10 → rec_29 v0 v1 v4 v5 v7 v8 v10 D = some r → yEx md_X3_common 1 29 [(0, .ref v0), (1, .int v1), (4, .ref v4), (5, .long v5), (7, .int v7), (8, .long v8), (10, .int v10)] [] S D (xQl S r)) {v0 : Nat} {v1 : Int32} {v4 : Nat} {v5 : Int64} {v7 : Int32} {v8 : Int64} {v10 : Int32} {D : xDt} {r : Int64 × xDt} (k0 : xK S v0 3) (k4 : xK S v4 10) (h : f_X3_common_29s F P S rec_15 rec_29 v0 v1 v4 v5 v7 v8 v10 D = some r) : yEx md_X3_common 1 29 [(0, .ref v0), (1, .int v1), (4, .ref v4), (5, .long v5), (7, .int v7), (8, .long v8), (10, .int v10)] [] S D (xQl S r) := by
  unfold f_X3_common_29s at h
  refine x_iload dX3_common_29 6 rfl ?_
  refine x_iconst 4 dX3_common_31 (by decide) ?_
  refine x_icmp_ge 69 dX3_common_32 (by decide) (fun c => ?_) (fun c => ?_)
  · rw [if_pos c] at h
    refine x_lload dX3_common_69 5 rfl ?_
    refine x_lload dX3_common_71 3 rfl ?_
    refine x_lcmp dX3_common_73 ?_
    refine x_if_ne 80 dX3_common_74 (by decide) (fun c => ?_) (fun c => ?_)
    · rw [if_neg c] at h
      refine x_lload dX3_common_80 5 rfl ?_
      refine y_lstore v8 rfl [(5, .long v8), (0, .ref v0), (1, .int v1), (4, .ref v4), (7, .int v7), (8, .long v8), (10, .int v10)] dX3_common_82 (by show _ < 11; decide) rfl ?_
      refine xlet_e h (fun v7_1 ev7_1 h => ?_)
      refine y_iinc v7_1 ev7_1 (by decide) [(7, .int v7_1), (5, .long v8), (0, .ref v0), (1, .int v1), (4, .ref v4), (8, .long v8), (10, .int v10)] dX3_common_84 4 rfl (by show _ < 11; decide) rfl ?_
      refine x_goto 15 dX3_common_87 (by decide) ?_
      refine x_lv (lv' := [(0, .ref v0), (1, .int v1), (4, .ref v4), (5, .long v8), (7, .int v7_1)]) [2, 3, 4, 1, 0] rfl ?_
      exact hrec_15 k0 k4 h
    · rw [if_pos c] at h
      refine x_goto 90 dX3_common_77 (by decide) ?_
      refine x_lv (lv' := [(0, .ref v0), (5, .long v5)]) [0, 3] rfl ?_
      exact t_X3_common_90 hS k0 h
  · rw [if_neg c] at h
    refine x_iload_n dX3_common_35 1 rfl ?_
    refine x_iload dX3_common_36 6 rfl ?_
    refine xbnd_e h (fun q2 e2 h => ?_)
    refine y_callNi (As := [.int v1, .int v10]) (q := q2) cn_RX3_92 dX3_common_38 rfl (Nat.le_of_ble_eq_true rfl) (by omega) (S_X11_hasAgent hS e2) ?_
    refine x_if_eq 63 dX3_common_41 (by decide) (fun c => ?_) (fun c => ?_)
    · rw [if_pos c] at h
      exact t_X3_common_63 hS hrec_15 hrec_29 k0 k4 h
    · rw [if_neg c] at h
      refine x_lload dX3_common_44 5 rfl ?_
      refine x_aload_n dX3_common_46 0 rfl ?_
      refine y_getl fl_RX3_32 dX3_common_47 rfl k0 ?_
      refine x_aload dX3_common_50 2 rfl ?_
      refine x_iload dX3_common_52 6 rfl ?_
      refine x_lload dX3_common_54 5 rfl ?_
      refine xbnd_e h (fun q3 e3 h => ?_)
      refine y_callVl (As := [.int v10, .long v8]) (q := q3) cv_RX3_96 dX3_common_56 k4 rfl (Nat.le_of_ble_eq_true rfl) (by omega) (S_X10_near hS k4 e3) ?_
      refine x_land dX3_common_59 ?_
      refine x_lor dX3_common_60 ?_
      refine xlet_e h (fun v8_4 ev8_4 h => ?_)
      refine y_lstore v8_4 ev8_4 [(8, .long v8_4), (0, .ref v0), (1, .int v1), (4, .ref v4), (5, .long v5), (7, .int v7), (10, .int v10)] dX3_common_61 (by show _ < 11; decide) rfl ?_
      refine x_lv (lv' := [(0, .ref v0), (1, .int v1), (4, .ref v4), (5, .long v5), (7, .int v7), (8, .long v8_4), (10, .int v10)]) [1, 2, 3, 4, 5, 0, 6] rfl ?_
      exact t_X3_common_63 hS hrec_15 hrec_29 k0 k4 h
theorem t_X3_common_29 {F P : Nat} {S : xSt} (hS : xWF S) {rec_15 : Nat → Int32 → Nat → Int64 → Int32 → xDt → Option (Int64 × xDt)} (hrec_15 : ∀ {v0 : Nat} {v1 : Int32} {v4 : Nat} {v5 : Int64} {v7 : Int32} {D : xDt} {r : Int64 × xDt}, xK S v0 3 → xK S v4 10 → rec_15 v0 v1 v4 v5 v7 D = some r → yEx md_X3_common 1 15 [(0, .ref v0), (1, .int v1), (4, .ref v4), (5, .long v5), (7, .int v7)] [] S D (xQl S r)) : ∀ (n : Nat) {v0 : Nat} {v1 : Int32} {v4 : Nat} {v5 : Int64} {v7 : Int32} {v8 : Int64} {v10 : Int32} {D : xDt} {r : Int64 × xDt}, xK S v0 3 → xK S v4 10 → f_X3_common_29 F P S rec_15 n v0 v1 v4 v5 v7 v8 v10 D = some r → yEx md_X3_common 1 29 [(0, .ref v0), (1, .int v1), (4, .ref v4), (5, .long v5), (7, .int v7), (8, .long v8), (10, .int v10)] [] S D (xQl S r) := by
  intro n
  induction n with
  | zero => intros; rename_i h; cases h
  | succ n ih =>
    intro v0 v1 v4 v5 v7 v8 v10 D r k0 k4 h
    exact t_X3_common_29s hS hrec_15 (fun k0 k4 h => ih k0 k4 h) k0 k4 h

def f_X3_common_15s (F P : Nat) (S : xSt) (rec_15 : Nat → Int32 → Nat → Int64 → Int32 → xDt → Option (Int64 × xDt)) (v0 : Nat) (v1 : Int32) (v4 : Nat) (v5 : Int64) (v7 : Int32) (D : xDt) : Option (Int64 × xDt) :=
  if 64 ≤ v7 then (f_X3_common_90 F P S v0 v5 D) else (f_X3_common_29 F P S rec_15 F v0 v1 v4 v5 v7 v5 0 D)
def f_X3_common_15 (F P : Nat) (S : xSt) : Nat → Nat → Int32 → Nat → Int64 → Int32 → xDt → Option (Int64 × xDt)
  | 0 => fun _ _ _ _ _ _ => none
  | n + 1 => f_X3_common_15s F P S (f_X3_common_15 F P S n)
set_option maxHeartbeats 4000000 in
theorem t_X3_common_15s {F P : Nat} {S : xSt} (hS : xWF S) {rec_15 : Nat → Int32 → Nat → Int64 → Int32 → xDt → Option (Int64 × xDt)} (hrec_15 : ∀ {v0 : Nat} {v1 : Int32} {v4 : Nat} {v5 : Int64} {v7 : Int32} {D : xDt} {r : Int64 × xDt}, xK S v0 3 → xK S v4 10 → rec_15 v0 v1 v4 v5 v7 D = some r → yEx md_X3_common 1 15 [(0, .ref v0), (1, .int v1), (4, .ref v4), (5, .long v5), (7, .int v7)] [] S D (xQl S r)) {v0 : Nat} {v1 : Int32} {v4 : Nat} {v5 : Int64} {v7 : Int32} {D : xDt} {r : Int64 × xDt} (k0 : xK S v0 3) (k4 : xK S v4 10) (h : f_X3_common_15s F P S rec_15 v0 v1 v4 v5 v7 D = some r) : yEx md_X3_common 1 15 [(0, .ref v0), (1, .int v1), (4, .ref v4), (5, .long v5), (7, .int v7)] [] S D (xQl S r) := by
  unfold f_X3_common_15s at h
  refine x_iload dX3_common_15 4 rfl ?_
  refine x_bipush 64 dX3_common_17 (by decide) ?_
  refine x_icmp_ge 90 dX3_common_19 (by decide) (fun c => ?_) (fun c => ?_)
  · rw [if_pos c] at h
    refine x_lv (lv' := [(0, .ref v0), (5, .long v5)]) [0, 3] rfl ?_
    exact t_X3_common_90 hS k0 h
  · rw [if_neg c] at h
    refine x_lload dX3_common_22 3 rfl ?_
    refine y_lstore v5 rfl [(8, .long v5), (0, .ref v0), (1, .int v1), (4, .ref v4), (5, .long v5), (7, .int v7)] dX3_common_24 (by show _ < 11; decide) rfl ?_
    refine x_iconst 0 dX3_common_26 (by decide) ?_
    refine y_istore 0 rfl [(10, .int 0), (8, .long v5), (0, .ref v0), (1, .int v1), (4, .ref v4), (5, .long v5), (7, .int v7)] dX3_common_27 (by show _ < 11; decide) rfl ?_
    refine x_lv (lv' := [(0, .ref v0), (1, .int v1), (4, .ref v4), (5, .long v5), (7, .int v7), (8, .long v5), (10, .int 0)]) [2, 3, 4, 5, 6, 1, 0] rfl ?_
    exact t_X3_common_29 hS hrec_15 F k0 k4 h
theorem t_X3_common_15 {F P : Nat} {S : xSt} (hS : xWF S) : ∀ (n : Nat) {v0 : Nat} {v1 : Int32} {v4 : Nat} {v5 : Int64} {v7 : Int32} {D : xDt} {r : Int64 × xDt}, xK S v0 3 → xK S v4 10 → f_X3_common_15 F P S n v0 v1 v4 v5 v7 D = some r → yEx md_X3_common 1 15 [(0, .ref v0), (1, .int v1), (4, .ref v4), (5, .long v5), (7, .int v7)] [] S D (xQl S r) := by
  intro n
  induction n with
  | zero => intros; rename_i h; cases h
  | succ n ih =>
    intro v0 v1 v4 v5 v7 D r k0 k4 h
    exact t_X3_common_15s hS (fun k0 k4 h => ih k0 k4 h) k0 k4 h

def f_X3_common (F P : Nat) (S : xSt) (v0 : Nat) (v1 : Int32) (v2 : Int64) (v4 : Nat) (D : xDt) : Option (Int64 × xDt) :=
  xlet ((D.2 v0 5) &&& (v2 ^^^ (-1))) fun v5_1 => f_X3_common_15 F P S F v0 v1 v4 v5_1 0 D
set_option maxHeartbeats 4000000 in
theorem S_X3_common {F P : Nat} {S : xSt} (hS : xWF S) {v0 : Nat} {v1 : Int32} {v2 : Int64} {v4 : Nat} {D : xDt} {r : Int64 × xDt} (k0 : xK S v0 3) (k4 : xK S v4 10) (h : f_X3_common F P S v0 v1 v2 v4 D = some r) : xSp md_X3_common (1, 0, 0) [.ref v0, .int v1, .long v2, .ref v4] (S, D) (xQl S r) := by
  unfold f_X3_common at h
  refine xEntry (by decide) (Nat.le_of_ble_eq_true rfl) ?_
  refine x_lv (lv' := [(0, .ref v0), (1, .int v1), (2, .long v2), (4, .ref v4)]) [0, 1, 2, 3] rfl ?_
  refine x_aload_n dX3_common_0 0 rfl ?_
  refine y_getl fl_RX3_32 dX3_common_1 rfl k0 ?_
  refine x_lload_n dX3_common_4 2 rfl ?_
  refine x_ldc2 (-1) dX3_common_5 wd_629 ?_
  refine x_lxor dX3_common_8 ?_
  refine x_land dX3_common_9 ?_
  refine xlet_e h (fun v5_1 ev5_1 h => ?_)
  refine y_lstore v5_1 ev5_1 [(5, .long v5_1), (0, .ref v0), (1, .int v1), (2, .long v2), (4, .ref v4)] dX3_common_10 (by show _ < 11; decide) rfl ?_
  refine x_iconst 0 dX3_common_12 (by decide) ?_
  refine y_istore 0 rfl [(7, .int 0), (5, .long v5_1), (0, .ref v0), (1, .int v1), (2, .long v2), (4, .ref v4)] dX3_common_13 (by show _ < 11; decide) rfl ?_
  refine x_lv (lv' := [(0, .ref v0), (1, .int v1), (4, .ref v4), (5, .long v5_1), (7, .int 0)]) [2, 3, 5, 1, 0] rfl ?_
  exact t_X3_common_15 hS F k0 k4 h

theorem dX10_cell_0 : decode cX10_cell 0 = .ok (.aload_n 0, 1) := by decide +kernel
theorem dX10_cell_1 : decode cX10_cell 1 = .ok (.getfield 15, 3) := by decide +kernel
theorem dX10_cell_4 : decode cX10_cell 4 = .ok (.iload_n 1, 1) := by decide +kernel
theorem dX10_cell_5 : decode cX10_cell 5 = .ok (.bipush 64, 2) := by decide +kernel
theorem dX10_cell_7 : decode cX10_cell 7 = .ok (.imul, 1) := by decide +kernel
theorem dX10_cell_8 : decode cX10_cell 8 = .ok (.iload_n 2, 1) := by decide +kernel
theorem dX10_cell_9 : decode cX10_cell 9 = .ok (.iadd, 1) := by decide +kernel
theorem dX10_cell_10 : decode cX10_cell 10 = .ok (.laload, 1) := by decide +kernel
theorem dX10_cell_11 : decode cX10_cell 11 = .ok (.lreturn, 1) := by decide +kernel
def f_X10_cell (F P : Nat) (S : xSt) (v0 : Nat) (v1 : Int32) (v2 : Int32) (D : xDt) : Option (Int64 × xDt) :=
  xgrd (xin ((v1 * 64) + v2) (xl S (xr S v0 2))) (some (D.2 (xr S v0 2) ((v1 * 64) + v2).toNatClampNeg, D))
set_option maxHeartbeats 4000000 in
theorem S_X10_cell {F P : Nat} {S : xSt} (hS : xWF S) {v0 : Nat} {v1 : Int32} {v2 : Int32} {D : xDt} {r : Int64 × xDt} (k0 : xK S v0 10) (h : f_X10_cell F P S v0 v1 v2 D = some r) : xSp md_X10_cell (0, 0, 0) [.ref v0, .int v1, .int v2] (S, D) (xQl S r) := by
  unfold f_X10_cell at h
  refine xEntry (by decide) (Nat.le_of_ble_eq_true rfl) ?_
  refine x_lv (lv' := [(0, .ref v0), (1, .int v1), (2, .int v2)]) [0, 1, 2] rfl ?_
  refine x_aload_n dX10_cell_0 0 rfl ?_
  refine y_getr (kd := 101) hS fl_RX10_15 dX10_cell_1 rfl k0 ?_
  refine x_iload_n dX10_cell_4 1 rfl ?_
  refine x_bipush 64 dX10_cell_5 (by decide) ?_
  refine x_imul dX10_cell_7 ?_
  refine x_iload_n dX10_cell_8 2 rfl ?_
  refine x_iadd dX10_cell_9 ?_
  refine xgrd_e h (fun g1 h => ?_)
  refine y_lald dX10_cell_10 ((hS.f k0 2 101 rfl).2) g1 ?_
  obtain rfl := Option.some.inj h
  exact y_lret rfl dX10_cell_11

theorem dX3_pooled_0 : decode cX3_pooled 0 = .ok (.lconst 0, 1) := by decide +kernel
theorem dX3_pooled_1 : decode cX3_pooled 1 = .ok (.lstore 5, 2) := by decide +kernel
theorem dX3_pooled_3 : decode cX3_pooled 3 = .ok (.iconst 0, 1) := by decide +kernel
theorem dX3_pooled_4 : decode cX3_pooled 4 = .ok (.istore 7, 2) := by decide +kernel
theorem dX3_pooled_6 : decode cX3_pooled 6 = .ok (.iload 7, 2) := by decide +kernel
theorem dX3_pooled_8 : decode cX3_pooled 8 = .ok (.aload 4, 2) := by decide +kernel
theorem dX3_pooled_10 : decode cX3_pooled 10 = .ok (.getfield 100, 3) := by decide +kernel
theorem dX3_pooled_13 : decode cX3_pooled 13 = .ok (.if_icmp .ge 79, 3) := by decide +kernel
theorem dX3_pooled_16 : decode cX3_pooled 16 = .ok (.aload_n 0, 1) := by decide +kernel
theorem dX3_pooled_17 : decode cX3_pooled 17 = .ok (.getfield 32, 3) := by decide +kernel
theorem dX3_pooled_20 : decode cX3_pooled 20 = .ok (.lload_n 2, 1) := by decide +kernel
theorem dX3_pooled_21 : decode cX3_pooled 21 = .ok (.ldc2_w 81, 3) := by decide +kernel
theorem dX3_pooled_24 : decode cX3_pooled 24 = .ok (.lxor, 1) := by decide +kernel
theorem dX3_pooled_25 : decode cX3_pooled 25 = .ok (.land, 1) := by decide +kernel
theorem dX3_pooled_26 : decode cX3_pooled 26 = .ok (.lstore 8, 2) := by decide +kernel
theorem dX3_pooled_28 : decode cX3_pooled 28 = .ok (.iconst 0, 1) := by decide +kernel
theorem dX3_pooled_29 : decode cX3_pooled 29 = .ok (.istore 10, 2) := by decide +kernel
theorem dX3_pooled_31 : decode cX3_pooled 31 = .ok (.iload 10, 2) := by decide +kernel
theorem dX3_pooled_33 : decode cX3_pooled 33 = .ok (.iconst 4, 1) := by decide +kernel
theorem dX3_pooled_34 : decode cX3_pooled 34 = .ok (.if_icmp .ge 32, 3) := by decide +kernel
theorem dX3_pooled_37 : decode cX3_pooled 37 = .ok (.iload_n 1, 1) := by decide +kernel
theorem dX3_pooled_38 : decode cX3_pooled 38 = .ok (.iload 10, 2) := by decide +kernel
theorem dX3_pooled_40 : decode cX3_pooled 40 = .ok (.invokestatic 92, 3) := by decide +kernel
theorem dX3_pooled_43 : decode cX3_pooled 43 = .ok (.ifCond .eq 17, 3) := by decide +kernel
theorem dX3_pooled_46 : decode cX3_pooled 46 = .ok (.lload 8, 2) := by decide +kernel
theorem dX3_pooled_48 : decode cX3_pooled 48 = .ok (.aload 4, 2) := by decide +kernel
theorem dX3_pooled_50 : decode cX3_pooled 50 = .ok (.iload 10, 2) := by decide +kernel
theorem dX3_pooled_52 : decode cX3_pooled 52 = .ok (.iload 7, 2) := by decide +kernel
theorem dX3_pooled_54 : decode cX3_pooled 54 = .ok (.invokevirtual 101, 3) := by decide +kernel
theorem dX3_pooled_57 : decode cX3_pooled 57 = .ok (.land, 1) := by decide +kernel
theorem dX3_pooled_58 : decode cX3_pooled 58 = .ok (.lstore 8, 2) := by decide +kernel
theorem dX3_pooled_60 : decode cX3_pooled 60 = .ok (.iinc 10 1, 3) := by decide +kernel
theorem dX3_pooled_63 : decode cX3_pooled 63 = .ok (.goto (-32), 3) := by decide +kernel
theorem dX3_pooled_66 : decode cX3_pooled 66 = .ok (.lload 5, 2) := by decide +kernel
theorem dX3_pooled_68 : decode cX3_pooled 68 = .ok (.lload 8, 2) := by decide +kernel
theorem dX3_pooled_70 : decode cX3_pooled 70 = .ok (.lconst 0, 1) := by decide +kernel
theorem dX3_pooled_71 : decode cX3_pooled 71 = .ok (.lcmp, 1) := by decide +kernel
theorem dX3_pooled_72 : decode cX3_pooled 72 = .ok (.ifCond .ne 10, 3) := by decide +kernel
theorem dX3_pooled_75 : decode cX3_pooled 75 = .ok (.lconst 1, 1) := by decide +kernel
theorem dX3_pooled_76 : decode cX3_pooled 76 = .ok (.iload 7, 2) := by decide +kernel
theorem dX3_pooled_78 : decode cX3_pooled 78 = .ok (.lshl, 1) := by decide +kernel
theorem dX3_pooled_79 : decode cX3_pooled 79 = .ok (.goto 4, 3) := by decide +kernel
theorem dX3_pooled_82 : decode cX3_pooled 82 = .ok (.lconst 0, 1) := by decide +kernel
theorem dX3_pooled_83 : decode cX3_pooled 83 = .ok (.lor, 1) := by decide +kernel
theorem dX3_pooled_84 : decode cX3_pooled 84 = .ok (.lstore 5, 2) := by decide +kernel
theorem dX3_pooled_86 : decode cX3_pooled 86 = .ok (.iinc 7 1, 3) := by decide +kernel
theorem dX3_pooled_89 : decode cX3_pooled 89 = .ok (.goto (-83), 3) := by decide +kernel
theorem dX3_pooled_92 : decode cX3_pooled 92 = .ok (.aload_n 0, 1) := by decide +kernel
theorem dX3_pooled_93 : decode cX3_pooled 93 = .ok (.getfield 32, 3) := by decide +kernel
theorem dX3_pooled_96 : decode cX3_pooled 96 = .ok (.lload 5, 2) := by decide +kernel
theorem dX3_pooled_98 : decode cX3_pooled 98 = .ok (.land, 1) := by decide +kernel
theorem dX3_pooled_99 : decode cX3_pooled 99 = .ok (.lreturn, 1) := by decide +kernel
def f_X3_pooled_60 (F P : Nat) (S : xSt) (rec_6 : Nat → Int32 → Int64 → Nat → Int64 → Int32 → xDt → Option (Int64 × xDt)) (rec_31 : Nat → Int32 → Int64 → Nat → Int64 → Int32 → Int64 → Int32 → xDt → Option (Int64 × xDt)) (v0 : Nat) (v1 : Int32) (v2 : Int64) (v4 : Nat) (v5 : Int64) (v7 : Int32) (v8 : Int64) (v10 : Int32) (D : xDt) : Option (Int64 × xDt) :=
  xlet (v10 + 1) fun v10_1 => rec_31 v0 v1 v2 v4 v5 v7 v8 v10_1 D
set_option maxHeartbeats 4000000 in
theorem t_X3_pooled_60 {F P : Nat} {S : xSt} (hS : xWF S) {rec_6 : Nat → Int32 → Int64 → Nat → Int64 → Int32 → xDt → Option (Int64 × xDt)} (hrec_6 : ∀ {v0 : Nat} {v1 : Int32} {v2 : Int64} {v4 : Nat} {v5 : Int64} {v7 : Int32} {D : xDt} {r : Int64 × xDt}, xK S v0 3 → xK S v4 10 → rec_6 v0 v1 v2 v4 v5 v7 D = some r → yEx md_X3_pooled 1 6 [(0, .ref v0), (1, .int v1), (2, .long v2), (4, .ref v4), (5, .long v5), (7, .int v7)] [] S D (xQl S r)) {rec_31 : Nat → Int32 → Int64 → Nat → Int64 → Int32 → Int64 → Int32 → xDt → Option (Int64 × xDt)} (hrec_31 : ∀ {v0 : Nat} {v1 : Int32} {v2 : Int64} {v4 : Nat} {v5 : Int64} {v7 : Int32} {v8 : Int64} {v10 : Int32} {D : xDt} {r : Int64 × xDt}, xK S v0 3 → xK S v4 10 → rec_31 v0 v1 v2 v4 v5 v7 v8 v10 D = some r → yEx md_X3_pooled 1 31 [(0, .ref v0), (1, .int v1), (2, .long v2), (4, .ref v4), (5, .long v5), (7, .int v7), (8, .long v8), (10, .int v10)] [] S D (xQl S r)) {v0 : Nat} {v1 : Int32} {v2 : Int64} {v4 : Nat} {v5 : Int64} {v7 : Int32} {v8 : Int64} {v10 : Int32} {D : xDt} {r : Int64 × xDt} (k0 : xK S v0 3) (k4 : xK S v4 10) (h : f_X3_pooled_60 F P S rec_6 rec_31 v0 v1 v2 v4 v5 v7 v8 v10 D = some r) : yEx md_X3_pooled 1 60 [(0, .ref v0), (1, .int v1), (2, .long v2), (4, .ref v4), (5, .long v5), (7, .int v7), (8, .long v8), (10, .int v10)] [] S D (xQl S r) := by
  unfold f_X3_pooled_60 at h
  refine xlet_e h (fun v10_1 ev10_1 h => ?_)
  refine y_iinc v10_1 ev10_1 (by decide) [(10, .int v10_1), (0, .ref v0), (1, .int v1), (2, .long v2), (4, .ref v4), (5, .long v5), (7, .int v7), (8, .long v8)] dX3_pooled_60 7 rfl (by show _ < 11; decide) rfl ?_
  refine x_goto 31 dX3_pooled_63 (by decide) ?_
  refine x_lv (lv' := [(0, .ref v0), (1, .int v1), (2, .long v2), (4, .ref v4), (5, .long v5), (7, .int v7), (8, .long v8), (10, .int v10_1)]) [1, 2, 3, 4, 5, 6, 7, 0] rfl ?_
  exact hrec_31 k0 k4 h

def f_X3_pooled_83 (F P : Nat) (S : xSt) (rec_6 : Nat → Int32 → Int64 → Nat → Int64 → Int32 → xDt → Option (Int64 × xDt)) (v0 : Nat) (v1 : Int32) (v2 : Int64) (v4 : Nat) (v7 : Int32) (s0 : Int64) (s1 : Int64) (D : xDt) : Option (Int64 × xDt) :=
  xlet (s1 ||| s0) fun v5_1 => xlet (v7 + 1) fun v7_2 => rec_6 v0 v1 v2 v4 v5_1 v7_2 D
set_option maxHeartbeats 4000000 in
theorem t_X3_pooled_83 {F P : Nat} {S : xSt} (hS : xWF S) {rec_6 : Nat → Int32 → Int64 → Nat → Int64 → Int32 → xDt → Option (Int64 × xDt)} (hrec_6 : ∀ {v0 : Nat} {v1 : Int32} {v2 : Int64} {v4 : Nat} {v5 : Int64} {v7 : Int32} {D : xDt} {r : Int64 × xDt}, xK S v0 3 → xK S v4 10 → rec_6 v0 v1 v2 v4 v5 v7 D = some r → yEx md_X3_pooled 1 6 [(0, .ref v0), (1, .int v1), (2, .long v2), (4, .ref v4), (5, .long v5), (7, .int v7)] [] S D (xQl S r)) {v0 : Nat} {v1 : Int32} {v2 : Int64} {v4 : Nat} {v7 : Int32} {s0 : Int64} {s1 : Int64} {D : xDt} {r : Int64 × xDt} (k0 : xK S v0 3) (k4 : xK S v4 10) (h : f_X3_pooled_83 F P S rec_6 v0 v1 v2 v4 v7 s0 s1 D = some r) : yEx md_X3_pooled 1 83 [(0, .ref v0), (1, .int v1), (2, .long v2), (4, .ref v4), (7, .int v7)] [.long s0, .long s1] S D (xQl S r) := by
  unfold f_X3_pooled_83 at h
  refine x_lor dX3_pooled_83 ?_
  refine xlet_e h (fun v5_1 ev5_1 h => ?_)
  refine y_lstore v5_1 ev5_1 [(5, .long v5_1), (0, .ref v0), (1, .int v1), (2, .long v2), (4, .ref v4), (7, .int v7)] dX3_pooled_84 (by show _ < 11; decide) rfl ?_
  refine xlet_e h (fun v7_2 ev7_2 h => ?_)
  refine y_iinc v7_2 ev7_2 (by decide) [(7, .int v7_2), (5, .long v5_1), (0, .ref v0), (1, .int v1), (2, .long v2), (4, .ref v4)] dX3_pooled_86 5 rfl (by show _ < 11; decide) rfl ?_
  refine x_goto 6 dX3_pooled_89 (by decide) ?_
  refine x_lv (lv' := [(0, .ref v0), (1, .int v1), (2, .long v2), (4, .ref v4), (5, .long v5_1), (7, .int v7_2)]) [2, 3, 4, 5, 1, 0] rfl ?_
  exact hrec_6 k0 k4 h

def f_X3_pooled_31s (F P : Nat) (S : xSt) (rec_6 : Nat → Int32 → Int64 → Nat → Int64 → Int32 → xDt → Option (Int64 × xDt)) (rec_31 : Nat → Int32 → Int64 → Nat → Int64 → Int32 → Int64 → Int32 → xDt → Option (Int64 × xDt)) (v0 : Nat) (v1 : Int32) (v2 : Int64) (v4 : Nat) (v5 : Int64) (v7 : Int32) (v8 : Int64) (v10 : Int32) (D : xDt) : Option (Int64 × xDt) :=
  if 4 ≤ v10 then (if (lg_cmp v8 0) = 0 then (f_X3_pooled_83 F P S rec_6 v0 v1 v2 v4 v7 (jlshl 1 v7) v5 D) else (f_X3_pooled_83 F P S rec_6 v0 v1 v2 v4 v7 0 v5 D)) else ((f_X11_hasAgent F P S v1 v10 D).bind fun q1 => if q1.1 = 0 then (f_X3_pooled_60 F P S rec_6 rec_31 v0 v1 v2 v4 v5 v7 v8 v10 q1.2) else ((f_X10_cell F P S v4 v10 v7 q1.2).bind fun q2 => xlet (v8 &&& q2.1) fun v8_3 => f_X3_pooled_60 F P S rec_6 rec_31 v0 v1 v2 v4 v5 v7 v8_3 v10 q2.2))
def f_X3_pooled_31 (F P : Nat) (S : xSt) (rec_6 : Nat → Int32 → Int64 → Nat → Int64 → Int32 → xDt → Option (Int64 × xDt)) : Nat → Nat → Int32 → Int64 → Nat → Int64 → Int32 → Int64 → Int32 → xDt → Option (Int64 × xDt)
  | 0 => fun _ _ _ _ _ _ _ _ _ => none
  | n + 1 => f_X3_pooled_31s F P S rec_6 (f_X3_pooled_31 F P S rec_6 n)
set_option maxHeartbeats 4000000 in
theorem t_X3_pooled_31s {F P : Nat} {S : xSt} (hS : xWF S) {rec_6 : Nat → Int32 → Int64 → Nat → Int64 → Int32 → xDt → Option (Int64 × xDt)} (hrec_6 : ∀ {v0 : Nat} {v1 : Int32} {v2 : Int64} {v4 : Nat} {v5 : Int64} {v7 : Int32} {D : xDt} {r : Int64 × xDt}, xK S v0 3 → xK S v4 10 → rec_6 v0 v1 v2 v4 v5 v7 D = some r → yEx md_X3_pooled 1 6 [(0, .ref v0), (1, .int v1), (2, .long v2), (4, .ref v4), (5, .long v5), (7, .int v7)] [] S D (xQl S r)) {rec_31 : Nat → Int32 → Int64 → Nat → Int64 → Int32 → Int64 → Int32 → xDt → Option (Int64 × xDt)} (hrec_31 : ∀ {v0 : Nat} {v1 : Int32} {v2 : Int64} {v4 : Nat} {v5 : Int64} {v7 : Int32} {v8 : Int64} {v10 : Int32} {D : xDt} {r : Int64 × xDt}, xK S v0 3 → xK S v4 10 → rec_31 v0 v1 v2 v4 v5 v7 v8 v10 D = some r → yEx md_X3_pooled 1 31 [(0, .ref v0), (1, .int v1), (2, .long v2), (4, .ref v4), (5, .long v5), (7, .int v7), (8, .long v8), (10, .int v10)] [] S D (xQl S r)) {v0 : Nat} {v1 : Int32} {v2 : Int64} {v4 : Nat} {v5 : Int64} {v7 : Int32} {v8 : Int64} {v10 : Int32} {D : xDt} {r : Int64 × xDt} (k0 : xK S v0 3) (k4 : xK S v4 10) (h : f_X3_pooled_31s F P S rec_6 rec_31 v0 v1 v2 v4 v5 v7 v8 v10 D = some r) : yEx md_X3_pooled 1 31 [(0, .ref v0), (1, .int v1), (2, .long v2), (4, .ref v4), (5, .long v5), (7, .int v7), (8, .long v8), (10, .int v10)] [] S D (xQl S r) := by
  unfold f_X3_pooled_31s at h
  refine x_iload dX3_pooled_31 7 rfl ?_
  refine x_iconst 4 dX3_pooled_33 (by decide) ?_
  refine x_icmp_ge 66 dX3_pooled_34 (by decide) (fun c => ?_) (fun c => ?_)
  · rw [if_pos c] at h
    refine x_lload dX3_pooled_66 4 rfl ?_
    refine x_lload dX3_pooled_68 6 rfl ?_
    refine x_lconst 0 dX3_pooled_70 (by decide) ?_
    refine x_lcmp dX3_pooled_71 ?_
    refine x_if_ne 82 dX3_pooled_72 (by decide) (fun c => ?_) (fun c => ?_)
    · rw [if_neg c] at h
      refine x_lconst 0 dX3_pooled_82 (by decide) ?_
      refine x_lv (lv' := [(0, .ref v0), (1, .int v1), (2, .long v2), (4, .ref v4), (7, .int v7)]) [0, 1, 2, 3, 5] rfl ?_
      exact t_X3_pooled_83 hS hrec_6 k0 k4 h
    · rw [if_pos c] at h
      refine x_lconst 1 dX3_pooled_75 (by decide) ?_
      refine x_iload dX3_pooled_76 5 rfl ?_
      refine x_lshl dX3_pooled_78 ?_
      refine x_goto 83 dX3_pooled_79 (by decide) ?_
      refine x_lv (lv' := [(0, .ref v0), (1, .int v1), (2, .long v2), (4, .ref v4), (7, .int v7)]) [0, 1, 2, 3, 5] rfl ?_
      exact t_X3_pooled_83 hS hrec_6 k0 k4 h
  · rw [if_neg c] at h
    refine x_iload_n dX3_pooled_37 1 rfl ?_
    refine x_iload dX3_pooled_38 7 rfl ?_
    refine xbnd_e h (fun q1 e1 h => ?_)
    refine y_callNi (As := [.int v1, .int v10]) (q := q1) cn_RX3_92 dX3_pooled_40 rfl (Nat.le_of_ble_eq_true rfl) (by omega) (S_X11_hasAgent hS e1) ?_
    refine x_if_eq 60 dX3_pooled_43 (by decide) (fun c => ?_) (fun c => ?_)
    · rw [if_pos c] at h
      exact t_X3_pooled_60 hS hrec_6 hrec_31 k0 k4 h
    · rw [if_neg c] at h
      refine x_lload dX3_pooled_46 6 rfl ?_
      refine x_aload dX3_pooled_48 3 rfl ?_
      refine x_iload dX3_pooled_50 7 rfl ?_
      refine x_iload dX3_pooled_52 5 rfl ?_
      refine xbnd_e h (fun q2 e2 h => ?_)
      refine y_callVl (As := [.int v10, .int v7]) (q := q2) cv_RX3_101 dX3_pooled_54 k4 rfl (Nat.le_of_ble_eq_true rfl) (by omega) (S_X10_cell hS k4 e2) ?_
      refine x_land dX3_pooled_57 ?_
      refine xlet_e h (fun v8_3 ev8_3 h => ?_)
      refine y_lstore v8_3 ev8_3 [(8, .long v8_3), (0, .ref v0), (1, .int v1), (2, .long v2), (4, .ref v4), (5, .long v5), (7, .int v7), (10, .int v10)] dX3_pooled_58 (by show _ < 11; decide) rfl ?_
      refine x_lv (lv' := [(0, .ref v0), (1, .int v1), (2, .long v2), (4, .ref v4), (5, .long v5), (7, .int v7), (8, .long v8_3), (10, .int v10)]) [1, 2, 3, 4, 5, 6, 0, 7] rfl ?_
      exact t_X3_pooled_60 hS hrec_6 hrec_31 k0 k4 h
theorem t_X3_pooled_31 {F P : Nat} {S : xSt} (hS : xWF S) {rec_6 : Nat → Int32 → Int64 → Nat → Int64 → Int32 → xDt → Option (Int64 × xDt)} (hrec_6 : ∀ {v0 : Nat} {v1 : Int32} {v2 : Int64} {v4 : Nat} {v5 : Int64} {v7 : Int32} {D : xDt} {r : Int64 × xDt}, xK S v0 3 → xK S v4 10 → rec_6 v0 v1 v2 v4 v5 v7 D = some r → yEx md_X3_pooled 1 6 [(0, .ref v0), (1, .int v1), (2, .long v2), (4, .ref v4), (5, .long v5), (7, .int v7)] [] S D (xQl S r)) : ∀ (n : Nat) {v0 : Nat} {v1 : Int32} {v2 : Int64} {v4 : Nat} {v5 : Int64} {v7 : Int32} {v8 : Int64} {v10 : Int32} {D : xDt} {r : Int64 × xDt}, xK S v0 3 → xK S v4 10 → f_X3_pooled_31 F P S rec_6 n v0 v1 v2 v4 v5 v7 v8 v10 D = some r → yEx md_X3_pooled 1 31 [(0, .ref v0), (1, .int v1), (2, .long v2), (4, .ref v4), (5, .long v5), (7, .int v7), (8, .long v8), (10, .int v10)] [] S D (xQl S r) := by
  intro n
  induction n with
  | zero => intros; rename_i h; cases h
  | succ n ih =>
    intro v0 v1 v2 v4 v5 v7 v8 v10 D r k0 k4 h
    exact t_X3_pooled_31s hS hrec_6 (fun k0 k4 h => ih k0 k4 h) k0 k4 h

def f_X3_pooled_6s (F P : Nat) (S : xSt) (rec_6 : Nat → Int32 → Int64 → Nat → Int64 → Int32 → xDt → Option (Int64 × xDt)) (v0 : Nat) (v1 : Int32) (v2 : Int64) (v4 : Nat) (v5 : Int64) (v7 : Int32) (D : xDt) : Option (Int64 × xDt) :=
  if (D.1 v4 0) ≤ v7 then (some ((D.2 v0 5) &&& v5, D)) else (xlet ((D.2 v0 5) &&& (v2 ^^^ (-1))) fun v8_1 => f_X3_pooled_31 F P S rec_6 F v0 v1 v2 v4 v5 v7 v8_1 0 D)
def f_X3_pooled_6 (F P : Nat) (S : xSt) : Nat → Nat → Int32 → Int64 → Nat → Int64 → Int32 → xDt → Option (Int64 × xDt)
  | 0 => fun _ _ _ _ _ _ _ => none
  | n + 1 => f_X3_pooled_6s F P S (f_X3_pooled_6 F P S n)
set_option maxHeartbeats 4000000 in
theorem t_X3_pooled_6s {F P : Nat} {S : xSt} (hS : xWF S) {rec_6 : Nat → Int32 → Int64 → Nat → Int64 → Int32 → xDt → Option (Int64 × xDt)} (hrec_6 : ∀ {v0 : Nat} {v1 : Int32} {v2 : Int64} {v4 : Nat} {v5 : Int64} {v7 : Int32} {D : xDt} {r : Int64 × xDt}, xK S v0 3 → xK S v4 10 → rec_6 v0 v1 v2 v4 v5 v7 D = some r → yEx md_X3_pooled 1 6 [(0, .ref v0), (1, .int v1), (2, .long v2), (4, .ref v4), (5, .long v5), (7, .int v7)] [] S D (xQl S r)) {v0 : Nat} {v1 : Int32} {v2 : Int64} {v4 : Nat} {v5 : Int64} {v7 : Int32} {D : xDt} {r : Int64 × xDt} (k0 : xK S v0 3) (k4 : xK S v4 10) (h : f_X3_pooled_6s F P S rec_6 v0 v1 v2 v4 v5 v7 D = some r) : yEx md_X3_pooled 1 6 [(0, .ref v0), (1, .int v1), (2, .long v2), (4, .ref v4), (5, .long v5), (7, .int v7)] [] S D (xQl S r) := by
  unfold f_X3_pooled_6s at h
  refine x_iload dX3_pooled_6 5 rfl ?_
  refine x_aload dX3_pooled_8 3 rfl ?_
  refine y_geti fl_RX3_100 dX3_pooled_10 rfl k4 ?_
  refine x_icmp_ge 92 dX3_pooled_13 (by decide) (fun c => ?_) (fun c => ?_)
  · rw [if_pos c] at h
    refine x_aload_n dX3_pooled_92 0 rfl ?_
    refine y_getl fl_RX3_32 dX3_pooled_93 rfl k0 ?_
    refine x_lload dX3_pooled_96 4 rfl ?_
    refine x_land dX3_pooled_98 ?_
    obtain rfl := Option.some.inj h
    exact y_lret rfl dX3_pooled_99
  · rw [if_neg c] at h
    refine x_aload_n dX3_pooled_16 0 rfl ?_
    refine y_getl fl_RX3_32 dX3_pooled_17 rfl k0 ?_
    refine x_lload_n dX3_pooled_20 2 rfl ?_
    refine x_ldc2 (-1) dX3_pooled_21 wd_629 ?_
    refine x_lxor dX3_pooled_24 ?_
    refine x_land dX3_pooled_25 ?_
    refine xlet_e h (fun v8_1 ev8_1 h => ?_)
    refine y_lstore v8_1 ev8_1 [(8, .long v8_1), (0, .ref v0), (1, .int v1), (2, .long v2), (4, .ref v4), (5, .long v5), (7, .int v7)] dX3_pooled_26 (by show _ < 11; decide) rfl ?_
    refine x_iconst 0 dX3_pooled_28 (by decide) ?_
    refine y_istore 0 rfl [(10, .int 0), (8, .long v8_1), (0, .ref v0), (1, .int v1), (2, .long v2), (4, .ref v4), (5, .long v5), (7, .int v7)] dX3_pooled_29 (by show _ < 11; decide) rfl ?_
    refine x_lv (lv' := [(0, .ref v0), (1, .int v1), (2, .long v2), (4, .ref v4), (5, .long v5), (7, .int v7), (8, .long v8_1), (10, .int 0)]) [2, 3, 4, 5, 6, 7, 1, 0] rfl ?_
    exact t_X3_pooled_31 hS hrec_6 F k0 k4 h
theorem t_X3_pooled_6 {F P : Nat} {S : xSt} (hS : xWF S) : ∀ (n : Nat) {v0 : Nat} {v1 : Int32} {v2 : Int64} {v4 : Nat} {v5 : Int64} {v7 : Int32} {D : xDt} {r : Int64 × xDt}, xK S v0 3 → xK S v4 10 → f_X3_pooled_6 F P S n v0 v1 v2 v4 v5 v7 D = some r → yEx md_X3_pooled 1 6 [(0, .ref v0), (1, .int v1), (2, .long v2), (4, .ref v4), (5, .long v5), (7, .int v7)] [] S D (xQl S r) := by
  intro n
  induction n with
  | zero => intros; rename_i h; cases h
  | succ n ih =>
    intro v0 v1 v2 v4 v5 v7 D r k0 k4 h
    exact t_X3_pooled_6s hS (fun k0 k4 h => ih k0 k4 h) k0 k4 h

def f_X3_pooled (F P : Nat) (S : xSt) (v0 : Nat) (v1 : Int32) (v2 : Int64) (v4 : Nat) (D : xDt) : Option (Int64 × xDt) :=
  f_X3_pooled_6 F P S F v0 v1 v2 v4 0 0 D
set_option maxHeartbeats 4000000 in
theorem S_X3_pooled {F P : Nat} {S : xSt} (hS : xWF S) {v0 : Nat} {v1 : Int32} {v2 : Int64} {v4 : Nat} {D : xDt} {r : Int64 × xDt} (k0 : xK S v0 3) (k4 : xK S v4 10) (h : f_X3_pooled F P S v0 v1 v2 v4 D = some r) : xSp md_X3_pooled (1, 0, 0) [.ref v0, .int v1, .long v2, .ref v4] (S, D) (xQl S r) := by
  unfold f_X3_pooled at h
  refine xEntry (by decide) (Nat.le_of_ble_eq_true rfl) ?_
  refine x_lv (lv' := [(0, .ref v0), (1, .int v1), (2, .long v2), (4, .ref v4)]) [0, 1, 2, 3] rfl ?_
  refine x_lconst 0 dX3_pooled_0 (by decide) ?_
  refine y_lstore 0 rfl [(5, .long 0), (0, .ref v0), (1, .int v1), (2, .long v2), (4, .ref v4)] dX3_pooled_1 (by show _ < 11; decide) rfl ?_
  refine x_iconst 0 dX3_pooled_3 (by decide) ?_
  refine y_istore 0 rfl [(7, .int 0), (5, .long 0), (0, .ref v0), (1, .int v1), (2, .long v2), (4, .ref v4)] dX3_pooled_4 (by show _ < 11; decide) rfl ?_
  refine x_lv (lv' := [(0, .ref v0), (1, .int v1), (2, .long v2), (4, .ref v4), (5, .long 0), (7, .int 0)]) [2, 3, 4, 5, 1, 0] rfl ?_
  exact t_X3_pooled_6 hS F k0 k4 h

theorem dX3_single_0 : decode cX3_single 0 = .ok (.iload_n 1, 1) := by decide +kernel
theorem dX3_single_1 : decode cX3_single 1 = .ok (.invokestatic 48, 3) := by decide +kernel
theorem dX3_single_4 : decode cX3_single 4 = .ok (.lookupswitch 100 #[(67, 82), (68, 91), (80, 55), (126, 44)], 44) := by decide +kernel
theorem dX3_single_48 : decode cX3_single 48 = .ok (.aload_n 0, 1) := by decide +kernel
theorem dX3_single_49 : decode cX3_single 49 = .ok (.getfield 32, 3) := by decide +kernel
theorem dX3_single_52 : decode cX3_single 52 = .ok (.lload_n 2, 1) := by decide +kernel
theorem dX3_single_53 : decode cX3_single 53 = .ok (.ldc2_w 81, 3) := by decide +kernel
theorem dX3_single_56 : decode cX3_single 56 = .ok (.lxor, 1) := by decide +kernel
theorem dX3_single_57 : decode cX3_single 57 = .ok (.land, 1) := by decide +kernel
theorem dX3_single_58 : decode cX3_single 58 = .ok (.lreturn, 1) := by decide +kernel
theorem dX3_single_59 : decode cX3_single 59 = .ok (.aload_n 0, 1) := by decide +kernel
theorem dX3_single_60 : decode cX3_single 60 = .ok (.getfield 32, 3) := by decide +kernel
theorem dX3_single_63 : decode cX3_single 63 = .ok (.aload_n 0, 1) := by decide +kernel
theorem dX3_single_64 : decode cX3_single 64 = .ok (.iload_n 1, 1) := by decide +kernel
theorem dX3_single_65 : decode cX3_single 65 = .ok (.aload_n 0, 1) := by decide +kernel
theorem dX3_single_66 : decode cX3_single 66 = .ok (.getfield 32, 3) := by decide +kernel
theorem dX3_single_69 : decode cX3_single 69 = .ok (.lload_n 2, 1) := by decide +kernel
theorem dX3_single_70 : decode cX3_single 70 = .ok (.ldc2_w 81, 3) := by decide +kernel
theorem dX3_single_73 : decode cX3_single 73 = .ok (.lxor, 1) := by decide +kernel
theorem dX3_single_74 : decode cX3_single 74 = .ok (.land, 1) := by decide +kernel
theorem dX3_single_75 : decode cX3_single 75 = .ok (.aload 4, 2) := by decide +kernel
theorem dX3_single_77 : decode cX3_single 77 = .ok (.invokevirtual 83, 3) := by decide +kernel
theorem dX3_single_80 : decode cX3_single 80 = .ok (.ldc2_w 81, 3) := by decide +kernel
theorem dX3_single_83 : decode cX3_single 83 = .ok (.lxor, 1) := by decide +kernel
theorem dX3_single_84 : decode cX3_single 84 = .ok (.land, 1) := by decide +kernel
theorem dX3_single_85 : decode cX3_single 85 = .ok (.lreturn, 1) := by decide +kernel
theorem dX3_single_86 : decode cX3_single 86 = .ok (.aload_n 0, 1) := by decide +kernel
theorem dX3_single_87 : decode cX3_single 87 = .ok (.iload_n 1, 1) := by decide +kernel
theorem dX3_single_88 : decode cX3_single 88 = .ok (.lload_n 2, 1) := by decide +kernel
theorem dX3_single_89 : decode cX3_single 89 = .ok (.aload 4, 2) := by decide +kernel
theorem dX3_single_91 : decode cX3_single 91 = .ok (.invokevirtual 86, 3) := by decide +kernel
theorem dX3_single_94 : decode cX3_single 94 = .ok (.lreturn, 1) := by decide +kernel
theorem dX3_single_95 : decode cX3_single 95 = .ok (.aload_n 0, 1) := by decide +kernel
theorem dX3_single_96 : decode cX3_single 96 = .ok (.iload_n 1, 1) := by decide +kernel
theorem dX3_single_97 : decode cX3_single 97 = .ok (.lload_n 2, 1) := by decide +kernel
theorem dX3_single_98 : decode cX3_single 98 = .ok (.aload 4, 2) := by decide +kernel
theorem dX3_single_100 : decode cX3_single 100 = .ok (.invokevirtual 89, 3) := by decide +kernel
theorem dX3_single_103 : decode cX3_single 103 = .ok (.lreturn, 1) := by decide +kernel
theorem dX3_single_104 : decode cX3_single 104 = .ok (.aload_n 0, 1) := by decide +kernel
theorem dX3_single_105 : decode cX3_single 105 = .ok (.iload_n 1, 1) := by decide +kernel
theorem dX3_single_106 : decode cX3_single 106 = .ok (.lload_n 2, 1) := by decide +kernel
theorem dX3_single_107 : decode cX3_single 107 = .ok (.aload 4, 2) := by decide +kernel
theorem dX3_single_109 : decode cX3_single 109 = .ok (.invokevirtual 83, 3) := by decide +kernel
theorem dX3_single_112 : decode cX3_single 112 = .ok (.lreturn, 1) := by decide +kernel
def f_X3_single (F P : Nat) (S : xSt) (v0 : Nat) (v1 : Int32) (v2 : Int64) (v4 : Nat) (D : xDt) : Option (Int64 × xDt) :=
  (f_X11_signOf F P S v1 D).bind fun q1 => if q1.1 = 67 then ((f_X3_common F P S v0 v1 v2 v4 q1.2).bind fun q2 => some (q2.1, q2.2)) else (if q1.1 = 68 then ((f_X3_pooled F P S v0 v1 v2 v4 q1.2).bind fun q3 => some (q3.1, q3.2)) else (if q1.1 = 80 then ((f_X3_known F P S v0 v1 ((q1.2.2 v0 5) &&& (v2 ^^^ (-1))) v4 q1.2).bind fun q4 => some ((q1.2.2 v0 5) &&& (q4.1 ^^^ (-1)), q4.2)) else (if q1.1 = 126 then (some ((q1.2.2 v0 5) &&& (v2 ^^^ (-1)), q1.2)) else ((f_X3_known F P S v0 v1 v2 v4 q1.2).bind fun q5 => some (q5.1, q5.2)))))
set_option maxHeartbeats 4000000 in
theorem S_X3_single {F P : Nat} {S : xSt} (hS : xWF S) {v0 : Nat} {v1 : Int32} {v2 : Int64} {v4 : Nat} {D : xDt} {r : Int64 × xDt} (k0 : xK S v0 3) (k4 : xK S v4 10) (h : f_X3_single F P S v0 v1 v2 v4 D = some r) : xSp md_X3_single (2, 0, 0) [.ref v0, .int v1, .long v2, .ref v4] (S, D) (xQl S r) := by
  unfold f_X3_single at h
  refine xEntry (by decide) (Nat.le_of_ble_eq_true rfl) ?_
  refine x_lv (lv' := [(0, .ref v0), (1, .int v1), (2, .long v2), (4, .ref v4)]) [0, 1, 2, 3] rfl ?_
  refine x_iload_n dX3_single_0 1 rfl ?_
  refine xbnd_e h (fun q1 e1 h => ?_)
  refine y_callNi (As := [.int v1]) (q := q1) cn_RX3_48 dX3_single_1 rfl (Nat.le_of_ble_eq_true rfl) (by omega) (S_X11_signOf hS e1) ?_
  by_cases c0 : q1.1 = 67
  · rw [if_pos c0] at h
    refine x_ls 86 dX3_single_4 (by decide) (by rw [c0]) (by decide) ?_
    refine x_aload_n dX3_single_86 0 rfl ?_
    refine x_iload_n dX3_single_87 1 rfl ?_
    refine x_lload_n dX3_single_88 2 rfl ?_
    refine x_aload dX3_single_89 3 rfl ?_
    refine xbnd_e h (fun q2 e2 h => ?_)
    refine y_callVl (As := [.int v1, .long v2, .ref v4]) (q := q2) cv_RX3_86 dX3_single_91 k0 rfl (Nat.le_of_ble_eq_true rfl) (by omega) (S_X3_common hS k0 k4 e2) ?_
    obtain rfl := Option.some.inj h
    exact y_lret rfl dX3_single_94
  · rw [if_neg c0] at h
    by_cases c1 : q1.1 = 68
    · rw [if_pos c1] at h
      refine x_ls 95 dX3_single_4 (by decide) (by rw [c1]) (by decide) ?_
      refine x_aload_n dX3_single_95 0 rfl ?_
      refine x_iload_n dX3_single_96 1 rfl ?_
      refine x_lload_n dX3_single_97 2 rfl ?_
      refine x_aload dX3_single_98 3 rfl ?_
      refine xbnd_e h (fun q3 e3 h => ?_)
      refine y_callVl (As := [.int v1, .long v2, .ref v4]) (q := q3) cv_RX3_89 dX3_single_100 k0 rfl (Nat.le_of_ble_eq_true rfl) (by omega) (S_X3_pooled hS k0 k4 e3) ?_
      obtain rfl := Option.some.inj h
      exact y_lret rfl dX3_single_103
    · rw [if_neg c1] at h
      by_cases c2 : q1.1 = 80
      · rw [if_pos c2] at h
        refine x_ls 59 dX3_single_4 (by decide) (by rw [c2]) (by decide) ?_
        refine x_aload_n dX3_single_59 0 rfl ?_
        refine y_getl fl_RX3_32 dX3_single_60 rfl k0 ?_
        refine x_aload_n dX3_single_63 0 rfl ?_
        refine x_iload_n dX3_single_64 1 rfl ?_
        refine x_aload_n dX3_single_65 0 rfl ?_
        refine y_getl fl_RX3_32 dX3_single_66 rfl k0 ?_
        refine x_lload_n dX3_single_69 2 rfl ?_
        refine x_ldc2 (-1) dX3_single_70 wd_629 ?_
        refine x_lxor dX3_single_73 ?_
        refine x_land dX3_single_74 ?_
        refine x_aload dX3_single_75 3 rfl ?_
        refine xbnd_e h (fun q4 e4 h => ?_)
        refine y_callVl (As := [.int v1, .long ((q1.2.2 v0 5) &&& (v2 ^^^ (-1))), .ref v4]) (q := q4) cv_RX3_83 dX3_single_77 k0 rfl (Nat.le_of_ble_eq_true rfl) (by omega) (S_X3_known hS k0 k4 e4) ?_
        refine x_ldc2 (-1) dX3_single_80 wd_629 ?_
        refine x_lxor dX3_single_83 ?_
        refine x_land dX3_single_84 ?_
        obtain rfl := Option.some.inj h
        exact y_lret rfl dX3_single_85
      · rw [if_neg c2] at h
        by_cases c3 : q1.1 = 126
        · rw [if_pos c3] at h
          refine x_ls 48 dX3_single_4 (by decide) (by rw [c3]) (by decide) ?_
          refine x_aload_n dX3_single_48 0 rfl ?_
          refine y_getl fl_RX3_32 dX3_single_49 rfl k0 ?_
          refine x_lload_n dX3_single_52 2 rfl ?_
          refine x_ldc2 (-1) dX3_single_53 wd_629 ?_
          refine x_lxor dX3_single_56 ?_
          refine x_land dX3_single_57 ?_
          obtain rfl := Option.some.inj h
          exact y_lret rfl dX3_single_58
        · rw [if_neg c3] at h
          refine x_ls (off := 100) 104 dX3_single_4 (by decide) ((lv_osw c0 (by decide)).trans ((lv_osw c1 (by decide)).trans ((lv_osw c2 (by decide)).trans ((lv_osw c3 (by decide)).trans rfl)))) (by decide) ?_
          refine x_aload_n dX3_single_104 0 rfl ?_
          refine x_iload_n dX3_single_105 1 rfl ?_
          refine x_lload_n dX3_single_106 2 rfl ?_
          refine x_aload dX3_single_107 3 rfl ?_
          refine xbnd_e h (fun q5 e5 h => ?_)
          refine y_callVl (As := [.int v1, .long v2, .ref v4]) (q := q5) cv_RX3_83 dX3_single_109 k0 rfl (Nat.le_of_ble_eq_true rfl) (by omega) (S_X3_known hS k0 k4 e5) ?_
          obtain rfl := Option.some.inj h
          exact y_lret rfl dX3_single_112

