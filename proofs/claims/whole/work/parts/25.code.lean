/-! printed by wip/whole/gen.py: the methods as plain functions, each proved to be what its bytecode does -/
theorem dX7_place_0 : decode cX7_place 0 = .ok (.iload_n 1, 1) := by decide +kernel
theorem dX7_place_1 : decode cX7_place 1 = .ok (.invokestatic 56, 3) := by decide +kernel
theorem dX7_place_4 : decode cX7_place 4 = .ok (.istore_n 2, 1) := by decide +kernel
theorem dX7_place_5 : decode cX7_place 5 = .ok (.iload_n 2, 1) := by decide +kernel
theorem dX7_place_6 : decode cX7_place 6 = .ok (.invokestatic 60, 3) := by decide +kernel
theorem dX7_place_9 : decode cX7_place 9 = .ok (.ifCond .eq 9, 3) := by decide +kernel
theorem dX7_place_12 : decode cX7_place 12 = .ok (.aload_n 0, 1) := by decide +kernel
theorem dX7_place_13 : decode cX7_place 13 = .ok (.iload_n 2, 1) := by decide +kernel
theorem dX7_place_14 : decode cX7_place 14 = .ok (.invokevirtual 63, 3) := by decide +kernel
theorem dX7_place_17 : decode cX7_place 17 = .ok (.ireturn, 1) := by decide +kernel
theorem dX7_place_18 : decode cX7_place 18 = .ok (.aload_n 0, 1) := by decide +kernel
theorem dX7_place_19 : decode cX7_place 19 = .ok (.getfield 39, 3) := by decide +kernel
theorem dX7_place_22 : decode cX7_place 22 = .ok (.ifCond .gt 5, 3) := by decide +kernel
theorem dX7_place_25 : decode cX7_place 25 = .ok (.iconst 0, 1) := by decide +kernel
theorem dX7_place_26 : decode cX7_place 26 = .ok (.ireturn, 1) := by decide +kernel
theorem dX7_place_27 : decode cX7_place 27 = .ok (.iload_n 2, 1) := by decide +kernel
theorem dX7_place_28 : decode cX7_place 28 = .ok (.invokestatic 66, 3) := by decide +kernel
theorem dX7_place_31 : decode cX7_place 31 = .ok (.ifCond .eq 38, 3) := by decide +kernel
theorem dX7_place_34 : decode cX7_place 34 = .ok (.aload_n 0, 1) := by decide +kernel
theorem dX7_place_35 : decode cX7_place 35 = .ok (.getfield 42, 3) := by decide +kernel
theorem dX7_place_38 : decode cX7_place 38 = .ok (.aload_n 0, 1) := by decide +kernel
theorem dX7_place_39 : decode cX7_place 39 = .ok (.getfield 15, 3) := by decide +kernel
theorem dX7_place_42 : decode cX7_place 42 = .ok (.arraylength, 1) := by decide +kernel
theorem dX7_place_43 : decode cX7_place 43 = .ok (.if_icmp .ge 26, 3) := by decide +kernel
theorem dX7_place_46 : decode cX7_place 46 = .ok (.aload_n 0, 1) := by decide +kernel
theorem dX7_place_47 : decode cX7_place 47 = .ok (.getfield 15, 3) := by decide +kernel
theorem dX7_place_50 : decode cX7_place 50 = .ok (.aload_n 0, 1) := by decide +kernel
theorem dX7_place_51 : decode cX7_place 51 = .ok (.dup, 1) := by decide +kernel
theorem dX7_place_52 : decode cX7_place 52 = .ok (.getfield 42, 3) := by decide +kernel
theorem dX7_place_55 : decode cX7_place 55 = .ok (.dup_x1, 1) := by decide +kernel
theorem dX7_place_56 : decode cX7_place 56 = .ok (.iconst 1, 1) := by decide +kernel
theorem dX7_place_57 : decode cX7_place 57 = .ok (.iadd, 1) := by decide +kernel
theorem dX7_place_58 : decode cX7_place 58 = .ok (.putfield 42, 3) := by decide +kernel
theorem dX7_place_61 : decode cX7_place 61 = .ok (.aload_n 0, 1) := by decide +kernel
theorem dX7_place_62 : decode cX7_place 62 = .ok (.getfield 39, 3) := by decide +kernel
theorem dX7_place_65 : decode cX7_place 65 = .ok (.iastore, 1) := by decide +kernel
theorem dX7_place_66 : decode cX7_place 66 = .ok (.goto 28, 3) := by decide +kernel
theorem dX7_place_69 : decode cX7_place 69 = .ok (.iload_n 2, 1) := by decide +kernel
theorem dX7_place_70 : decode cX7_place 70 = .ok (.invokestatic 69, 3) := by decide +kernel
theorem dX7_place_73 : decode cX7_place 73 = .ok (.ifCond .eq 21, 3) := by decide +kernel
theorem dX7_place_76 : decode cX7_place 76 = .ok (.aload_n 0, 1) := by decide +kernel
theorem dX7_place_77 : decode cX7_place 77 = .ok (.getfield 42, 3) := by decide +kernel
theorem dX7_place_80 : decode cX7_place 80 = .ok (.iconst 2, 1) := by decide +kernel
theorem dX7_place_81 : decode cX7_place 81 = .ok (.if_icmp .lt 13, 3) := by decide +kernel
theorem dX7_place_84 : decode cX7_place 84 = .ok (.aload_n 0, 1) := by decide +kernel
theorem dX7_place_85 : decode cX7_place 85 = .ok (.dup, 1) := by decide +kernel
theorem dX7_place_86 : decode cX7_place 86 = .ok (.getfield 42, 3) := by decide +kernel
theorem dX7_place_89 : decode cX7_place 89 = .ok (.iconst 1, 1) := by decide +kernel
theorem dX7_place_90 : decode cX7_place 90 = .ok (.isub, 1) := by decide +kernel
theorem dX7_place_91 : decode cX7_place 91 = .ok (.putfield 42, 3) := by decide +kernel
theorem dX7_place_94 : decode cX7_place 94 = .ok (.aload_n 0, 1) := by decide +kernel
theorem dX7_place_95 : decode cX7_place 95 = .ok (.getfield 9, 3) := by decide +kernel
theorem dX7_place_98 : decode cX7_place 98 = .ok (.aload_n 0, 1) := by decide +kernel
theorem dX7_place_99 : decode cX7_place 99 = .ok (.dup, 1) := by decide +kernel
theorem dX7_place_100 : decode cX7_place 100 = .ok (.getfield 39, 3) := by decide +kernel
theorem dX7_place_103 : decode cX7_place 103 = .ok (.iconst 1, 1) := by decide +kernel
theorem dX7_place_104 : decode cX7_place 104 = .ok (.isub, 1) := by decide +kernel
theorem dX7_place_105 : decode cX7_place 105 = .ok (.dup_x1, 1) := by decide +kernel
theorem dX7_place_106 : decode cX7_place 106 = .ok (.putfield 39, 3) := by decide +kernel
theorem dX7_place_109 : decode cX7_place 109 = .ok (.iload_n 1, 1) := by decide +kernel
theorem dX7_place_110 : decode cX7_place 110 = .ok (.iastore, 1) := by decide +kernel
theorem dX7_place_111 : decode cX7_place 111 = .ok (.iconst 1, 1) := by decide +kernel
theorem dX7_place_112 : decode cX7_place 112 = .ok (.ireturn, 1) := by decide +kernel
def f_X7_place_94 (F P : Nat) (S : xSt) (v0 : Nat) (v1 : Int32) (D : xDt) : Option (Int32 × xDt) :=
  xlet (xup D.1 v0 3 ((D.1 v0 3) - 1), D.2) fun D1 => xgrd (xin ((D.1 v0 3) - 1) (xl S (xr S v0 0))) (xlet (xup D1.1 (xr S v0 0) ((D.1 v0 3) - 1).toNatClampNeg v1, D1.2) fun D3 => some (1, D3))
set_option maxHeartbeats 4000000 in
theorem t_X7_place_94 {F P : Nat} {S : xSt} (hS : xWF S) {v0 : Nat} {v1 : Int32} {D : xDt} {r : Int32 × xDt} (k0 : xK S v0 7) (h : f_X7_place_94 F P S v0 v1 D = some r) : yEx md_X7_place 4 94 [(0, .ref v0), (1, .int v1)] [] S D (xQi S r) := by
  unfold f_X7_place_94 at h
  refine x_aload_n dX7_place_94 0 rfl ?_
  refine y_getr (kd := 100) hS fl_RX7_9 dX7_place_95 rfl k0 ?_
  refine x_aload_n dX7_place_98 0 rfl ?_
  refine x_dup dX7_place_99 rfl ?_
  refine y_geti fl_RX7_39 dX7_place_100 rfl k0 ?_
  refine x_iconst 1 dX7_place_103 (by decide) ?_
  refine x_isub dX7_place_104 ?_
  refine x_dup_x1 dX7_place_105 rfl rfl ?_
  refine xlet_e h (fun D1 eD1 h => ?_)
  refine y_puti fp_RX7_39 dX7_place_106 rfl k0 eD1 ?_
  refine x_iload_n dX7_place_109 1 rfl ?_
  refine xgrd_e h (fun g2 h => ?_)
  refine xlet_e h (fun D3 eD3 h => ?_)
  refine y_iast dX7_place_110 ((hS.f k0 0 100 rfl).2) g2 eD3 ?_
  refine x_iconst 1 dX7_place_111 (by decide) ?_
  obtain rfl := Option.some.inj h
  exact y_zret rfl rfl dX7_place_112

def f_X7_place_69 (F P : Nat) (S : xSt) (v0 : Nat) (v1 : Int32) (v2 : Int32) (D : xDt) : Option (Int32 × xDt) :=
  (f_X11_isJoin F P S v2 D).bind fun q1 => if q1.1 = 0 then (f_X7_place_94 F P S v0 v1 q1.2) else (if (q1.2.1 v0 4) < 2 then (f_X7_place_94 F P S v0 v1 q1.2) else (xlet (xup q1.2.1 v0 4 ((q1.2.1 v0 4) - 1), q1.2.2) fun D2 => f_X7_place_94 F P S v0 v1 D2))
set_option maxHeartbeats 4000000 in
theorem t_X7_place_69 {F P : Nat} {S : xSt} (hS : xWF S) {v0 : Nat} {v1 : Int32} {v2 : Int32} {D : xDt} {r : Int32 × xDt} (k0 : xK S v0 7) (h : f_X7_place_69 F P S v0 v1 v2 D = some r) : yEx md_X7_place 4 69 [(0, .ref v0), (1, .int v1), (2, .int v2)] [] S D (xQi S r) := by
  unfold f_X7_place_69 at h
  refine x_iload_n dX7_place_69 2 rfl ?_
  refine xbnd_e h (fun q1 e1 h => ?_)
  refine y_callNi (As := [.int v2]) (q := q1) cn_RX7_69 dX7_place_70 rfl (Nat.le_of_ble_eq_true rfl) (by omega) (S_X11_isJoin hS e1) ?_
  refine x_if_eq 94 dX7_place_73 (by decide) (fun c => ?_) (fun c => ?_)
  · rw [if_pos c] at h
    refine x_lv (lv' := [(0, .ref v0), (1, .int v1)]) [0, 1] rfl ?_
    exact t_X7_place_94 hS k0 h
  · rw [if_neg c] at h
    refine x_aload_n dX7_place_76 0 rfl ?_
    refine y_geti fl_RX7_42 dX7_place_77 rfl k0 ?_
    refine x_iconst 2 dX7_place_80 (by decide) ?_
    refine x_icmp_lt 94 dX7_place_81 (by decide) (fun c => ?_) (fun c => ?_)
    · rw [if_pos c] at h
      refine x_lv (lv' := [(0, .ref v0), (1, .int v1)]) [0, 1] rfl ?_
      exact t_X7_place_94 hS k0 h
    · rw [if_neg c] at h
      refine x_aload_n dX7_place_84 0 rfl ?_
      refine x_dup dX7_place_85 rfl ?_
      refine y_geti fl_RX7_42 dX7_place_86 rfl k0 ?_
      refine x_iconst 1 dX7_place_89 (by decide) ?_
      refine x_isub dX7_place_90 ?_
      refine xlet_e h (fun D2 eD2 h => ?_)
      refine y_puti fp_RX7_42 dX7_place_91 rfl k0 eD2 ?_
      refine x_lv (lv' := [(0, .ref v0), (1, .int v1)]) [0, 1] rfl ?_
      exact t_X7_place_94 hS k0 h

def f_X7_place (F P : Nat) (S : xSt) (v0 : Nat) (v1 : Int32) (D : xDt) : Option (Int32 × xDt) :=
  (f_X11_signOf F P S v1 D).bind fun q1 => (f_X11_isSaying F P S q1.1 q1.2).bind fun q2 => if q2.1 = 0 then (if 0 < (q2.2.1 v0 3) then ((f_X11_isLeaf F P S q1.1 q2.2).bind fun q3 => if q3.1 = 0 then (f_X7_place_69 F P S v0 v1 q1.1 q3.2) else (if (Int32.ofNat (xl S (xr S v0 1))) ≤ (q3.2.1 v0 4) then (f_X7_place_69 F P S v0 v1 q1.1 q3.2) else (xlet (xup q3.2.1 v0 4 ((q3.2.1 v0 4) + 1), q3.2.2) fun D4 => xgrd (xin (q3.2.1 v0 4) (xl S (xr S v0 1))) (xlet (xup D4.1 (xr S v0 1) (q3.2.1 v0 4).toNatClampNeg (D4.1 v0 3), D4.2) fun D6 => f_X7_place_94 F P S v0 v1 D6)))) else (some (0, q2.2))) else ((f_X7_unsay F P S v0 q1.1 q2.2).bind fun q7 => xgrd (xb q7.1) (some (q7.1, q7.2)))
set_option maxHeartbeats 4000000 in
theorem S_X7_place {F P : Nat} {S : xSt} (hS : xWF S) {v0 : Nat} {v1 : Int32} {D : xDt} {r : Int32 × xDt} (k0 : xK S v0 7) (h : f_X7_place F P S v0 v1 D = some r) : xSp md_X7_place (4, 0, 0) [.ref v0, .int v1] (S, D) (xQi S r) := by
  unfold f_X7_place at h
  refine xEntry (by decide) (Nat.le_of_ble_eq_true rfl) ?_
  refine x_lv (lv' := [(0, .ref v0), (1, .int v1)]) [0, 1] rfl ?_
  refine x_iload_n dX7_place_0 1 rfl ?_
  refine xbnd_e h (fun q1 e1 h => ?_)
  refine y_callNi (As := [.int v1]) (q := q1) cn_RX7_56 dX7_place_1 rfl (Nat.le_of_ble_eq_true rfl) (by omega) (S_X11_signOf hS e1) ?_
  refine y_istore_n q1.1 rfl [(2, .int q1.1), (0, .ref v0), (1, .int v1)] dX7_place_4 (by show _ < 3; decide) rfl ?_
  refine x_iload_n dX7_place_5 0 rfl ?_
  refine xbnd_e h (fun q2 e2 h => ?_)
  refine y_callNi (As := [.int q1.1]) (q := q2) cn_RX7_60 dX7_place_6 rfl (Nat.le_of_ble_eq_true rfl) (by omega) (S_X11_isSaying hS e2) ?_
  refine x_if_eq 18 dX7_place_9 (by decide) (fun c => ?_) (fun c => ?_)
  · rw [if_pos c] at h
    refine x_aload_n dX7_place_18 1 rfl ?_
    refine y_geti fl_RX7_39 dX7_place_19 rfl k0 ?_
    refine x_if_gt 27 dX7_place_22 (by decide) (fun c => ?_) (fun c => ?_)
    · rw [if_pos c] at h
      refine x_iload_n dX7_place_27 0 rfl ?_
      refine xbnd_e h (fun q3 e3 h => ?_)
      refine y_callNi (As := [.int q1.1]) (q := q3) cn_RX7_66 dX7_place_28 rfl (Nat.le_of_ble_eq_true rfl) (by omega) (S_X11_isLeaf hS e3) ?_
      refine x_if_eq 69 dX7_place_31 (by decide) (fun c => ?_) (fun c => ?_)
      · rw [if_pos c] at h
        refine x_lv (lv' := [(0, .ref v0), (1, .int v1), (2, .int q1.1)]) [1, 2, 0] rfl ?_
        exact t_X7_place_69 hS k0 h
      · rw [if_neg c] at h
        refine x_aload_n dX7_place_34 1 rfl ?_
        refine y_geti fl_RX7_42 dX7_place_35 rfl k0 ?_
        refine x_aload_n dX7_place_38 1 rfl ?_
        refine y_getr (kd := 100) hS fl_RX7_15 dX7_place_39 rfl k0 ?_
        refine y_alen dX7_place_42 ((hS.f k0 1 100 rfl).2) (by decide) ?_
        refine x_icmp_ge 69 dX7_place_43 (by decide) (fun c => ?_) (fun c => ?_)
        · rw [if_pos c] at h
          refine x_lv (lv' := [(0, .ref v0), (1, .int v1), (2, .int q1.1)]) [1, 2, 0] rfl ?_
          exact t_X7_place_69 hS k0 h
        · rw [if_neg c] at h
          refine x_aload_n dX7_place_46 1 rfl ?_
          refine y_getr (kd := 100) hS fl_RX7_15 dX7_place_47 rfl k0 ?_
          refine x_aload_n dX7_place_50 1 rfl ?_
          refine x_dup dX7_place_51 rfl ?_
          refine y_geti fl_RX7_42 dX7_place_52 rfl k0 ?_
          refine x_dup_x1 dX7_place_55 rfl rfl ?_
          refine x_iconst 1 dX7_place_56 (by decide) ?_
          refine x_iadd dX7_place_57 ?_
          refine xlet_e h (fun D4 eD4 h => ?_)
          refine y_puti fp_RX7_42 dX7_place_58 rfl k0 eD4 ?_
          refine x_aload_n dX7_place_61 1 rfl ?_
          refine y_geti fl_RX7_39 dX7_place_62 rfl k0 ?_
          refine xgrd_e h (fun g5 h => ?_)
          refine xlet_e h (fun D6 eD6 h => ?_)
          refine y_iast dX7_place_65 ((hS.f k0 1 100 rfl).2) g5 eD6 ?_
          refine x_goto 94 dX7_place_66 (by decide) ?_
          refine x_lv (lv' := [(0, .ref v0), (1, .int v1)]) [1, 2] rfl ?_
          exact t_X7_place_94 hS k0 h
    · rw [if_neg c] at h
      refine x_iconst 0 dX7_place_25 (by decide) ?_
      obtain rfl := Option.some.inj h
      exact y_zret rfl rfl dX7_place_26
  · rw [if_neg c] at h
    refine x_aload_n dX7_place_12 1 rfl ?_
    refine x_iload_n dX7_place_13 0 rfl ?_
    refine xbnd_e h (fun q7 e7 h => ?_)
    refine y_callVi (As := [.int q1.1]) (q := q7) cv_RX7_63 dX7_place_14 k0 rfl (Nat.le_of_ble_eq_true rfl) (by omega) (S_X7_unsay hS k0 e7) ?_
    refine xgrd_e h (fun g8 h => ?_)
    obtain rfl := Option.some.inj h
    exact y_zret rfl g8 dX7_place_17

theorem dX9_put_0 : decode cX9_put 0 = .ok (.aload_n 0, 1) := by decide +kernel
theorem dX9_put_1 : decode cX9_put 1 = .ok (.getfield 19, 3) := by decide +kernel
theorem dX9_put_4 : decode cX9_put 4 = .ok (.sipush 4000, 3) := by decide +kernel
theorem dX9_put_7 : decode cX9_put 7 = .ok (.if_icmp .ge 21, 3) := by decide +kernel
theorem dX9_put_10 : decode cX9_put 10 = .ok (.aload_n 0, 1) := by decide +kernel
theorem dX9_put_11 : decode cX9_put 11 = .ok (.getfield 11, 3) := by decide +kernel
theorem dX9_put_14 : decode cX9_put 14 = .ok (.aload_n 0, 1) := by decide +kernel
theorem dX9_put_15 : decode cX9_put 15 = .ok (.dup, 1) := by decide +kernel
theorem dX9_put_16 : decode cX9_put 16 = .ok (.getfield 19, 3) := by decide +kernel
theorem dX9_put_19 : decode cX9_put 19 = .ok (.dup_x1, 1) := by decide +kernel
theorem dX9_put_20 : decode cX9_put 20 = .ok (.iconst 1, 1) := by decide +kernel
theorem dX9_put_21 : decode cX9_put 21 = .ok (.iadd, 1) := by decide +kernel
theorem dX9_put_22 : decode cX9_put 22 = .ok (.putfield 19, 3) := by decide +kernel
theorem dX9_put_25 : decode cX9_put 25 = .ok (.iload_n 1, 1) := by decide +kernel
theorem dX9_put_26 : decode cX9_put 26 = .ok (.i2c, 1) := by decide +kernel
theorem dX9_put_27 : decode cX9_put 27 = .ok (.castore, 1) := by decide +kernel
theorem dX9_put_28 : decode cX9_put 28 = .ok (.return_, 1) := by decide +kernel
def f_X9_put (F P : Nat) (S : xSt) (v0 : Nat) (v1 : Int32) (D : xDt) : Option (xDt) :=
  if 4000 ≤ (D.1 v0 1) then (some D) else (xlet (xup D.1 v0 1 ((D.1 v0 1) + 1), D.2) fun D1 => xgrd (xin (D.1 v0 1) (xl S (xr S v0 0))) (xlet (xup D1.1 (xr S v0 0) (D.1 v0 1).toNatClampNeg (ji2c (ji2c v1)), D1.2) fun D3 => some D3))
set_option maxHeartbeats 4000000 in
theorem S_X9_put {F P : Nat} {S : xSt} (hS : xWF S) {v0 : Nat} {v1 : Int32} {D : xDt} {r : xDt} (k0 : xK S v0 9) (h : f_X9_put F P S v0 v1 D = some r) : xSp md_X9_put (0, 0, 0) [.ref v0, .int v1] (S, D) (xQv S r) := by
  unfold f_X9_put at h
  refine xEntry (by decide) (Nat.le_of_ble_eq_true rfl) ?_
  refine x_lv (lv' := [(0, .ref v0), (1, .int v1)]) [0, 1] rfl ?_
  refine x_aload_n dX9_put_0 0 rfl ?_
  refine y_geti fl_RX9_19 dX9_put_1 rfl k0 ?_
  refine x_sipush 4000 dX9_put_4 (by decide) ?_
  refine x_icmp_ge 28 dX9_put_7 (by decide) (fun c => ?_) (fun c => ?_)
  · rw [if_pos c] at h
    obtain rfl := Option.some.inj h
    exact y_vret rfl dX9_put_28
  · rw [if_neg c] at h
    refine x_aload_n dX9_put_10 0 rfl ?_
    refine y_getr (kd := 102) hS fl_RX9_11 dX9_put_11 rfl k0 ?_
    refine x_aload_n dX9_put_14 0 rfl ?_
    refine x_dup dX9_put_15 rfl ?_
    refine y_geti fl_RX9_19 dX9_put_16 rfl k0 ?_
    refine x_dup_x1 dX9_put_19 rfl rfl ?_
    refine x_iconst 1 dX9_put_20 (by decide) ?_
    refine x_iadd dX9_put_21 ?_
    refine xlet_e h (fun D1 eD1 h => ?_)
    refine y_puti fp_RX9_19 dX9_put_22 rfl k0 eD1 ?_
    refine x_iload_n dX9_put_25 1 rfl ?_
    refine x_i2c dX9_put_26 ?_
    refine xgrd_e h (fun g2 h => ?_)
    refine xlet_e h (fun D3 eD3 h => ?_)
    refine y_cast dX9_put_27 ((hS.f k0 0 102 rfl).2) g2 eD3 ?_
    obtain rfl := Option.some.inj h
    exact y_vret rfl dX9_put_28

theorem dX9_finish_0 : decode cX9_finish 0 = .ok (.aload_n 0, 1) := by decide +kernel
theorem dX9_finish_1 : decode cX9_finish 1 = .ok (.getfield 23, 3) := by decide +kernel
theorem dX9_finish_4 : decode cX9_finish 4 = .ok (.iconst 1, 1) := by decide +kernel
theorem dX9_finish_5 : decode cX9_finish 5 = .ok (.isub, 1) := by decide +kernel
theorem dX9_finish_6 : decode cX9_finish 6 = .ok (.istore_n 1, 1) := by decide +kernel
theorem dX9_finish_7 : decode cX9_finish 7 = .ok (.iload_n 1, 1) := by decide +kernel
theorem dX9_finish_8 : decode cX9_finish 8 = .ok (.ifCond .lt 93, 3) := by decide +kernel
theorem dX9_finish_11 : decode cX9_finish 11 = .ok (.aload_n 0, 1) := by decide +kernel
theorem dX9_finish_12 : decode cX9_finish 12 = .ok (.getfield 15, 3) := by decide +kernel
theorem dX9_finish_15 : decode cX9_finish 15 = .ok (.iload_n 1, 1) := by decide +kernel
theorem dX9_finish_16 : decode cX9_finish 16 = .ok (.iaload, 1) := by decide +kernel
theorem dX9_finish_17 : decode cX9_finish 17 = .ok (.istore_n 2, 1) := by decide +kernel
theorem dX9_finish_18 : decode cX9_finish 18 = .ok (.iload_n 2, 1) := by decide +kernel
theorem dX9_finish_19 : decode cX9_finish 19 = .ok (.invokestatic 32, 3) := by decide +kernel
theorem dX9_finish_22 : decode cX9_finish 22 = .ok (.istore_n 3, 1) := by decide +kernel
theorem dX9_finish_23 : decode cX9_finish 23 = .ok (.iload_n 3, 1) := by decide +kernel
theorem dX9_finish_24 : decode cX9_finish 24 = .ok (.invokestatic 65, 3) := by decide +kernel
theorem dX9_finish_27 : decode cX9_finish 27 = .ok (.ifCond .eq 55, 3) := by decide +kernel
theorem dX9_finish_30 : decode cX9_finish 30 = .ok (.iload_n 2, 1) := by decide +kernel
theorem dX9_finish_31 : decode cX9_finish 31 = .ok (.ldc 64, 2) := by decide +kernel
theorem dX9_finish_33 : decode cX9_finish 33 = .ok (.iand, 1) := by decide +kernel
theorem dX9_finish_34 : decode cX9_finish 34 = .ok (.ifCond .ne 48, 3) := by decide +kernel
theorem dX9_finish_37 : decode cX9_finish 37 = .ok (.aload_n 0, 1) := by decide +kernel
theorem dX9_finish_38 : decode cX9_finish 38 = .ok (.iload_n 3, 1) := by decide +kernel
theorem dX9_finish_39 : decode cX9_finish 39 = .ok (.bipush 91, 2) := by decide +kernel
theorem dX9_finish_41 : decode cX9_finish 41 = .ok (.if_icmp .ne 8, 3) := by decide +kernel
theorem dX9_finish_44 : decode cX9_finish 44 = .ok (.bipush 93, 2) := by decide +kernel
theorem dX9_finish_46 : decode cX9_finish 46 = .ok (.goto 15, 3) := by decide +kernel
theorem dX9_finish_49 : decode cX9_finish 49 = .ok (.iload_n 3, 1) := by decide +kernel
theorem dX9_finish_50 : decode cX9_finish 50 = .ok (.bipush 123, 2) := by decide +kernel
theorem dX9_finish_52 : decode cX9_finish 52 = .ok (.if_icmp .ne 8, 3) := by decide +kernel
theorem dX9_finish_55 : decode cX9_finish 55 = .ok (.bipush 125, 2) := by decide +kernel
theorem dX9_finish_57 : decode cX9_finish 57 = .ok (.goto 4, 3) := by decide +kernel
theorem dX9_finish_60 : decode cX9_finish 60 = .ok (.iload_n 3, 1) := by decide +kernel
theorem dX9_finish_61 : decode cX9_finish 61 = .ok (.invokevirtual 40, 3) := by decide +kernel
theorem dX9_finish_64 : decode cX9_finish 64 = .ok (.aload_n 0, 1) := by decide +kernel
theorem dX9_finish_65 : decode cX9_finish 65 = .ok (.getfield 15, 3) := by decide +kernel
theorem dX9_finish_68 : decode cX9_finish 68 = .ok (.iload_n 1, 1) := by decide +kernel
theorem dX9_finish_69 : decode cX9_finish 69 = .ok (.iload_n 2, 1) := by decide +kernel
theorem dX9_finish_70 : decode cX9_finish 70 = .ok (.ldc 64, 2) := by decide +kernel
theorem dX9_finish_72 : decode cX9_finish 72 = .ok (.ior, 1) := by decide +kernel
theorem dX9_finish_73 : decode cX9_finish 73 = .ok (.iastore, 1) := by decide +kernel
theorem dX9_finish_74 : decode cX9_finish 74 = .ok (.aload_n 0, 1) := by decide +kernel
theorem dX9_finish_75 : decode cX9_finish 75 = .ok (.iload_n 1, 1) := by decide +kernel
theorem dX9_finish_76 : decode cX9_finish 76 = .ok (.iconst 1, 1) := by decide +kernel
theorem dX9_finish_77 : decode cX9_finish 77 = .ok (.iadd, 1) := by decide +kernel
theorem dX9_finish_78 : decode cX9_finish 78 = .ok (.putfield 23, 3) := by decide +kernel
theorem dX9_finish_81 : decode cX9_finish 81 = .ok (.return_, 1) := by decide +kernel
theorem dX9_finish_82 : decode cX9_finish 82 = .ok (.iload_n 2, 1) := by decide +kernel
theorem dX9_finish_83 : decode cX9_finish 83 = .ok (.ldc 60, 2) := by decide +kernel
theorem dX9_finish_85 : decode cX9_finish 85 = .ok (.iand, 1) := by decide +kernel
theorem dX9_finish_86 : decode cX9_finish 86 = .ok (.ifCond .eq 9, 3) := by decide +kernel
theorem dX9_finish_89 : decode cX9_finish 89 = .ok (.aload_n 0, 1) := by decide +kernel
theorem dX9_finish_90 : decode cX9_finish 90 = .ok (.bipush 41, 2) := by decide +kernel
theorem dX9_finish_92 : decode cX9_finish 92 = .ok (.invokevirtual 40, 3) := by decide +kernel
theorem dX9_finish_95 : decode cX9_finish 95 = .ok (.iinc 1 (-1), 3) := by decide +kernel
theorem dX9_finish_98 : decode cX9_finish 98 = .ok (.goto (-91), 3) := by decide +kernel
theorem dX9_finish_101 : decode cX9_finish 101 = .ok (.aload_n 0, 1) := by decide +kernel
theorem dX9_finish_102 : decode cX9_finish 102 = .ok (.iconst 0, 1) := by decide +kernel
theorem dX9_finish_103 : decode cX9_finish 103 = .ok (.putfield 23, 3) := by decide +kernel
theorem dX9_finish_106 : decode cX9_finish 106 = .ok (.return_, 1) := by decide +kernel
def f_X9_finish_61 (F P : Nat) (S : xSt) (v0 : Nat) (v1 : Int32) (v2 : Int32) (s0 : Int32) (s1 : Nat) (D : xDt) : Option (xDt) :=
  (f_X9_put F P S s1 s0 D).bind fun q1 => xgrd (xin v1 (xl S (xr S v0 2))) (xlet (xup q1.1 (xr S v0 2) (v1).toNatClampNeg (v2 ||| 65536), q1.2) fun D3 => xlet (xup D3.1 v0 3 (v1 + 1), D3.2) fun D4 => some D4)
set_option maxHeartbeats 4000000 in
theorem t_X9_finish_61 {F P : Nat} {S : xSt} (hS : xWF S) {v0 : Nat} {v1 : Int32} {v2 : Int32} {s0 : Int32} {s1 : Nat} {D : xDt} {r : xDt} (k0 : xK S v0 9) (ks1 : xK S s1 9) (h : f_X9_finish_61 F P S v0 v1 v2 s0 s1 D = some r) : yEx md_X9_finish 2 61 [(0, .ref v0), (1, .int v1), (2, .int v2)] [.int s0, .ref s1] S D (xQv S r) := by
  unfold f_X9_finish_61 at h
  refine xbnd_e h (fun q1 e1 h => ?_)
  refine y_callVv (As := [.int s0]) (q := q1) cv_RX9_40 dX9_finish_61 ks1 rfl (Nat.le_of_ble_eq_true rfl) (by omega) (S_X9_put hS ks1 e1) ?_
  refine x_aload_n dX9_finish_64 0 rfl ?_
  refine y_getr (kd := 100) hS fl_RX9_15 dX9_finish_65 rfl k0 ?_
  refine x_iload_n dX9_finish_68 1 rfl ?_
  refine x_iload_n dX9_finish_69 2 rfl ?_
  refine x_ldc 65536 dX9_finish_70 wd_677 ?_
  refine x_ior dX9_finish_72 ?_
  refine xgrd_e h (fun g2 h => ?_)
  refine xlet_e h (fun D3 eD3 h => ?_)
  refine y_iast dX9_finish_73 ((hS.f k0 2 100 rfl).2) g2 eD3 ?_
  refine x_aload_n dX9_finish_74 0 rfl ?_
  refine x_iload_n dX9_finish_75 1 rfl ?_
  refine x_iconst 1 dX9_finish_76 (by decide) ?_
  refine x_iadd dX9_finish_77 ?_
  refine xlet_e h (fun D4 eD4 h => ?_)
  refine y_puti fp_RX9_23 dX9_finish_78 rfl k0 eD4 ?_
  obtain rfl := Option.some.inj h
  exact y_vret rfl dX9_finish_81

def f_X9_finish_95 (F P : Nat) (S : xSt) (rec_7 : Nat → Int32 → xDt → Option (xDt)) (v0 : Nat) (v1 : Int32) (D : xDt) : Option (xDt) :=
  xlet (v1 + (-1)) fun v1_1 => rec_7 v0 v1_1 D
set_option maxHeartbeats 4000000 in
theorem t_X9_finish_95 {F P : Nat} {S : xSt} (hS : xWF S) {rec_7 : Nat → Int32 → xDt → Option (xDt)} (hrec_7 : ∀ {v0 : Nat} {v1 : Int32} {D : xDt} {r : xDt}, xK S v0 9 → rec_7 v0 v1 D = some r → yEx md_X9_finish 2 7 [(0, .ref v0), (1, .int v1)] [] S D (xQv S r)) {v0 : Nat} {v1 : Int32} {D : xDt} {r : xDt} (k0 : xK S v0 9) (h : f_X9_finish_95 F P S rec_7 v0 v1 D = some r) : yEx md_X9_finish 2 95 [(0, .ref v0), (1, .int v1)] [] S D (xQv S r) := by
  unfold f_X9_finish_95 at h
  refine xlet_e h (fun v1_1 ev1_1 h => ?_)
  refine y_iinc v1_1 ev1_1 (by decide) [(1, .int v1_1), (0, .ref v0)] dX9_finish_95 1 rfl (by show _ < 4; decide) rfl ?_
  refine x_goto 7 dX9_finish_98 (by decide) ?_
  refine x_lv (lv' := [(0, .ref v0), (1, .int v1_1)]) [1, 0] rfl ?_
  exact hrec_7 k0 h

def f_X9_finish_82 (F P : Nat) (S : xSt) (rec_7 : Nat → Int32 → xDt → Option (xDt)) (v0 : Nat) (v1 : Int32) (v2 : Int32) (D : xDt) : Option (xDt) :=
  if (v2 &&& 131072) = 0 then (f_X9_finish_95 F P S rec_7 v0 v1 D) else ((f_X9_put F P S v0 41 D).bind fun q1 => f_X9_finish_95 F P S rec_7 v0 v1 q1)
set_option maxHeartbeats 4000000 in
theorem t_X9_finish_82 {F P : Nat} {S : xSt} (hS : xWF S) {rec_7 : Nat → Int32 → xDt → Option (xDt)} (hrec_7 : ∀ {v0 : Nat} {v1 : Int32} {D : xDt} {r : xDt}, xK S v0 9 → rec_7 v0 v1 D = some r → yEx md_X9_finish 2 7 [(0, .ref v0), (1, .int v1)] [] S D (xQv S r)) {v0 : Nat} {v1 : Int32} {v2 : Int32} {D : xDt} {r : xDt} (k0 : xK S v0 9) (h : f_X9_finish_82 F P S rec_7 v0 v1 v2 D = some r) : yEx md_X9_finish 2 82 [(0, .ref v0), (1, .int v1), (2, .int v2)] [] S D (xQv S r) := by
  unfold f_X9_finish_82 at h
  refine x_iload_n dX9_finish_82 2 rfl ?_
  refine x_ldc 131072 dX9_finish_83 wd_678 ?_
  refine x_iand dX9_finish_85 ?_
  refine x_if_eq 95 dX9_finish_86 (by decide) (fun c => ?_) (fun c => ?_)
  · rw [if_pos c] at h
    refine x_lv (lv' := [(0, .ref v0), (1, .int v1)]) [0, 1] rfl ?_
    exact t_X9_finish_95 hS hrec_7 k0 h
  · rw [if_neg c] at h
    refine x_aload_n dX9_finish_89 0 rfl ?_
    refine x_bipush 41 dX9_finish_90 (by decide) ?_
    refine xbnd_e h (fun q1 e1 h => ?_)
    refine y_callVv (As := [.int 41]) (q := q1) cv_RX9_40 dX9_finish_92 k0 rfl (Nat.le_of_ble_eq_true rfl) (by omega) (S_X9_put hS k0 e1) ?_
    refine x_lv (lv' := [(0, .ref v0), (1, .int v1)]) [0, 1] rfl ?_
    exact t_X9_finish_95 hS hrec_7 k0 h

def f_X9_finish_7s (F P : Nat) (S : xSt) (rec_7 : Nat → Int32 → xDt → Option (xDt)) (v0 : Nat) (v1 : Int32) (D : xDt) : Option (xDt) :=
  if v1 < 0 then (xlet (xup D.1 v0 3 0, D.2) fun D1 => some D1) else (xgrd (xin v1 (xl S (xr S v0 2))) (xlet (D.1 (xr S v0 2) (v1).toNatClampNeg) fun v2_3 => (f_X11_signOf F P S v2_3 D).bind fun q4 => (f_X11_hasTwoParts F P S q4.1 q4.2).bind fun q5 => if q5.1 = 0 then (f_X9_finish_82 F P S rec_7 v0 v1 v2_3 q5.2) else (if (v2_3 &&& 65536) = 0 then (if q4.1 = 91 then (f_X9_finish_61 F P S v0 v1 v2_3 93 v0 q5.2) else (if q4.1 = 123 then (f_X9_finish_61 F P S v0 v1 v2_3 125 v0 q5.2) else (f_X9_finish_61 F P S v0 v1 v2_3 q4.1 v0 q5.2))) else (f_X9_finish_82 F P S rec_7 v0 v1 v2_3 q5.2))))
def f_X9_finish_7 (F P : Nat) (S : xSt) : Nat → Nat → Int32 → xDt → Option (xDt)
  | 0 => fun _ _ _ => none
  | n + 1 => f_X9_finish_7s F P S (f_X9_finish_7 F P S n)
set_option maxHeartbeats 4000000 in
theorem t_X9_finish_7s {F P : Nat} {S : xSt} (hS : xWF S) {rec_7 : Nat → Int32 → xDt → Option (xDt)} (hrec_7 : ∀ {v0 : Nat} {v1 : Int32} {D : xDt} {r : xDt}, xK S v0 9 → rec_7 v0 v1 D = some r → yEx md_X9_finish 2 7 [(0, .ref v0), (1, .int v1)] [] S D (xQv S r)) {v0 : Nat} {v1 : Int32} {D : xDt} {r : xDt} (k0 : xK S v0 9) (h : f_X9_finish_7s F P S rec_7 v0 v1 D = some r) : yEx md_X9_finish 2 7 [(0, .ref v0), (1, .int v1)] [] S D (xQv S r) := by
  unfold f_X9_finish_7s at h
  refine x_iload_n dX9_finish_7 1 rfl ?_
  refine x_if_lt 101 dX9_finish_8 (by decide) (fun c => ?_) (fun c => ?_)
  · rw [if_pos c] at h
    refine x_aload_n dX9_finish_101 0 rfl ?_
    refine x_iconst 0 dX9_finish_102 (by decide) ?_
    refine xlet_e h (fun D1 eD1 h => ?_)
    refine y_puti fp_RX9_23 dX9_finish_103 rfl k0 eD1 ?_
    obtain rfl := Option.some.inj h
    exact y_vret rfl dX9_finish_106
  · rw [if_neg c] at h
    refine x_aload_n dX9_finish_11 0 rfl ?_
    refine y_getr (kd := 100) hS fl_RX9_15 dX9_finish_12 rfl k0 ?_
    refine x_iload_n dX9_finish_15 1 rfl ?_
    refine xgrd_e h (fun g2 h => ?_)
    refine y_iald dX9_finish_16 ((hS.f k0 2 100 rfl).2) g2 ?_
    refine xlet_e h (fun v2_3 ev2_3 h => ?_)
    refine y_istore_n v2_3 ev2_3 [(2, .int v2_3), (0, .ref v0), (1, .int v1)] dX9_finish_17 (by show _ < 4; decide) rfl ?_
    refine x_iload_n dX9_finish_18 0 rfl ?_
    refine xbnd_e h (fun q4 e4 h => ?_)
    refine y_callNi (As := [.int v2_3]) (q := q4) cn_RX9_32 dX9_finish_19 rfl (Nat.le_of_ble_eq_true rfl) (by omega) (S_X11_signOf hS e4) ?_
    refine y_istore_n q4.1 rfl [(3, .int q4.1), (2, .int v2_3), (0, .ref v0), (1, .int v1)] dX9_finish_22 (by show _ < 4; decide) rfl ?_
    refine x_iload_n dX9_finish_23 0 rfl ?_
    refine xbnd_e h (fun q5 e5 h => ?_)
    refine y_callNi (As := [.int q4.1]) (q := q5) cn_RX9_65 dX9_finish_24 rfl (Nat.le_of_ble_eq_true rfl) (by omega) (S_X11_hasTwoParts hS e5) ?_
    refine x_if_eq 82 dX9_finish_27 (by decide) (fun c => ?_) (fun c => ?_)
    · rw [if_pos c] at h
      refine x_lv (lv' := [(0, .ref v0), (1, .int v1), (2, .int v2_3)]) [2, 3, 1] rfl ?_
      exact t_X9_finish_82 hS hrec_7 k0 h
    · rw [if_neg c] at h
      refine x_iload_n dX9_finish_30 1 rfl ?_
      refine x_ldc 65536 dX9_finish_31 wd_677 ?_
      refine x_iand dX9_finish_33 ?_
      refine x_if_ne 82 dX9_finish_34 (by decide) (fun c => ?_) (fun c => ?_)
      · rw [if_neg c] at h
        refine x_lv (lv' := [(0, .ref v0), (1, .int v1), (2, .int v2_3)]) [2, 3, 1] rfl ?_
        exact t_X9_finish_82 hS hrec_7 k0 h
      · rw [if_pos c] at h
        refine x_aload_n dX9_finish_37 2 rfl ?_
        refine x_iload_n dX9_finish_38 0 rfl ?_
        refine x_bipush 91 dX9_finish_39 (by decide) ?_
        refine x_icmp_ne 49 dX9_finish_41 (by decide) (fun c => ?_) (fun c => ?_)
        · rw [if_neg c] at h
          refine x_iload_n dX9_finish_49 0 rfl ?_
          refine x_bipush 123 dX9_finish_50 (by decide) ?_
          refine x_icmp_ne 60 dX9_finish_52 (by decide) (fun c => ?_) (fun c => ?_)
          · rw [if_neg c] at h
            refine x_iload_n dX9_finish_60 0 rfl ?_
            refine x_lv (lv' := [(0, .ref v0), (1, .int v1), (2, .int v2_3)]) [2, 3, 1] rfl ?_
            exact t_X9_finish_61 hS k0 k0 h
          · rw [if_pos c] at h
            refine x_bipush 125 dX9_finish_55 (by decide) ?_
            refine x_goto 61 dX9_finish_57 (by decide) ?_
            refine x_lv (lv' := [(0, .ref v0), (1, .int v1), (2, .int v2_3)]) [2, 3, 1] rfl ?_
            exact t_X9_finish_61 hS k0 k0 h
        · rw [if_pos c] at h
          refine x_bipush 93 dX9_finish_44 (by decide) ?_
          refine x_goto 61 dX9_finish_46 (by decide) ?_
          refine x_lv (lv' := [(0, .ref v0), (1, .int v1), (2, .int v2_3)]) [2, 3, 1] rfl ?_
          exact t_X9_finish_61 hS k0 k0 h
theorem t_X9_finish_7 {F P : Nat} {S : xSt} (hS : xWF S) : ∀ (n : Nat) {v0 : Nat} {v1 : Int32} {D : xDt} {r : xDt}, xK S v0 9 → f_X9_finish_7 F P S n v0 v1 D = some r → yEx md_X9_finish 2 7 [(0, .ref v0), (1, .int v1)] [] S D (xQv S r) := by
  intro n
  induction n with
  | zero => intros; rename_i h; cases h
  | succ n ih =>
    intro v0 v1 D r k0 h
    exact t_X9_finish_7s hS (fun k0 h => ih k0 h) k0 h

def f_X9_finish (F P : Nat) (S : xSt) (v0 : Nat) (D : xDt) : Option (xDt) :=
  xlet ((D.1 v0 3) - 1) fun v1_1 => f_X9_finish_7 F P S F v0 v1_1 D
set_option maxHeartbeats 4000000 in
theorem S_X9_finish {F P : Nat} {S : xSt} (hS : xWF S) {v0 : Nat} {D : xDt} {r : xDt} (k0 : xK S v0 9) (h : f_X9_finish F P S v0 D = some r) : xSp md_X9_finish (2, 0, 0) [.ref v0] (S, D) (xQv S r) := by
  unfold f_X9_finish at h
  refine xEntry (by decide) (Nat.le_of_ble_eq_true rfl) ?_
  refine x_lv (lv' := [(0, .ref v0)]) [0] rfl ?_
  refine x_aload_n dX9_finish_0 0 rfl ?_
  refine y_geti fl_RX9_23 dX9_finish_1 rfl k0 ?_
  refine x_iconst 1 dX9_finish_4 (by decide) ?_
  refine x_isub dX9_finish_5 ?_
  refine xlet_e h (fun v1_1 ev1_1 h => ?_)
  refine y_istore_n v1_1 ev1_1 [(1, .int v1_1), (0, .ref v0)] dX9_finish_6 (by show _ < 4; decide) rfl ?_
  refine x_lv (lv' := [(0, .ref v0), (1, .int v1_1)]) [1, 0] rfl ?_
  exact t_X9_finish_7 hS F k0 h

theorem dX9_putAgents_0 : decode cX9_putAgents 0 = .ok (.iconst 0, 1) := by decide +kernel
theorem dX9_putAgents_1 : decode cX9_putAgents 1 = .ok (.istore_n 2, 1) := by decide +kernel
theorem dX9_putAgents_2 : decode cX9_putAgents 2 = .ok (.iload_n 2, 1) := by decide +kernel
theorem dX9_putAgents_3 : decode cX9_putAgents 3 = .ok (.iconst 4, 1) := by decide +kernel
theorem dX9_putAgents_4 : decode cX9_putAgents 4 = .ok (.if_icmp .ge 25, 3) := by decide +kernel
theorem dX9_putAgents_7 : decode cX9_putAgents 7 = .ok (.iload_n 1, 1) := by decide +kernel
theorem dX9_putAgents_8 : decode cX9_putAgents 8 = .ok (.iload_n 2, 1) := by decide +kernel
theorem dX9_putAgents_9 : decode cX9_putAgents 9 = .ok (.invokestatic 68, 3) := by decide +kernel
theorem dX9_putAgents_12 : decode cX9_putAgents 12 = .ok (.ifCond .eq 11, 3) := by decide +kernel
theorem dX9_putAgents_15 : decode cX9_putAgents 15 = .ok (.aload_n 0, 1) := by decide +kernel
theorem dX9_putAgents_16 : decode cX9_putAgents 16 = .ok (.bipush 49, 2) := by decide +kernel
theorem dX9_putAgents_18 : decode cX9_putAgents 18 = .ok (.iload_n 2, 1) := by decide +kernel
theorem dX9_putAgents_19 : decode cX9_putAgents 19 = .ok (.iadd, 1) := by decide +kernel
theorem dX9_putAgents_20 : decode cX9_putAgents 20 = .ok (.invokevirtual 40, 3) := by decide +kernel
theorem dX9_putAgents_23 : decode cX9_putAgents 23 = .ok (.iinc 2 1, 3) := by decide +kernel
theorem dX9_putAgents_26 : decode cX9_putAgents 26 = .ok (.goto (-24), 3) := by decide +kernel
theorem dX9_putAgents_29 : decode cX9_putAgents 29 = .ok (.return_, 1) := by decide +kernel
def f_X9_putAgents_23 (F P : Nat) (S : xSt) (rec_2 : Nat → Int32 → Int32 → xDt → Option (xDt)) (v0 : Nat) (v1 : Int32) (v2 : Int32) (D : xDt) : Option (xDt) :=
  xlet (v2 + 1) fun v2_1 => rec_2 v0 v1 v2_1 D
set_option maxHeartbeats 4000000 in
theorem t_X9_putAgents_23 {F P : Nat} {S : xSt} (hS : xWF S) {rec_2 : Nat → Int32 → Int32 → xDt → Option (xDt)} (hrec_2 : ∀ {v0 : Nat} {v1 : Int32} {v2 : Int32} {D : xDt} {r : xDt}, xK S v0 9 → rec_2 v0 v1 v2 D = some r → yEx md_X9_putAgents 1 2 [(0, .ref v0), (1, .int v1), (2, .int v2)] [] S D (xQv S r)) {v0 : Nat} {v1 : Int32} {v2 : Int32} {D : xDt} {r : xDt} (k0 : xK S v0 9) (h : f_X9_putAgents_23 F P S rec_2 v0 v1 v2 D = some r) : yEx md_X9_putAgents 1 23 [(0, .ref v0), (1, .int v1), (2, .int v2)] [] S D (xQv S r) := by
  unfold f_X9_putAgents_23 at h
  refine xlet_e h (fun v2_1 ev2_1 h => ?_)
  refine y_iinc v2_1 ev2_1 (by decide) [(2, .int v2_1), (0, .ref v0), (1, .int v1)] dX9_putAgents_23 2 rfl (by show _ < 3; decide) rfl ?_
  refine x_goto 2 dX9_putAgents_26 (by decide) ?_
  refine x_lv (lv' := [(0, .ref v0), (1, .int v1), (2, .int v2_1)]) [1, 2, 0] rfl ?_
  exact hrec_2 k0 h

def f_X9_putAgents_2s (F P : Nat) (S : xSt) (rec_2 : Nat → Int32 → Int32 → xDt → Option (xDt)) (v0 : Nat) (v1 : Int32) (v2 : Int32) (D : xDt) : Option (xDt) :=
  if 4 ≤ v2 then (some D) else ((f_X11_hasAgent F P S v1 v2 D).bind fun q1 => if q1.1 = 0 then (f_X9_putAgents_23 F P S rec_2 v0 v1 v2 q1.2) else ((f_X9_put F P S v0 (49 + v2) q1.2).bind fun q2 => f_X9_putAgents_23 F P S rec_2 v0 v1 v2 q2))
def f_X9_putAgents_2 (F P : Nat) (S : xSt) : Nat → Nat → Int32 → Int32 → xDt → Option (xDt)
  | 0 => fun _ _ _ _ => none
  | n + 1 => f_X9_putAgents_2s F P S (f_X9_putAgents_2 F P S n)
set_option maxHeartbeats 4000000 in
theorem t_X9_putAgents_2s {F P : Nat} {S : xSt} (hS : xWF S) {rec_2 : Nat → Int32 → Int32 → xDt → Option (xDt)} (hrec_2 : ∀ {v0 : Nat} {v1 : Int32} {v2 : Int32} {D : xDt} {r : xDt}, xK S v0 9 → rec_2 v0 v1 v2 D = some r → yEx md_X9_putAgents 1 2 [(0, .ref v0), (1, .int v1), (2, .int v2)] [] S D (xQv S r)) {v0 : Nat} {v1 : Int32} {v2 : Int32} {D : xDt} {r : xDt} (k0 : xK S v0 9) (h : f_X9_putAgents_2s F P S rec_2 v0 v1 v2 D = some r) : yEx md_X9_putAgents 1 2 [(0, .ref v0), (1, .int v1), (2, .int v2)] [] S D (xQv S r) := by
  unfold f_X9_putAgents_2s at h
  refine x_iload_n dX9_putAgents_2 2 rfl ?_
  refine x_iconst 4 dX9_putAgents_3 (by decide) ?_
  refine x_icmp_ge 29 dX9_putAgents_4 (by decide) (fun c => ?_) (fun c => ?_)
  · rw [if_pos c] at h
    obtain rfl := Option.some.inj h
    exact y_vret rfl dX9_putAgents_29
  · rw [if_neg c] at h
    refine x_iload_n dX9_putAgents_7 1 rfl ?_
    refine x_iload_n dX9_putAgents_8 2 rfl ?_
    refine xbnd_e h (fun q1 e1 h => ?_)
    refine y_callNi (As := [.int v1, .int v2]) (q := q1) cn_RX9_68 dX9_putAgents_9 rfl (Nat.le_of_ble_eq_true rfl) (by omega) (S_X11_hasAgent hS e1) ?_
    refine x_if_eq 23 dX9_putAgents_12 (by decide) (fun c => ?_) (fun c => ?_)
    · rw [if_pos c] at h
      exact t_X9_putAgents_23 hS hrec_2 k0 h
    · rw [if_neg c] at h
      refine x_aload_n dX9_putAgents_15 0 rfl ?_
      refine x_bipush 49 dX9_putAgents_16 (by decide) ?_
      refine x_iload_n dX9_putAgents_18 2 rfl ?_
      refine x_iadd dX9_putAgents_19 ?_
      refine xbnd_e h (fun q2 e2 h => ?_)
      refine y_callVv (As := [.int (49 + v2)]) (q := q2) cv_RX9_40 dX9_putAgents_20 k0 rfl (Nat.le_of_ble_eq_true rfl) (by omega) (S_X9_put hS k0 e2) ?_
      exact t_X9_putAgents_23 hS hrec_2 k0 h
theorem t_X9_putAgents_2 {F P : Nat} {S : xSt} (hS : xWF S) : ∀ (n : Nat) {v0 : Nat} {v1 : Int32} {v2 : Int32} {D : xDt} {r : xDt}, xK S v0 9 → f_X9_putAgents_2 F P S n v0 v1 v2 D = some r → yEx md_X9_putAgents 1 2 [(0, .ref v0), (1, .int v1), (2, .int v2)] [] S D (xQv S r) := by
  intro n
  induction n with
  | zero => intros; rename_i h; cases h
  | succ n ih =>
    intro v0 v1 v2 D r k0 h
    exact t_X9_putAgents_2s hS (fun k0 h => ih k0 h) k0 h

def f_X9_putAgents (F P : Nat) (S : xSt) (v0 : Nat) (v1 : Int32) (D : xDt) : Option (xDt) :=
  f_X9_putAgents_2 F P S F v0 v1 0 D
set_option maxHeartbeats 4000000 in
theorem S_X9_putAgents {F P : Nat} {S : xSt} (hS : xWF S) {v0 : Nat} {v1 : Int32} {D : xDt} {r : xDt} (k0 : xK S v0 9) (h : f_X9_putAgents F P S v0 v1 D = some r) : xSp md_X9_putAgents (1, 0, 0) [.ref v0, .int v1] (S, D) (xQv S r) := by
  unfold f_X9_putAgents at h
  refine xEntry (by decide) (Nat.le_of_ble_eq_true rfl) ?_
  refine x_lv (lv' := [(0, .ref v0), (1, .int v1)]) [0, 1] rfl ?_
  refine x_iconst 0 dX9_putAgents_0 (by decide) ?_
  refine y_istore_n 0 rfl [(2, .int 0), (0, .ref v0), (1, .int v1)] dX9_putAgents_1 (by show _ < 3; decide) rfl ?_
  refine x_lv (lv' := [(0, .ref v0), (1, .int v1), (2, .int 0)]) [1, 2, 0] rfl ?_
  exact t_X9_putAgents_2 hS F k0 h

theorem dX9_isWhole_0 : decode cX9_isWhole 0 = .ok (.aload_n 0, 1) := by decide +kernel
theorem dX9_isWhole_1 : decode cX9_isWhole 1 = .ok (.getfield 23, 3) := by decide +kernel
theorem dX9_isWhole_4 : decode cX9_isWhole 4 = .ok (.ifCond .ne 5, 3) := by decide +kernel
theorem dX9_isWhole_7 : decode cX9_isWhole 7 = .ok (.iconst 1, 1) := by decide +kernel
theorem dX9_isWhole_8 : decode cX9_isWhole 8 = .ok (.ireturn, 1) := by decide +kernel
theorem dX9_isWhole_9 : decode cX9_isWhole 9 = .ok (.aload_n 0, 1) := by decide +kernel
theorem dX9_isWhole_10 : decode cX9_isWhole 10 = .ok (.getfield 15, 3) := by decide +kernel
theorem dX9_isWhole_13 : decode cX9_isWhole 13 = .ok (.aload_n 0, 1) := by decide +kernel
theorem dX9_isWhole_14 : decode cX9_isWhole 14 = .ok (.getfield 23, 3) := by decide +kernel
theorem dX9_isWhole_17 : decode cX9_isWhole 17 = .ok (.iconst 1, 1) := by decide +kernel
theorem dX9_isWhole_18 : decode cX9_isWhole 18 = .ok (.isub, 1) := by decide +kernel
theorem dX9_isWhole_19 : decode cX9_isWhole 19 = .ok (.iaload, 1) := by decide +kernel
theorem dX9_isWhole_20 : decode cX9_isWhole 20 = .ok (.istore_n 1, 1) := by decide +kernel
theorem dX9_isWhole_21 : decode cX9_isWhole 21 = .ok (.iload_n 1, 1) := by decide +kernel
theorem dX9_isWhole_22 : decode cX9_isWhole 22 = .ok (.invokestatic 32, 3) := by decide +kernel
theorem dX9_isWhole_25 : decode cX9_isWhole 25 = .ok (.invokestatic 61, 3) := by decide +kernel
theorem dX9_isWhole_28 : decode cX9_isWhole 28 = .ok (.ifCond .eq 14, 3) := by decide +kernel
theorem dX9_isWhole_31 : decode cX9_isWhole 31 = .ok (.iload_n 1, 1) := by decide +kernel
theorem dX9_isWhole_32 : decode cX9_isWhole 32 = .ok (.ldc 64, 2) := by decide +kernel
theorem dX9_isWhole_34 : decode cX9_isWhole 34 = .ok (.iand, 1) := by decide +kernel
theorem dX9_isWhole_35 : decode cX9_isWhole 35 = .ok (.ifCond .ne 7, 3) := by decide +kernel
theorem dX9_isWhole_38 : decode cX9_isWhole 38 = .ok (.iconst 1, 1) := by decide +kernel
theorem dX9_isWhole_39 : decode cX9_isWhole 39 = .ok (.goto 4, 3) := by decide +kernel
theorem dX9_isWhole_42 : decode cX9_isWhole 42 = .ok (.iconst 0, 1) := by decide +kernel
theorem dX9_isWhole_43 : decode cX9_isWhole 43 = .ok (.ireturn, 1) := by decide +kernel
def f_X9_isWhole_42 (F P : Nat) (S : xSt) (D : xDt) : Option (Int32 × xDt) :=
  some (0, D)
set_option maxHeartbeats 4000000 in
theorem t_X9_isWhole_42 {F P : Nat} {S : xSt} (hS : xWF S) {D : xDt} {r : Int32 × xDt} (h : f_X9_isWhole_42 F P S D = some r) : yEx md_X9_isWhole 1 42 [] [] S D (xQi S r) := by
  unfold f_X9_isWhole_42 at h
  refine x_iconst 0 dX9_isWhole_42 (by decide) ?_
  obtain rfl := Option.some.inj h
  exact y_zret rfl rfl dX9_isWhole_43

def f_X9_isWhole (F P : Nat) (S : xSt) (v0 : Nat) (D : xDt) : Option (Int32 × xDt) :=
  if (D.1 v0 3) = 0 then (some (1, D)) else (xgrd (xin ((D.1 v0 3) - 1) (xl S (xr S v0 2))) (xlet (D.1 (xr S v0 2) ((D.1 v0 3) - 1).toNatClampNeg) fun v1_2 => (f_X11_signOf F P S v1_2 D).bind fun q3 => (f_X11_isSaying F P S q3.1 q3.2).bind fun q4 => if q4.1 = 0 then (f_X9_isWhole_42 F P S q4.2) else (if (v1_2 &&& 65536) = 0 then (some (1, q4.2)) else (f_X9_isWhole_42 F P S q4.2))))
set_option maxHeartbeats 4000000 in
theorem S_X9_isWhole {F P : Nat} {S : xSt} (hS : xWF S) {v0 : Nat} {D : xDt} {r : Int32 × xDt} (k0 : xK S v0 9) (h : f_X9_isWhole F P S v0 D = some r) : xSp md_X9_isWhole (1, 0, 0) [.ref v0] (S, D) (xQi S r) := by
  unfold f_X9_isWhole at h
  refine xEntry (by decide) (Nat.le_of_ble_eq_true rfl) ?_
  refine x_lv (lv' := [(0, .ref v0)]) [0] rfl ?_
  refine x_aload_n dX9_isWhole_0 0 rfl ?_
  refine y_geti fl_RX9_23 dX9_isWhole_1 rfl k0 ?_
  refine x_if_ne 9 dX9_isWhole_4 (by decide) (fun c => ?_) (fun c => ?_)
  · rw [if_neg c] at h
    refine x_aload_n dX9_isWhole_9 0 rfl ?_
    refine y_getr (kd := 100) hS fl_RX9_15 dX9_isWhole_10 rfl k0 ?_
    refine x_aload_n dX9_isWhole_13 0 rfl ?_
    refine y_geti fl_RX9_23 dX9_isWhole_14 rfl k0 ?_
    refine x_iconst 1 dX9_isWhole_17 (by decide) ?_
    refine x_isub dX9_isWhole_18 ?_
    refine xgrd_e h (fun g1 h => ?_)
    refine y_iald dX9_isWhole_19 ((hS.f k0 2 100 rfl).2) g1 ?_
    refine xlet_e h (fun v1_2 ev1_2 h => ?_)
    refine y_istore_n v1_2 ev1_2 [(1, .int v1_2), (0, .ref v0)] dX9_isWhole_20 (by show _ < 2; decide) rfl ?_
    refine x_iload_n dX9_isWhole_21 0 rfl ?_
    refine xbnd_e h (fun q3 e3 h => ?_)
    refine y_callNi (As := [.int v1_2]) (q := q3) cn_RX9_32 dX9_isWhole_22 rfl (Nat.le_of_ble_eq_true rfl) (by omega) (S_X11_signOf hS e3) ?_
    refine xbnd_e h (fun q4 e4 h => ?_)
    refine y_callNi (As := [.int q3.1]) (q := q4) cn_RX9_61 dX9_isWhole_25 rfl (Nat.le_of_ble_eq_true rfl) (by omega) (S_X11_isSaying hS e4) ?_
    refine x_if_eq 42 dX9_isWhole_28 (by decide) (fun c => ?_) (fun c => ?_)
    · rw [if_pos c] at h
      refine x_lv (lv' := []) [] rfl ?_
      exact t_X9_isWhole_42 hS h
    · rw [if_neg c] at h
      refine x_iload_n dX9_isWhole_31 0 rfl ?_
      refine x_ldc 65536 dX9_isWhole_32 wd_677 ?_
      refine x_iand dX9_isWhole_34 ?_
      refine x_if_ne 42 dX9_isWhole_35 (by decide) (fun c => ?_) (fun c => ?_)
      · rw [if_neg c] at h
        refine x_lv (lv' := []) [] rfl ?_
        exact t_X9_isWhole_42 hS h
      · rw [if_pos c] at h
        refine x_iconst 1 dX9_isWhole_38 (by decide) ?_
        refine x_goto 43 dX9_isWhole_39 (by decide) ?_
        obtain rfl := Option.some.inj h
        exact y_zret rfl rfl dX9_isWhole_43
  · rw [if_pos c] at h
    refine x_iconst 1 dX9_isWhole_7 (by decide) ?_
    obtain rfl := Option.some.inj h
    exact y_zret rfl rfl dX9_isWhole_8

theorem dX9_start_0 : decode cX9_start 0 = .ok (.iload_n 1, 1) := by decide +kernel
theorem dX9_start_1 : decode cX9_start 1 = .ok (.invokestatic 32, 3) := by decide +kernel
theorem dX9_start_4 : decode cX9_start 4 = .ok (.istore_n 2, 1) := by decide +kernel
theorem dX9_start_5 : decode cX9_start 5 = .ok (.iload_n 1, 1) := by decide +kernel
theorem dX9_start_6 : decode cX9_start 6 = .ok (.istore_n 3, 1) := by decide +kernel
theorem dX9_start_7 : decode cX9_start 7 = .ok (.iload_n 2, 1) := by decide +kernel
theorem dX9_start_8 : decode cX9_start 8 = .ok (.invokestatic 50, 3) := by decide +kernel
theorem dX9_start_11 : decode cX9_start 11 = .ok (.ifCond .ne 16, 3) := by decide +kernel
theorem dX9_start_14 : decode cX9_start 14 = .ok (.aload_n 0, 1) := by decide +kernel
theorem dX9_start_15 : decode cX9_start 15 = .ok (.iload_n 2, 1) := by decide +kernel
theorem dX9_start_16 : decode cX9_start 16 = .ok (.invokevirtual 40, 3) := by decide +kernel
theorem dX9_start_19 : decode cX9_start 19 = .ok (.aload_n 0, 1) := by decide +kernel
theorem dX9_start_20 : decode cX9_start 20 = .ok (.iload_n 1, 1) := by decide +kernel
theorem dX9_start_21 : decode cX9_start 21 = .ok (.invokevirtual 53, 3) := by decide +kernel
theorem dX9_start_24 : decode cX9_start 24 = .ok (.goto 21, 3) := by decide +kernel
theorem dX9_start_27 : decode cX9_start 27 = .ok (.aload_n 0, 1) := by decide +kernel
theorem dX9_start_28 : decode cX9_start 28 = .ok (.invokevirtual 56, 3) := by decide +kernel
theorem dX9_start_31 : decode cX9_start 31 = .ok (.ifCond .ne 14, 3) := by decide +kernel
theorem dX9_start_34 : decode cX9_start 34 = .ok (.aload_n 0, 1) := by decide +kernel
theorem dX9_start_35 : decode cX9_start 35 = .ok (.bipush 40, 2) := by decide +kernel
theorem dX9_start_37 : decode cX9_start 37 = .ok (.invokevirtual 40, 3) := by decide +kernel
theorem dX9_start_40 : decode cX9_start 40 = .ok (.iload_n 3, 1) := by decide +kernel
theorem dX9_start_41 : decode cX9_start 41 = .ok (.ldc 60, 2) := by decide +kernel
theorem dX9_start_43 : decode cX9_start 43 = .ok (.ior, 1) := by decide +kernel
theorem dX9_start_44 : decode cX9_start 44 = .ok (.istore_n 3, 1) := by decide +kernel
theorem dX9_start_45 : decode cX9_start 45 = .ok (.aload_n 0, 1) := by decide +kernel
theorem dX9_start_46 : decode cX9_start 46 = .ok (.getfield 23, 3) := by decide +kernel
theorem dX9_start_49 : decode cX9_start 49 = .ok (.aload_n 0, 1) := by decide +kernel
theorem dX9_start_50 : decode cX9_start 50 = .ok (.getfield 15, 3) := by decide +kernel
theorem dX9_start_53 : decode cX9_start 53 = .ok (.arraylength, 1) := by decide +kernel
theorem dX9_start_54 : decode cX9_start 54 = .ok (.if_icmp .ge 20, 3) := by decide +kernel
theorem dX9_start_57 : decode cX9_start 57 = .ok (.aload_n 0, 1) := by decide +kernel
theorem dX9_start_58 : decode cX9_start 58 = .ok (.getfield 15, 3) := by decide +kernel
theorem dX9_start_61 : decode cX9_start 61 = .ok (.aload_n 0, 1) := by decide +kernel
theorem dX9_start_62 : decode cX9_start 62 = .ok (.dup, 1) := by decide +kernel
theorem dX9_start_63 : decode cX9_start 63 = .ok (.getfield 23, 3) := by decide +kernel
theorem dX9_start_66 : decode cX9_start 66 = .ok (.dup_x1, 1) := by decide +kernel
theorem dX9_start_67 : decode cX9_start 67 = .ok (.iconst 1, 1) := by decide +kernel
theorem dX9_start_68 : decode cX9_start 68 = .ok (.iadd, 1) := by decide +kernel
theorem dX9_start_69 : decode cX9_start 69 = .ok (.putfield 23, 3) := by decide +kernel
theorem dX9_start_72 : decode cX9_start 72 = .ok (.iload_n 3, 1) := by decide +kernel
theorem dX9_start_73 : decode cX9_start 73 = .ok (.iastore, 1) := by decide +kernel
theorem dX9_start_74 : decode cX9_start 74 = .ok (.return_, 1) := by decide +kernel
def f_X9_start_45 (F P : Nat) (S : xSt) (v0 : Nat) (v3 : Int32) (D : xDt) : Option (xDt) :=
  if (Int32.ofNat (xl S (xr S v0 2))) ≤ (D.1 v0 3) then (some D) else (xlet (xup D.1 v0 3 ((D.1 v0 3) + 1), D.2) fun D1 => xgrd (xin (D.1 v0 3) (xl S (xr S v0 2))) (xlet (xup D1.1 (xr S v0 2) (D.1 v0 3).toNatClampNeg v3, D1.2) fun D3 => some D3))
set_option maxHeartbeats 4000000 in
theorem t_X9_start_45 {F P : Nat} {S : xSt} (hS : xWF S) {v0 : Nat} {v3 : Int32} {D : xDt} {r : xDt} (k0 : xK S v0 9) (h : f_X9_start_45 F P S v0 v3 D = some r) : yEx md_X9_start 2 45 [(0, .ref v0), (3, .int v3)] [] S D (xQv S r) := by
  unfold f_X9_start_45 at h
  refine x_aload_n dX9_start_45 0 rfl ?_
  refine y_geti fl_RX9_23 dX9_start_46 rfl k0 ?_
  refine x_aload_n dX9_start_49 0 rfl ?_
  refine y_getr (kd := 100) hS fl_RX9_15 dX9_start_50 rfl k0 ?_
  refine y_alen dX9_start_53 ((hS.f k0 2 100 rfl).2) (by decide) ?_
  refine x_icmp_ge 74 dX9_start_54 (by decide) (fun c => ?_) (fun c => ?_)
  · rw [if_pos c] at h
    obtain rfl := Option.some.inj h
    exact y_vret rfl dX9_start_74
  · rw [if_neg c] at h
    refine x_aload_n dX9_start_57 0 rfl ?_
    refine y_getr (kd := 100) hS fl_RX9_15 dX9_start_58 rfl k0 ?_
    refine x_aload_n dX9_start_61 0 rfl ?_
    refine x_dup dX9_start_62 rfl ?_
    refine y_geti fl_RX9_23 dX9_start_63 rfl k0 ?_
    refine x_dup_x1 dX9_start_66 rfl rfl ?_
    refine x_iconst 1 dX9_start_67 (by decide) ?_
    refine x_iadd dX9_start_68 ?_
    refine xlet_e h (fun D1 eD1 h => ?_)
    refine y_puti fp_RX9_23 dX9_start_69 rfl k0 eD1 ?_
    refine x_iload_n dX9_start_72 1 rfl ?_
    refine xgrd_e h (fun g2 h => ?_)
    refine xlet_e h (fun D3 eD3 h => ?_)
    refine y_iast dX9_start_73 ((hS.f k0 2 100 rfl).2) g2 eD3 ?_
    obtain rfl := Option.some.inj h
    exact y_vret rfl dX9_start_74

def f_X9_start (F P : Nat) (S : xSt) (v0 : Nat) (v1 : Int32) (D : xDt) : Option (xDt) :=
  (f_X11_signOf F P S v1 D).bind fun q1 => (f_X11_isJoin F P S q1.1 q1.2).bind fun q2 => if q2.1 = 0 then ((f_X9_put F P S v0 q1.1 q2.2).bind fun q6 => (f_X9_putAgents F P S v0 v1 q6).bind fun q7 => f_X9_start_45 F P S v0 v1 q7) else ((f_X9_isWhole F P S v0 q2.2).bind fun q3 => if q3.1 = 0 then ((f_X9_put F P S v0 40 q3.2).bind fun q4 => xlet (v1 ||| 131072) fun v3_5 => f_X9_start_45 F P S v0 v3_5 q4) else (f_X9_start_45 F P S v0 v1 q3.2))
set_option maxHeartbeats 4000000 in
theorem S_X9_start {F P : Nat} {S : xSt} (hS : xWF S) {v0 : Nat} {v1 : Int32} {D : xDt} {r : xDt} (k0 : xK S v0 9) (h : f_X9_start F P S v0 v1 D = some r) : xSp md_X9_start (2, 0, 0) [.ref v0, .int v1] (S, D) (xQv S r) := by
  unfold f_X9_start at h
  refine xEntry (by decide) (Nat.le_of_ble_eq_true rfl) ?_
  refine x_lv (lv' := [(0, .ref v0), (1, .int v1)]) [0, 1] rfl ?_
  refine x_iload_n dX9_start_0 1 rfl ?_
  refine xbnd_e h (fun q1 e1 h => ?_)
  refine y_callNi (As := [.int v1]) (q := q1) cn_RX9_32 dX9_start_1 rfl (Nat.le_of_ble_eq_true rfl) (by omega) (S_X11_signOf hS e1) ?_
  refine y_istore_n q1.1 rfl [(2, .int q1.1), (0, .ref v0), (1, .int v1)] dX9_start_4 (by show _ < 4; decide) rfl ?_
  refine x_iload_n dX9_start_5 2 rfl ?_
  refine y_istore_n v1 rfl [(3, .int v1), (2, .int q1.1), (0, .ref v0), (1, .int v1)] dX9_start_6 (by show _ < 4; decide) rfl ?_
  refine x_iload_n dX9_start_7 1 rfl ?_
  refine xbnd_e h (fun q2 e2 h => ?_)
  refine y_callNi (As := [.int q1.1]) (q := q2) cn_RX9_50 dX9_start_8 rfl (Nat.le_of_ble_eq_true rfl) (by omega) (S_X11_isJoin hS e2) ?_
  refine x_if_ne 27 dX9_start_11 (by decide) (fun c => ?_) (fun c => ?_)
  · rw [if_neg c] at h
    refine x_aload_n dX9_start_27 2 rfl ?_
    refine xbnd_e h (fun q3 e3 h => ?_)
    refine y_callVi (As := []) (q := q3) cv_RX9_56 dX9_start_28 k0 rfl (Nat.le_of_ble_eq_true rfl) (by omega) (S_X9_isWhole hS k0 e3) ?_
    refine x_if_ne 45 dX9_start_31 (by decide) (fun c => ?_) (fun c => ?_)
    · rw [if_neg c] at h
      refine x_lv (lv' := [(0, .ref v0), (3, .int v1)]) [2, 0] rfl ?_
      exact t_X9_start_45 hS k0 h
    · rw [if_pos c] at h
      refine x_aload_n dX9_start_34 2 rfl ?_
      refine x_bipush 40 dX9_start_35 (by decide) ?_
      refine xbnd_e h (fun q4 e4 h => ?_)
      refine y_callVv (As := [.int 40]) (q := q4) cv_RX9_40 dX9_start_37 k0 rfl (Nat.le_of_ble_eq_true rfl) (by omega) (S_X9_put hS k0 e4) ?_
      refine x_iload_n dX9_start_40 0 rfl ?_
      refine x_ldc 131072 dX9_start_41 wd_678 ?_
      refine x_ior dX9_start_43 ?_
      refine xlet_e h (fun v3_5 ev3_5 h => ?_)
      refine y_istore_n v3_5 ev3_5 [(3, .int v3_5), (2, .int q1.1), (0, .ref v0), (1, .int v1)] dX9_start_44 (by show _ < 4; decide) rfl ?_
      refine x_lv (lv' := [(0, .ref v0), (3, .int v3_5)]) [2, 0] rfl ?_
      exact t_X9_start_45 hS k0 h
  · rw [if_pos c] at h
    refine x_aload_n dX9_start_14 2 rfl ?_
    refine x_iload_n dX9_start_15 1 rfl ?_
    refine xbnd_e h (fun q6 e6 h => ?_)
    refine y_callVv (As := [.int q1.1]) (q := q6) cv_RX9_40 dX9_start_16 k0 rfl (Nat.le_of_ble_eq_true rfl) (by omega) (S_X9_put hS k0 e6) ?_
    refine x_aload_n dX9_start_19 2 rfl ?_
    refine x_iload_n dX9_start_20 3 rfl ?_
    refine xbnd_e h (fun q7 e7 h => ?_)
    refine y_callVv (As := [.int v1]) (q := q7) cv_RX9_53 dX9_start_21 k0 rfl (Nat.le_of_ble_eq_true rfl) (by omega) (S_X9_putAgents hS k0 e7) ?_
    refine x_goto 45 dX9_start_24 (by decide) ?_
    refine x_lv (lv' := [(0, .ref v0), (3, .int v1)]) [2, 0] rfl ?_
    exact t_X9_start_45 hS k0 h

theorem dX9_write_0 : decode cX9_write 0 = .ok (.aload_n 0, 1) := by decide +kernel
theorem dX9_write_1 : decode cX9_write 1 = .ok (.iconst 0, 1) := by decide +kernel
theorem dX9_write_2 : decode cX9_write 2 = .ok (.putfield 19, 3) := by decide +kernel
theorem dX9_write_5 : decode cX9_write 5 = .ok (.aload_n 0, 1) := by decide +kernel
theorem dX9_write_6 : decode cX9_write 6 = .ok (.iconst 0, 1) := by decide +kernel
theorem dX9_write_7 : decode cX9_write 7 = .ok (.putfield 23, 3) := by decide +kernel
theorem dX9_write_10 : decode cX9_write 10 = .ok (.iconst 0, 1) := by decide +kernel
theorem dX9_write_11 : decode cX9_write 11 = .ok (.istore_n 2, 1) := by decide +kernel
theorem dX9_write_12 : decode cX9_write 12 = .ok (.iload_n 2, 1) := by decide +kernel
theorem dX9_write_13 : decode cX9_write 13 = .ok (.aload_n 1, 1) := by decide +kernel
theorem dX9_write_14 : decode cX9_write 14 = .ok (.getfield 26, 3) := by decide +kernel
theorem dX9_write_17 : decode cX9_write 17 = .ok (.if_icmp .ge 46, 3) := by decide +kernel
theorem dX9_write_20 : decode cX9_write 20 = .ok (.aload_n 1, 1) := by decide +kernel
theorem dX9_write_21 : decode cX9_write 21 = .ok (.getfield 29, 3) := by decide +kernel
theorem dX9_write_24 : decode cX9_write 24 = .ok (.iload_n 2, 1) := by decide +kernel
theorem dX9_write_25 : decode cX9_write 25 = .ok (.iaload, 1) := by decide +kernel
theorem dX9_write_26 : decode cX9_write 26 = .ok (.istore_n 3, 1) := by decide +kernel
theorem dX9_write_27 : decode cX9_write 27 = .ok (.iload_n 3, 1) := by decide +kernel
theorem dX9_write_28 : decode cX9_write 28 = .ok (.invokestatic 32, 3) := by decide +kernel
theorem dX9_write_31 : decode cX9_write 31 = .ok (.invokestatic 36, 3) := by decide +kernel
theorem dX9_write_34 : decode cX9_write 34 = .ok (.ifCond .eq 18, 3) := by decide +kernel
theorem dX9_write_37 : decode cX9_write 37 = .ok (.aload_n 0, 1) := by decide +kernel
theorem dX9_write_38 : decode cX9_write 38 = .ok (.iload_n 3, 1) := by decide +kernel
theorem dX9_write_39 : decode cX9_write 39 = .ok (.invokestatic 32, 3) := by decide +kernel
theorem dX9_write_42 : decode cX9_write 42 = .ok (.invokevirtual 40, 3) := by decide +kernel
theorem dX9_write_45 : decode cX9_write 45 = .ok (.aload_n 0, 1) := by decide +kernel
theorem dX9_write_46 : decode cX9_write 46 = .ok (.invokevirtual 44, 3) := by decide +kernel
theorem dX9_write_49 : decode cX9_write 49 = .ok (.goto 8, 3) := by decide +kernel
theorem dX9_write_52 : decode cX9_write 52 = .ok (.aload_n 0, 1) := by decide +kernel
theorem dX9_write_53 : decode cX9_write 53 = .ok (.iload_n 3, 1) := by decide +kernel
theorem dX9_write_54 : decode cX9_write 54 = .ok (.invokevirtual 47, 3) := by decide +kernel
theorem dX9_write_57 : decode cX9_write 57 = .ok (.iinc 2 1, 3) := by decide +kernel
theorem dX9_write_60 : decode cX9_write 60 = .ok (.goto (-48), 3) := by decide +kernel
theorem dX9_write_63 : decode cX9_write 63 = .ok (.aload_n 0, 1) := by decide +kernel
theorem dX9_write_64 : decode cX9_write 64 = .ok (.getfield 19, 3) := by decide +kernel
theorem dX9_write_67 : decode cX9_write 67 = .ok (.ireturn, 1) := by decide +kernel
def f_X9_write_57 (F P : Nat) (S : xSt) (rec_12 : Nat → Nat → Int32 → xDt → Option (Int32 × xDt)) (v0 : Nat) (v1 : Nat) (v2 : Int32) (D : xDt) : Option (Int32 × xDt) :=
  xlet (v2 + 1) fun v2_1 => rec_12 v0 v1 v2_1 D
set_option maxHeartbeats 4000000 in
theorem t_X9_write_57 {F P : Nat} {S : xSt} (hS : xWF S) {rec_12 : Nat → Nat → Int32 → xDt → Option (Int32 × xDt)} (hrec_12 : ∀ {v0 : Nat} {v1 : Nat} {v2 : Int32} {D : xDt} {r : Int32 × xDt}, xK S v0 9 → xK S v1 2 → rec_12 v0 v1 v2 D = some r → yEx md_X9_write 3 12 [(0, .ref v0), (1, .ref v1), (2, .int v2)] [] S D (xQi S r)) {v0 : Nat} {v1 : Nat} {v2 : Int32} {D : xDt} {r : Int32 × xDt} (k0 : xK S v0 9) (k1 : xK S v1 2) (h : f_X9_write_57 F P S rec_12 v0 v1 v2 D = some r) : yEx md_X9_write 3 57 [(0, .ref v0), (1, .ref v1), (2, .int v2)] [] S D (xQi S r) := by
  unfold f_X9_write_57 at h
  refine xlet_e h (fun v2_1 ev2_1 h => ?_)
  refine y_iinc v2_1 ev2_1 (by decide) [(2, .int v2_1), (0, .ref v0), (1, .ref v1)] dX9_write_57 2 rfl (by show _ < 4; decide) rfl ?_
  refine x_goto 12 dX9_write_60 (by decide) ?_
  refine x_lv (lv' := [(0, .ref v0), (1, .ref v1), (2, .int v2_1)]) [1, 2, 0] rfl ?_
  exact hrec_12 k0 k1 h

def f_X9_write_12s (F P : Nat) (S : xSt) (rec_12 : Nat → Nat → Int32 → xDt → Option (Int32 × xDt)) (v0 : Nat) (v1 : Nat) (v2 : Int32) (D : xDt) : Option (Int32 × xDt) :=
  if (D.1 v1 1) ≤ v2 then (some (D.1 v0 1, D)) else (xgrd (xin v2 (xl S (xr S v1 0))) (xlet (D.1 (xr S v1 0) (v2).toNatClampNeg) fun v3_2 => (f_X11_signOf F P S v3_2 D).bind fun q3 => (f_X11_isLeaf F P S q3.1 q3.2).bind fun q4 => if q4.1 = 0 then ((f_X9_start F P S v0 v3_2 q4.2).bind fun q5 => f_X9_write_57 F P S rec_12 v0 v1 v2 q5) else ((f_X11_signOf F P S v3_2 q4.2).bind fun q6 => (f_X9_put F P S v0 q6.1 q6.2).bind fun q7 => (f_X9_finish F P S v0 q7).bind fun q8 => f_X9_write_57 F P S rec_12 v0 v1 v2 q8)))
def f_X9_write_12 (F P : Nat) (S : xSt) : Nat → Nat → Nat → Int32 → xDt → Option (Int32 × xDt)
  | 0 => fun _ _ _ _ => none
  | n + 1 => f_X9_write_12s F P S (f_X9_write_12 F P S n)
set_option maxHeartbeats 4000000 in
theorem t_X9_write_12s {F P : Nat} {S : xSt} (hS : xWF S) {rec_12 : Nat → Nat → Int32 → xDt → Option (Int32 × xDt)} (hrec_12 : ∀ {v0 : Nat} {v1 : Nat} {v2 : Int32} {D : xDt} {r : Int32 × xDt}, xK S v0 9 → xK S v1 2 → rec_12 v0 v1 v2 D = some r → yEx md_X9_write 3 12 [(0, .ref v0), (1, .ref v1), (2, .int v2)] [] S D (xQi S r)) {v0 : Nat} {v1 : Nat} {v2 : Int32} {D : xDt} {r : Int32 × xDt} (k0 : xK S v0 9) (k1 : xK S v1 2) (h : f_X9_write_12s F P S rec_12 v0 v1 v2 D = some r) : yEx md_X9_write 3 12 [(0, .ref v0), (1, .ref v1), (2, .int v2)] [] S D (xQi S r) := by
  unfold f_X9_write_12s at h
  refine x_iload_n dX9_write_12 2 rfl ?_
  refine x_aload_n dX9_write_13 1 rfl ?_
  refine y_geti fl_RX9_26 dX9_write_14 rfl k1 ?_
  refine x_icmp_ge 63 dX9_write_17 (by decide) (fun c => ?_) (fun c => ?_)
  · rw [if_pos c] at h
    refine x_aload_n dX9_write_63 0 rfl ?_
    refine y_geti fl_RX9_19 dX9_write_64 rfl k0 ?_
    obtain rfl := Option.some.inj h
    exact y_iret rfl dX9_write_67
  · rw [if_neg c] at h
    refine x_aload_n dX9_write_20 1 rfl ?_
    refine y_getr (kd := 100) hS fl_RX9_29 dX9_write_21 rfl k1 ?_
    refine x_iload_n dX9_write_24 2 rfl ?_
    refine xgrd_e h (fun g1 h => ?_)
    refine y_iald dX9_write_25 ((hS.f k1 0 100 rfl).2) g1 ?_
    refine xlet_e h (fun v3_2 ev3_2 h => ?_)
    refine y_istore_n v3_2 ev3_2 [(3, .int v3_2), (0, .ref v0), (1, .ref v1), (2, .int v2)] dX9_write_26 (by show _ < 4; decide) rfl ?_
    refine x_iload_n dX9_write_27 0 rfl ?_
    refine xbnd_e h (fun q3 e3 h => ?_)
    refine y_callNi (As := [.int v3_2]) (q := q3) cn_RX9_32 dX9_write_28 rfl (Nat.le_of_ble_eq_true rfl) (by omega) (S_X11_signOf hS e3) ?_
    refine xbnd_e h (fun q4 e4 h => ?_)
    refine y_callNi (As := [.int q3.1]) (q := q4) cn_RX9_36 dX9_write_31 rfl (Nat.le_of_ble_eq_true rfl) (by omega) (S_X11_isLeaf hS e4) ?_
    refine x_if_eq 52 dX9_write_34 (by decide) (fun c => ?_) (fun c => ?_)
    · rw [if_pos c] at h
      refine x_aload_n dX9_write_52 1 rfl ?_
      refine x_iload_n dX9_write_53 0 rfl ?_
      refine xbnd_e h (fun q5 e5 h => ?_)
      refine y_callVv (As := [.int v3_2]) (q := q5) cv_RX9_47 dX9_write_54 k0 rfl (Nat.le_of_ble_eq_true rfl) (by omega) (S_X9_start hS k0 e5) ?_
      refine x_lv (lv' := [(0, .ref v0), (1, .ref v1), (2, .int v2)]) [1, 2, 3] rfl ?_
      exact t_X9_write_57 hS hrec_12 k0 k1 h
    · rw [if_neg c] at h
      refine x_aload_n dX9_write_37 1 rfl ?_
      refine x_iload_n dX9_write_38 0 rfl ?_
      refine xbnd_e h (fun q6 e6 h => ?_)
      refine y_callNi (As := [.int v3_2]) (q := q6) cn_RX9_32 dX9_write_39 rfl (Nat.le_of_ble_eq_true rfl) (by omega) (S_X11_signOf hS e6) ?_
      refine xbnd_e h (fun q7 e7 h => ?_)
      refine y_callVv (As := [.int q6.1]) (q := q7) cv_RX9_40 dX9_write_42 k0 rfl (Nat.le_of_ble_eq_true rfl) (by omega) (S_X9_put hS k0 e7) ?_
      refine x_aload_n dX9_write_45 1 rfl ?_
      refine xbnd_e h (fun q8 e8 h => ?_)
      refine y_callVv (As := []) (q := q8) cv_RX9_44 dX9_write_46 k0 rfl (Nat.le_of_ble_eq_true rfl) (by omega) (S_X9_finish hS k0 e8) ?_
      refine x_goto 57 dX9_write_49 (by decide) ?_
      refine x_lv (lv' := [(0, .ref v0), (1, .ref v1), (2, .int v2)]) [1, 2, 3] rfl ?_
      exact t_X9_write_57 hS hrec_12 k0 k1 h
theorem t_X9_write_12 {F P : Nat} {S : xSt} (hS : xWF S) : ∀ (n : Nat) {v0 : Nat} {v1 : Nat} {v2 : Int32} {D : xDt} {r : Int32 × xDt}, xK S v0 9 → xK S v1 2 → f_X9_write_12 F P S n v0 v1 v2 D = some r → yEx md_X9_write 3 12 [(0, .ref v0), (1, .ref v1), (2, .int v2)] [] S D (xQi S r) := by
  intro n
  induction n with
  | zero => intros; rename_i h; cases h
  | succ n ih =>
    intro v0 v1 v2 D r k0 k1 h
    exact t_X9_write_12s hS (fun k0 k1 h => ih k0 k1 h) k0 k1 h

def f_X9_write (F P : Nat) (S : xSt) (v0 : Nat) (v1 : Nat) (D : xDt) : Option (Int32 × xDt) :=
  xlet (xup D.1 v0 1 0, D.2) fun D1 => xlet (xup D1.1 v0 3 0, D1.2) fun D2 => f_X9_write_12 F P S F v0 v1 0 D2
set_option maxHeartbeats 4000000 in
theorem S_X9_write {F P : Nat} {S : xSt} (hS : xWF S) {v0 : Nat} {v1 : Nat} {D : xDt} {r : Int32 × xDt} (k0 : xK S v0 9) (k1 : xK S v1 2) (h : f_X9_write F P S v0 v1 D = some r) : xSp md_X9_write (3, 0, 0) [.ref v0, .ref v1] (S, D) (xQi S r) := by
  unfold f_X9_write at h
  refine xEntry (by decide) (Nat.le_of_ble_eq_true rfl) ?_
  refine x_lv (lv' := [(0, .ref v0), (1, .ref v1)]) [0, 1] rfl ?_
  refine x_aload_n dX9_write_0 0 rfl ?_
  refine x_iconst 0 dX9_write_1 (by decide) ?_
  refine xlet_e h (fun D1 eD1 h => ?_)
  refine y_puti fp_RX9_19 dX9_write_2 rfl k0 eD1 ?_
  refine x_aload_n dX9_write_5 0 rfl ?_
  refine x_iconst 0 dX9_write_6 (by decide) ?_
  refine xlet_e h (fun D2 eD2 h => ?_)
  refine y_puti fp_RX9_23 dX9_write_7 rfl k0 eD2 ?_
  refine x_iconst 0 dX9_write_10 (by decide) ?_
  refine y_istore_n 0 rfl [(2, .int 0), (0, .ref v0), (1, .ref v1)] dX9_write_11 (by show _ < 4; decide) rfl ?_
  refine x_lv (lv' := [(0, .ref v0), (1, .ref v1), (2, .int 0)]) [1, 2, 0] rfl ?_
  exact t_X9_write_12 hS F k0 k1 h

theorem dX10_has_0 : decode cX10_has 0 = .ok (.iload_n 1, 1) := by decide +kernel
theorem dX10_has_1 : decode cX10_has 1 = .ok (.ifCond .lt 15, 3) := by decide +kernel
theorem dX10_has_4 : decode cX10_has 4 = .ok (.iload_n 1, 1) := by decide +kernel
theorem dX10_has_5 : decode cX10_has 5 = .ok (.aload_n 0, 1) := by decide +kernel
theorem dX10_has_6 : decode cX10_has 6 = .ok (.getfield 18, 3) := by decide +kernel
theorem dX10_has_9 : decode cX10_has 9 = .ok (.if_icmp .ge 7, 3) := by decide +kernel
theorem dX10_has_12 : decode cX10_has 12 = .ok (.iconst 1, 1) := by decide +kernel
theorem dX10_has_13 : decode cX10_has 13 = .ok (.goto 4, 3) := by decide +kernel
theorem dX10_has_16 : decode cX10_has 16 = .ok (.iconst 0, 1) := by decide +kernel
theorem dX10_has_17 : decode cX10_has 17 = .ok (.ireturn, 1) := by decide +kernel
def f_X10_has_16 (F P : Nat) (S : xSt) (D : xDt) : Option (Int32 × xDt) :=
  some (0, D)
set_option maxHeartbeats 4000000 in
theorem t_X10_has_16 {F P : Nat} {S : xSt} (hS : xWF S) {D : xDt} {r : Int32 × xDt} (h : f_X10_has_16 F P S D = some r) : yEx md_X10_has 0 16 [] [] S D (xQi S r) := by
  unfold f_X10_has_16 at h
  refine x_iconst 0 dX10_has_16 (by decide) ?_
  obtain rfl := Option.some.inj h
  exact y_zret rfl rfl dX10_has_17

def f_X10_has (F P : Nat) (S : xSt) (v0 : Nat) (v1 : Int32) (D : xDt) : Option (Int32 × xDt) :=
  if v1 < 0 then (f_X10_has_16 F P S D) else (if (D.1 v0 0) ≤ v1 then (f_X10_has_16 F P S D) else (some (1, D)))
set_option maxHeartbeats 4000000 in
theorem S_X10_has {F P : Nat} {S : xSt} (hS : xWF S) {v0 : Nat} {v1 : Int32} {D : xDt} {r : Int32 × xDt} (k0 : xK S v0 10) (h : f_X10_has F P S v0 v1 D = some r) : xSp md_X10_has (0, 0, 0) [.ref v0, .int v1] (S, D) (xQi S r) := by
  unfold f_X10_has at h
  refine xEntry (by decide) (Nat.le_of_ble_eq_true rfl) ?_
  refine x_lv (lv' := [(0, .ref v0), (1, .int v1)]) [0, 1] rfl ?_
  refine x_iload_n dX10_has_0 1 rfl ?_
  refine x_if_lt 16 dX10_has_1 (by decide) (fun c => ?_) (fun c => ?_)
  · rw [if_pos c] at h
    refine x_lv (lv' := []) [] rfl ?_
    exact t_X10_has_16 hS h
  · rw [if_neg c] at h
    refine x_iload_n dX10_has_4 1 rfl ?_
    refine x_aload_n dX10_has_5 0 rfl ?_
    refine y_geti fl_RX10_18 dX10_has_6 rfl k0 ?_
    refine x_icmp_ge 16 dX10_has_9 (by decide) (fun c => ?_) (fun c => ?_)
    · rw [if_pos c] at h
      refine x_lv (lv' := []) [] rfl ?_
      exact t_X10_has_16 hS h
    · rw [if_neg c] at h
      refine x_iconst 1 dX10_has_12 (by decide) ?_
      refine x_goto 17 dX10_has_13 (by decide) ?_
      obtain rfl := Option.some.inj h
      exact y_zret rfl rfl dX10_has_17

theorem dX10_add_0 : decode cX10_add 0 = .ok (.aload_n 0, 1) := by decide +kernel
theorem dX10_add_1 : decode cX10_add 1 = .ok (.dup, 1) := by decide +kernel
theorem dX10_add_2 : decode cX10_add 2 = .ok (.getfield 18, 3) := by decide +kernel
theorem dX10_add_5 : decode cX10_add 5 = .ok (.dup_x1, 1) := by decide +kernel
theorem dX10_add_6 : decode cX10_add 6 = .ok (.iconst 1, 1) := by decide +kernel
theorem dX10_add_7 : decode cX10_add 7 = .ok (.iadd, 1) := by decide +kernel
theorem dX10_add_8 : decode cX10_add 8 = .ok (.putfield 18, 3) := by decide +kernel
theorem dX10_add_11 : decode cX10_add 11 = .ok (.istore_n 2, 1) := by decide +kernel
theorem dX10_add_12 : decode cX10_add 12 = .ok (.iconst 0, 1) := by decide +kernel
theorem dX10_add_13 : decode cX10_add 13 = .ok (.istore_n 3, 1) := by decide +kernel
theorem dX10_add_14 : decode cX10_add 14 = .ok (.iload_n 3, 1) := by decide +kernel
theorem dX10_add_15 : decode cX10_add 15 = .ok (.iconst 4, 1) := by decide +kernel
theorem dX10_add_16 : decode cX10_add 16 = .ok (.if_icmp .ge 23, 3) := by decide +kernel
theorem dX10_add_19 : decode cX10_add 19 = .ok (.aload_n 0, 1) := by decide +kernel
theorem dX10_add_20 : decode cX10_add 20 = .ok (.getfield 15, 3) := by decide +kernel
theorem dX10_add_23 : decode cX10_add 23 = .ok (.iload_n 3, 1) := by decide +kernel
theorem dX10_add_24 : decode cX10_add 24 = .ok (.bipush 64, 2) := by decide +kernel
theorem dX10_add_26 : decode cX10_add 26 = .ok (.imul, 1) := by decide +kernel
theorem dX10_add_27 : decode cX10_add 27 = .ok (.iload_n 2, 1) := by decide +kernel
theorem dX10_add_28 : decode cX10_add 28 = .ok (.iadd, 1) := by decide +kernel
theorem dX10_add_29 : decode cX10_add 29 = .ok (.lconst 1, 1) := by decide +kernel
theorem dX10_add_30 : decode cX10_add 30 = .ok (.iload_n 2, 1) := by decide +kernel
theorem dX10_add_31 : decode cX10_add 31 = .ok (.lshl, 1) := by decide +kernel
theorem dX10_add_32 : decode cX10_add 32 = .ok (.lastore, 1) := by decide +kernel
theorem dX10_add_33 : decode cX10_add 33 = .ok (.iinc 3 1, 3) := by decide +kernel
theorem dX10_add_36 : decode cX10_add 36 = .ok (.goto (-22), 3) := by decide +kernel
theorem dX10_add_39 : decode cX10_add 39 = .ok (.iconst 0, 1) := by decide +kernel
theorem dX10_add_40 : decode cX10_add 40 = .ok (.istore_n 3, 1) := by decide +kernel
theorem dX10_add_41 : decode cX10_add 41 = .ok (.iload_n 3, 1) := by decide +kernel
theorem dX10_add_42 : decode cX10_add 42 = .ok (.bipush 8, 2) := by decide +kernel
theorem dX10_add_44 : decode cX10_add 44 = .ok (.if_icmp .ge 28, 3) := by decide +kernel
theorem dX10_add_47 : decode cX10_add 47 = .ok (.aload_n 0, 1) := by decide +kernel
theorem dX10_add_48 : decode cX10_add 48 = .ok (.iload_n 2, 1) := by decide +kernel
theorem dX10_add_49 : decode cX10_add 49 = .ok (.iload_n 3, 1) := by decide +kernel
theorem dX10_add_50 : decode cX10_add 50 = .ok (.iload_n 1, 1) := by decide +kernel
theorem dX10_add_51 : decode cX10_add 51 = .ok (.iload_n 3, 1) := by decide +kernel
theorem dX10_add_52 : decode cX10_add 52 = .ok (.ishr, 1) := by decide +kernel
theorem dX10_add_53 : decode cX10_add 53 = .ok (.iconst 1, 1) := by decide +kernel
theorem dX10_add_54 : decode cX10_add 54 = .ok (.iand, 1) := by decide +kernel
theorem dX10_add_55 : decode cX10_add 55 = .ok (.ifCond .eq 7, 3) := by decide +kernel
theorem dX10_add_58 : decode cX10_add 58 = .ok (.iconst 1, 1) := by decide +kernel
theorem dX10_add_59 : decode cX10_add 59 = .ok (.goto 4, 3) := by decide +kernel
theorem dX10_add_62 : decode cX10_add 62 = .ok (.iconst 0, 1) := by decide +kernel
theorem dX10_add_63 : decode cX10_add 63 = .ok (.invokevirtual 24, 3) := by decide +kernel
theorem dX10_add_66 : decode cX10_add 66 = .ok (.iinc 3 1, 3) := by decide +kernel
theorem dX10_add_69 : decode cX10_add 69 = .ok (.goto (-28), 3) := by decide +kernel
theorem dX10_add_72 : decode cX10_add 72 = .ok (.iload_n 2, 1) := by decide +kernel
theorem dX10_add_73 : decode cX10_add 73 = .ok (.ireturn, 1) := by decide +kernel
def f_X10_add_63 (F P : Nat) (S : xSt) (rec_41 : Nat → Int32 → Int32 → Int32 → xDt → Option (Int32 × xDt)) (v0 : Nat) (v1 : Int32) (v2 : Int32) (v3 : Int32) (s0 : Int32) (s1 : Int32) (s2 : Int32) (s3 : Nat) (D : xDt) : Option (Int32 × xDt) :=
  (f_X10_setAtom F P S s3 s2 s1 s0 D).bind fun q1 => xlet (v3 + 1) fun v3_2 => rec_41 v0 v1 v2 v3_2 q1
set_option maxHeartbeats 4000000 in
theorem t_X10_add_63 {F P : Nat} {S : xSt} (hS : xWF S) {rec_41 : Nat → Int32 → Int32 → Int32 → xDt → Option (Int32 × xDt)} (hrec_41 : ∀ {v0 : Nat} {v1 : Int32} {v2 : Int32} {v3 : Int32} {D : xDt} {r : Int32 × xDt}, xK S v0 10 → rec_41 v0 v1 v2 v3 D = some r → yEx md_X10_add 1 41 [(0, .ref v0), (1, .int v1), (2, .int v2), (3, .int v3)] [] S D (xQi S r)) {v0 : Nat} {v1 : Int32} {v2 : Int32} {v3 : Int32} {s0 : Int32} {s1 : Int32} {s2 : Int32} {s3 : Nat} {D : xDt} {r : Int32 × xDt} (k0 : xK S v0 10) (ks3 : xK S s3 10) (h : f_X10_add_63 F P S rec_41 v0 v1 v2 v3 s0 s1 s2 s3 D = some r) : yEx md_X10_add 1 63 [(0, .ref v0), (1, .int v1), (2, .int v2), (3, .int v3)] [.int s0, .int s1, .int s2, .ref s3] S D (xQi S r) := by
  unfold f_X10_add_63 at h
  refine xbnd_e h (fun q1 e1 h => ?_)
  refine y_callVv (As := [.int s2, .int s1, .int s0]) (q := q1) cv_RX10_24 dX10_add_63 ks3 rfl (Nat.le_of_ble_eq_true rfl) (by omega) (S_X10_setAtom hS ks3 e1) ?_
  refine xlet_e h (fun v3_2 ev3_2 h => ?_)
  refine y_iinc v3_2 ev3_2 (by decide) [(3, .int v3_2), (0, .ref v0), (1, .int v1), (2, .int v2)] dX10_add_66 3 rfl (by show _ < 4; decide) rfl ?_
  refine x_goto 41 dX10_add_69 (by decide) ?_
  refine x_lv (lv' := [(0, .ref v0), (1, .int v1), (2, .int v2), (3, .int v3_2)]) [1, 2, 3, 0] rfl ?_
  exact hrec_41 k0 h

def f_X10_add_41s (F P : Nat) (S : xSt) (rec_41 : Nat → Int32 → Int32 → Int32 → xDt → Option (Int32 × xDt)) (v0 : Nat) (v1 : Int32) (v2 : Int32) (v3 : Int32) (D : xDt) : Option (Int32 × xDt) :=
  if 8 ≤ v3 then (some (v2, D)) else (if ((jishr v1 v3) &&& 1) = 0 then (f_X10_add_63 F P S rec_41 v0 v1 v2 v3 0 v3 v2 v0 D) else (f_X10_add_63 F P S rec_41 v0 v1 v2 v3 1 v3 v2 v0 D))
def f_X10_add_41 (F P : Nat) (S : xSt) : Nat → Nat → Int32 → Int32 → Int32 → xDt → Option (Int32 × xDt)
  | 0 => fun _ _ _ _ _ => none
  | n + 1 => f_X10_add_41s F P S (f_X10_add_41 F P S n)
set_option maxHeartbeats 4000000 in
theorem t_X10_add_41s {F P : Nat} {S : xSt} (hS : xWF S) {rec_41 : Nat → Int32 → Int32 → Int32 → xDt → Option (Int32 × xDt)} (hrec_41 : ∀ {v0 : Nat} {v1 : Int32} {v2 : Int32} {v3 : Int32} {D : xDt} {r : Int32 × xDt}, xK S v0 10 → rec_41 v0 v1 v2 v3 D = some r → yEx md_X10_add 1 41 [(0, .ref v0), (1, .int v1), (2, .int v2), (3, .int v3)] [] S D (xQi S r)) {v0 : Nat} {v1 : Int32} {v2 : Int32} {v3 : Int32} {D : xDt} {r : Int32 × xDt} (k0 : xK S v0 10) (h : f_X10_add_41s F P S rec_41 v0 v1 v2 v3 D = some r) : yEx md_X10_add 1 41 [(0, .ref v0), (1, .int v1), (2, .int v2), (3, .int v3)] [] S D (xQi S r) := by
  unfold f_X10_add_41s at h
  refine x_iload_n dX10_add_41 3 rfl ?_
  refine x_bipush 8 dX10_add_42 (by decide) ?_
  refine x_icmp_ge 72 dX10_add_44 (by decide) (fun c => ?_) (fun c => ?_)
  · rw [if_pos c] at h
    refine x_iload_n dX10_add_72 2 rfl ?_
    obtain rfl := Option.some.inj h
    exact y_iret rfl dX10_add_73
  · rw [if_neg c] at h
    refine x_aload_n dX10_add_47 0 rfl ?_
    refine x_iload_n dX10_add_48 2 rfl ?_
    refine x_iload_n dX10_add_49 3 rfl ?_
    refine x_iload_n dX10_add_50 1 rfl ?_
    refine x_iload_n dX10_add_51 3 rfl ?_
    refine x_ishr dX10_add_52 ?_
    refine x_iconst 1 dX10_add_53 (by decide) ?_
    refine x_iand dX10_add_54 ?_
    refine x_if_eq 62 dX10_add_55 (by decide) (fun c => ?_) (fun c => ?_)
    · rw [if_pos c] at h
      refine x_iconst 0 dX10_add_62 (by decide) ?_
      exact t_X10_add_63 hS hrec_41 k0 k0 h
    · rw [if_neg c] at h
      refine x_iconst 1 dX10_add_58 (by decide) ?_
      refine x_goto 63 dX10_add_59 (by decide) ?_
      exact t_X10_add_63 hS hrec_41 k0 k0 h
theorem t_X10_add_41 {F P : Nat} {S : xSt} (hS : xWF S) : ∀ (n : Nat) {v0 : Nat} {v1 : Int32} {v2 : Int32} {v3 : Int32} {D : xDt} {r : Int32 × xDt}, xK S v0 10 → f_X10_add_41 F P S n v0 v1 v2 v3 D = some r → yEx md_X10_add 1 41 [(0, .ref v0), (1, .int v1), (2, .int v2), (3, .int v3)] [] S D (xQi S r) := by
  intro n
  induction n with
  | zero => intros; rename_i h; cases h
  | succ n ih =>
    intro v0 v1 v2 v3 D r k0 h
    exact t_X10_add_41s hS (fun k0 h => ih k0 h) k0 h

def f_X10_add_14s (F P : Nat) (S : xSt) (rec_14 : Nat → Int32 → Int32 → Int32 → xDt → Option (Int32 × xDt)) (v0 : Nat) (v1 : Int32) (v2 : Int32) (v3 : Int32) (D : xDt) : Option (Int32 × xDt) :=
  if 4 ≤ v3 then (f_X10_add_41 F P S F v0 v1 v2 0 D) else (xgrd (xin ((v3 * 64) + v2) (xl S (xr S v0 2))) (xlet (D.1, xup D.2 (xr S v0 2) ((v3 * 64) + v2).toNatClampNeg (jlshl 1 v2)) fun D2 => xlet (v3 + 1) fun v3_3 => rec_14 v0 v1 v2 v3_3 D2))
def f_X10_add_14 (F P : Nat) (S : xSt) : Nat → Nat → Int32 → Int32 → Int32 → xDt → Option (Int32 × xDt)
  | 0 => fun _ _ _ _ _ => none
  | n + 1 => f_X10_add_14s F P S (f_X10_add_14 F P S n)
set_option maxHeartbeats 4000000 in
theorem t_X10_add_14s {F P : Nat} {S : xSt} (hS : xWF S) {rec_14 : Nat → Int32 → Int32 → Int32 → xDt → Option (Int32 × xDt)} (hrec_14 : ∀ {v0 : Nat} {v1 : Int32} {v2 : Int32} {v3 : Int32} {D : xDt} {r : Int32 × xDt}, xK S v0 10 → rec_14 v0 v1 v2 v3 D = some r → yEx md_X10_add 1 14 [(0, .ref v0), (1, .int v1), (2, .int v2), (3, .int v3)] [] S D (xQi S r)) {v0 : Nat} {v1 : Int32} {v2 : Int32} {v3 : Int32} {D : xDt} {r : Int32 × xDt} (k0 : xK S v0 10) (h : f_X10_add_14s F P S rec_14 v0 v1 v2 v3 D = some r) : yEx md_X10_add 1 14 [(0, .ref v0), (1, .int v1), (2, .int v2), (3, .int v3)] [] S D (xQi S r) := by
  unfold f_X10_add_14s at h
  refine x_iload_n dX10_add_14 3 rfl ?_
  refine x_iconst 4 dX10_add_15 (by decide) ?_
  refine x_icmp_ge 39 dX10_add_16 (by decide) (fun c => ?_) (fun c => ?_)
  · rw [if_pos c] at h
    refine x_iconst 0 dX10_add_39 (by decide) ?_
    refine y_istore_n 0 rfl [(3, .int 0), (0, .ref v0), (1, .int v1), (2, .int v2)] dX10_add_40 (by show _ < 4; decide) rfl ?_
    refine x_lv (lv' := [(0, .ref v0), (1, .int v1), (2, .int v2), (3, .int 0)]) [1, 2, 3, 0] rfl ?_
    exact t_X10_add_41 hS F k0 h
  · rw [if_neg c] at h
    refine x_aload_n dX10_add_19 0 rfl ?_
    refine y_getr (kd := 101) hS fl_RX10_15 dX10_add_20 rfl k0 ?_
    refine x_iload_n dX10_add_23 3 rfl ?_
    refine x_bipush 64 dX10_add_24 (by decide) ?_
    refine x_imul dX10_add_26 ?_
    refine x_iload_n dX10_add_27 2 rfl ?_
    refine x_iadd dX10_add_28 ?_
    refine x_lconst 1 dX10_add_29 (by decide) ?_
    refine x_iload_n dX10_add_30 2 rfl ?_
    refine x_lshl dX10_add_31 ?_
    refine xgrd_e h (fun g1 h => ?_)
    refine xlet_e h (fun D2 eD2 h => ?_)
    refine y_last dX10_add_32 ((hS.f k0 2 101 rfl).2) g1 eD2 ?_
    refine xlet_e h (fun v3_3 ev3_3 h => ?_)
    refine y_iinc v3_3 ev3_3 (by decide) [(3, .int v3_3), (0, .ref v0), (1, .int v1), (2, .int v2)] dX10_add_33 3 rfl (by show _ < 4; decide) rfl ?_
    refine x_goto 14 dX10_add_36 (by decide) ?_
    refine x_lv (lv' := [(0, .ref v0), (1, .int v1), (2, .int v2), (3, .int v3_3)]) [1, 2, 3, 0] rfl ?_
    exact hrec_14 k0 h
theorem t_X10_add_14 {F P : Nat} {S : xSt} (hS : xWF S) : ∀ (n : Nat) {v0 : Nat} {v1 : Int32} {v2 : Int32} {v3 : Int32} {D : xDt} {r : Int32 × xDt}, xK S v0 10 → f_X10_add_14 F P S n v0 v1 v2 v3 D = some r → yEx md_X10_add 1 14 [(0, .ref v0), (1, .int v1), (2, .int v2), (3, .int v3)] [] S D (xQi S r) := by
  intro n
  induction n with
  | zero => intros; rename_i h; cases h
  | succ n ih =>
    intro v0 v1 v2 v3 D r k0 h
    exact t_X10_add_14s hS (fun k0 h => ih k0 h) k0 h

def f_X10_add (F P : Nat) (S : xSt) (v0 : Nat) (v1 : Int32) (D : xDt) : Option (Int32 × xDt) :=
  xlet (xup D.1 v0 0 ((D.1 v0 0) + 1), D.2) fun D1 => xlet (D.1 v0 0) fun v2_2 => f_X10_add_14 F P S F v0 v1 v2_2 0 D1
set_option maxHeartbeats 4000000 in
theorem S_X10_add {F P : Nat} {S : xSt} (hS : xWF S) {v0 : Nat} {v1 : Int32} {D : xDt} {r : Int32 × xDt} (k0 : xK S v0 10) (h : f_X10_add F P S v0 v1 D = some r) : xSp md_X10_add (1, 0, 0) [.ref v0, .int v1] (S, D) (xQi S r) := by
  unfold f_X10_add at h
  refine xEntry (by decide) (Nat.le_of_ble_eq_true rfl) ?_
  refine x_lv (lv' := [(0, .ref v0), (1, .int v1)]) [0, 1] rfl ?_
  refine x_aload_n dX10_add_0 0 rfl ?_
  refine x_dup dX10_add_1 rfl ?_
  refine y_geti fl_RX10_18 dX10_add_2 rfl k0 ?_
  refine x_dup_x1 dX10_add_5 rfl rfl ?_
  refine x_iconst 1 dX10_add_6 (by decide) ?_
  refine x_iadd dX10_add_7 ?_
  refine xlet_e h (fun D1 eD1 h => ?_)
  refine y_puti fp_RX10_18 dX10_add_8 rfl k0 eD1 ?_
  refine xlet_e h (fun v2_2 ev2_2 h => ?_)
  refine y_istore_n v2_2 ev2_2 [(2, .int v2_2), (0, .ref v0), (1, .int v1)] dX10_add_11 (by show _ < 4; decide) rfl ?_
  refine x_iconst 0 dX10_add_12 (by decide) ?_
  refine y_istore_n 0 rfl [(3, .int 0), (2, .int v2_2), (0, .ref v0), (1, .int v1)] dX10_add_13 (by show _ < 4; decide) rfl ?_
  refine x_lv (lv' := [(0, .ref v0), (1, .int v1), (2, .int v2_2), (3, .int 0)]) [2, 3, 1, 0] rfl ?_
  exact t_X10_add_14 hS F k0 h

theorem dX10_setCells_0 : decode cX10_setCells 0 = .ok (.iconst 0, 1) := by decide +kernel
theorem dX10_setCells_1 : decode cX10_setCells 1 = .ok (.istore 6, 2) := by decide +kernel
theorem dX10_setCells_3 : decode cX10_setCells 3 = .ok (.iload 6, 2) := by decide +kernel
theorem dX10_setCells_5 : decode cX10_setCells 5 = .ok (.aload_n 0, 1) := by decide +kernel
theorem dX10_setCells_6 : decode cX10_setCells 6 = .ok (.getfield 18, 3) := by decide +kernel
theorem dX10_setCells_9 : decode cX10_setCells 9 = .ok (.if_icmp .ge 34, 3) := by decide +kernel
theorem dX10_setCells_12 : decode cX10_setCells 12 = .ok (.lload_n 2, 1) := by decide +kernel
theorem dX10_setCells_13 : decode cX10_setCells 13 = .ok (.iload 6, 2) := by decide +kernel
theorem dX10_setCells_15 : decode cX10_setCells 15 = .ok (.lushr, 1) := by decide +kernel
theorem dX10_setCells_16 : decode cX10_setCells 16 = .ok (.lconst 1, 1) := by decide +kernel
theorem dX10_setCells_17 : decode cX10_setCells 17 = .ok (.land, 1) := by decide +kernel
theorem dX10_setCells_18 : decode cX10_setCells 18 = .ok (.lconst 0, 1) := by decide +kernel
theorem dX10_setCells_19 : decode cX10_setCells 19 = .ok (.lcmp, 1) := by decide +kernel
theorem dX10_setCells_20 : decode cX10_setCells 20 = .ok (.ifCond .eq 17, 3) := by decide +kernel
theorem dX10_setCells_23 : decode cX10_setCells 23 = .ok (.aload_n 0, 1) := by decide +kernel
theorem dX10_setCells_24 : decode cX10_setCells 24 = .ok (.getfield 15, 3) := by decide +kernel
theorem dX10_setCells_27 : decode cX10_setCells 27 = .ok (.iload_n 1, 1) := by decide +kernel
theorem dX10_setCells_28 : decode cX10_setCells 28 = .ok (.bipush 64, 2) := by decide +kernel
theorem dX10_setCells_30 : decode cX10_setCells 30 = .ok (.imul, 1) := by decide +kernel
theorem dX10_setCells_31 : decode cX10_setCells 31 = .ok (.iload 6, 2) := by decide +kernel
theorem dX10_setCells_33 : decode cX10_setCells 33 = .ok (.iadd, 1) := by decide +kernel
theorem dX10_setCells_34 : decode cX10_setCells 34 = .ok (.lload 4, 2) := by decide +kernel
theorem dX10_setCells_36 : decode cX10_setCells 36 = .ok (.lastore, 1) := by decide +kernel
theorem dX10_setCells_37 : decode cX10_setCells 37 = .ok (.iinc 6 1, 3) := by decide +kernel
theorem dX10_setCells_40 : decode cX10_setCells 40 = .ok (.goto (-37), 3) := by decide +kernel
theorem dX10_setCells_43 : decode cX10_setCells 43 = .ok (.return_, 1) := by decide +kernel
def f_X10_setCells_37 (F P : Nat) (S : xSt) (rec_3 : Nat → Int32 → Int64 → Int64 → Int32 → xDt → Option (xDt)) (v0 : Nat) (v1 : Int32) (v2 : Int64) (v4 : Int64) (v6 : Int32) (D : xDt) : Option (xDt) :=
  xlet (v6 + 1) fun v6_1 => rec_3 v0 v1 v2 v4 v6_1 D
set_option maxHeartbeats 4000000 in
theorem t_X10_setCells_37 {F P : Nat} {S : xSt} (hS : xWF S) {rec_3 : Nat → Int32 → Int64 → Int64 → Int32 → xDt → Option (xDt)} (hrec_3 : ∀ {v0 : Nat} {v1 : Int32} {v2 : Int64} {v4 : Int64} {v6 : Int32} {D : xDt} {r : xDt}, xK S v0 10 → rec_3 v0 v1 v2 v4 v6 D = some r → yEx md_X10_setCells 0 3 [(0, .ref v0), (1, .int v1), (2, .long v2), (4, .long v4), (6, .int v6)] [] S D (xQv S r)) {v0 : Nat} {v1 : Int32} {v2 : Int64} {v4 : Int64} {v6 : Int32} {D : xDt} {r : xDt} (k0 : xK S v0 10) (h : f_X10_setCells_37 F P S rec_3 v0 v1 v2 v4 v6 D = some r) : yEx md_X10_setCells 0 37 [(0, .ref v0), (1, .int v1), (2, .long v2), (4, .long v4), (6, .int v6)] [] S D (xQv S r) := by
  unfold f_X10_setCells_37 at h
  refine xlet_e h (fun v6_1 ev6_1 h => ?_)
  refine y_iinc v6_1 ev6_1 (by decide) [(6, .int v6_1), (0, .ref v0), (1, .int v1), (2, .long v2), (4, .long v4)] dX10_setCells_37 4 rfl (by show _ < 7; decide) rfl ?_
  refine x_goto 3 dX10_setCells_40 (by decide) ?_
  refine x_lv (lv' := [(0, .ref v0), (1, .int v1), (2, .long v2), (4, .long v4), (6, .int v6_1)]) [1, 2, 3, 4, 0] rfl ?_
  exact hrec_3 k0 h

def f_X10_setCells_3s (F P : Nat) (S : xSt) (rec_3 : Nat → Int32 → Int64 → Int64 → Int32 → xDt → Option (xDt)) (v0 : Nat) (v1 : Int32) (v2 : Int64) (v4 : Int64) (v6 : Int32) (D : xDt) : Option (xDt) :=
  if (D.1 v0 0) ≤ v6 then (some D) else (if (lg_cmp ((jlushr v2 v6) &&& 1) 0) = 0 then (f_X10_setCells_37 F P S rec_3 v0 v1 v2 v4 v6 D) else (xgrd (xin ((v1 * 64) + v6) (xl S (xr S v0 2))) (xlet (D.1, xup D.2 (xr S v0 2) ((v1 * 64) + v6).toNatClampNeg v4) fun D2 => f_X10_setCells_37 F P S rec_3 v0 v1 v2 v4 v6 D2)))
def f_X10_setCells_3 (F P : Nat) (S : xSt) : Nat → Nat → Int32 → Int64 → Int64 → Int32 → xDt → Option (xDt)
  | 0 => fun _ _ _ _ _ _ => none
  | n + 1 => f_X10_setCells_3s F P S (f_X10_setCells_3 F P S n)
set_option maxHeartbeats 4000000 in
theorem t_X10_setCells_3s {F P : Nat} {S : xSt} (hS : xWF S) {rec_3 : Nat → Int32 → Int64 → Int64 → Int32 → xDt → Option (xDt)} (hrec_3 : ∀ {v0 : Nat} {v1 : Int32} {v2 : Int64} {v4 : Int64} {v6 : Int32} {D : xDt} {r : xDt}, xK S v0 10 → rec_3 v0 v1 v2 v4 v6 D = some r → yEx md_X10_setCells 0 3 [(0, .ref v0), (1, .int v1), (2, .long v2), (4, .long v4), (6, .int v6)] [] S D (xQv S r)) {v0 : Nat} {v1 : Int32} {v2 : Int64} {v4 : Int64} {v6 : Int32} {D : xDt} {r : xDt} (k0 : xK S v0 10) (h : f_X10_setCells_3s F P S rec_3 v0 v1 v2 v4 v6 D = some r) : yEx md_X10_setCells 0 3 [(0, .ref v0), (1, .int v1), (2, .long v2), (4, .long v4), (6, .int v6)] [] S D (xQv S r) := by
  unfold f_X10_setCells_3s at h
  refine x_iload dX10_setCells_3 4 rfl ?_
  refine x_aload_n dX10_setCells_5 0 rfl ?_
  refine y_geti fl_RX10_18 dX10_setCells_6 rfl k0 ?_
  refine x_icmp_ge 43 dX10_setCells_9 (by decide) (fun c => ?_) (fun c => ?_)
  · rw [if_pos c] at h
    obtain rfl := Option.some.inj h
    exact y_vret rfl dX10_setCells_43
  · rw [if_neg c] at h
    refine x_lload_n dX10_setCells_12 2 rfl ?_
    refine x_iload dX10_setCells_13 4 rfl ?_
    refine x_lushr dX10_setCells_15 ?_
    refine x_lconst 1 dX10_setCells_16 (by decide) ?_
    refine x_land dX10_setCells_17 ?_
    refine x_lconst 0 dX10_setCells_18 (by decide) ?_
    refine x_lcmp dX10_setCells_19 ?_
    refine x_if_eq 37 dX10_setCells_20 (by decide) (fun c => ?_) (fun c => ?_)
    · rw [if_pos c] at h
      exact t_X10_setCells_37 hS hrec_3 k0 h
    · rw [if_neg c] at h
      refine x_aload_n dX10_setCells_23 0 rfl ?_
      refine y_getr (kd := 101) hS fl_RX10_15 dX10_setCells_24 rfl k0 ?_
      refine x_iload_n dX10_setCells_27 1 rfl ?_
      refine x_bipush 64 dX10_setCells_28 (by decide) ?_
      refine x_imul dX10_setCells_30 ?_
      refine x_iload dX10_setCells_31 4 rfl ?_
      refine x_iadd dX10_setCells_33 ?_
      refine x_lload dX10_setCells_34 3 rfl ?_
      refine xgrd_e h (fun g1 h => ?_)
      refine xlet_e h (fun D2 eD2 h => ?_)
      refine y_last dX10_setCells_36 ((hS.f k0 2 101 rfl).2) g1 eD2 ?_
      exact t_X10_setCells_37 hS hrec_3 k0 h
theorem t_X10_setCells_3 {F P : Nat} {S : xSt} (hS : xWF S) : ∀ (n : Nat) {v0 : Nat} {v1 : Int32} {v2 : Int64} {v4 : Int64} {v6 : Int32} {D : xDt} {r : xDt}, xK S v0 10 → f_X10_setCells_3 F P S n v0 v1 v2 v4 v6 D = some r → yEx md_X10_setCells 0 3 [(0, .ref v0), (1, .int v1), (2, .long v2), (4, .long v4), (6, .int v6)] [] S D (xQv S r) := by
  intro n
  induction n with
  | zero => intros; rename_i h; cases h
  | succ n ih =>
    intro v0 v1 v2 v4 v6 D r k0 h
    exact t_X10_setCells_3s hS (fun k0 h => ih k0 h) k0 h

def f_X10_setCells (F P : Nat) (S : xSt) (v0 : Nat) (v1 : Int32) (v2 : Int64) (v4 : Int64) (D : xDt) : Option (xDt) :=
  f_X10_setCells_3 F P S F v0 v1 v2 v4 0 D
set_option maxHeartbeats 4000000 in
theorem S_X10_setCells {F P : Nat} {S : xSt} (hS : xWF S) {v0 : Nat} {v1 : Int32} {v2 : Int64} {v4 : Int64} {D : xDt} {r : xDt} (k0 : xK S v0 10) (h : f_X10_setCells F P S v0 v1 v2 v4 D = some r) : xSp md_X10_setCells (0, 0, 0) [.ref v0, .int v1, .long v2, .long v4] (S, D) (xQv S r) := by
  unfold f_X10_setCells at h
  refine xEntry (by decide) (Nat.le_of_ble_eq_true rfl) ?_
  refine x_lv (lv' := [(0, .ref v0), (1, .int v1), (2, .long v2), (4, .long v4)]) [0, 1, 2, 3] rfl ?_
  refine x_iconst 0 dX10_setCells_0 (by decide) ?_
  refine y_istore 0 rfl [(6, .int 0), (0, .ref v0), (1, .int v1), (2, .long v2), (4, .long v4)] dX10_setCells_1 (by show _ < 7; decide) rfl ?_
  refine x_lv (lv' := [(0, .ref v0), (1, .int v1), (2, .long v2), (4, .long v4), (6, .int 0)]) [1, 2, 3, 4, 0] rfl ?_
  exact t_X10_setCells_3 hS F k0 h

theorem dX10_merge_0 : decode cX10_merge 0 = .ok (.aload_n 0, 1) := by decide +kernel
theorem dX10_merge_1 : decode cX10_merge 1 = .ok (.iload_n 1, 1) := by decide +kernel
theorem dX10_merge_2 : decode cX10_merge 2 = .ok (.iload_n 2, 1) := by decide +kernel
theorem dX10_merge_3 : decode cX10_merge 3 = .ok (.invokevirtual 28, 3) := by decide +kernel
theorem dX10_merge_6 : decode cX10_merge 6 = .ok (.aload_n 0, 1) := by decide +kernel
theorem dX10_merge_7 : decode cX10_merge 7 = .ok (.iload_n 1, 1) := by decide +kernel
theorem dX10_merge_8 : decode cX10_merge 8 = .ok (.iload_n 3, 1) := by decide +kernel
theorem dX10_merge_9 : decode cX10_merge 9 = .ok (.invokevirtual 28, 3) := by decide +kernel
theorem dX10_merge_12 : decode cX10_merge 12 = .ok (.lor, 1) := by decide +kernel
theorem dX10_merge_13 : decode cX10_merge 13 = .ok (.lstore 4, 2) := by decide +kernel
theorem dX10_merge_15 : decode cX10_merge 15 = .ok (.aload_n 0, 1) := by decide +kernel
theorem dX10_merge_16 : decode cX10_merge 16 = .ok (.iload_n 1, 1) := by decide +kernel
theorem dX10_merge_17 : decode cX10_merge 17 = .ok (.lload 4, 2) := by decide +kernel
theorem dX10_merge_19 : decode cX10_merge 19 = .ok (.lload 4, 2) := by decide +kernel
theorem dX10_merge_21 : decode cX10_merge 21 = .ok (.invokevirtual 32, 3) := by decide +kernel
theorem dX10_merge_24 : decode cX10_merge 24 = .ok (.lload 4, 2) := by decide +kernel
theorem dX10_merge_26 : decode cX10_merge 26 = .ok (.invokestatic 36, 3) := by decide +kernel
theorem dX10_merge_29 : decode cX10_merge 29 = .ok (.ireturn, 1) := by decide +kernel
def f_X10_merge (F P : Nat) (S : xSt) (v0 : Nat) (v1 : Int32) (v2 : Int32) (v3 : Int32) (D : xDt) : Option (Int32 × xDt) :=
  (f_X10_cell F P S v0 v1 v2 D).bind fun q1 => (f_X10_cell F P S v0 v1 v3 q1.2).bind fun q2 => xlet (q1.1 ||| q2.1) fun v4_3 => (f_X10_setCells F P S v0 v1 v4_3 v4_3 q2.2).bind fun q4 => (f_J13_bitCount_95d88 F P S v4_3 q4).bind fun q5 => some (q5.1, q5.2)
set_option maxHeartbeats 4000000 in
theorem S_X10_merge {F P : Nat} {S : xSt} (hS : xWF S) {v0 : Nat} {v1 : Int32} {v2 : Int32} {v3 : Int32} {D : xDt} {r : Int32 × xDt} (k0 : xK S v0 10) (h : f_X10_merge F P S v0 v1 v2 v3 D = some r) : xSp md_X10_merge (1, 0, 0) [.ref v0, .int v1, .int v2, .int v3] (S, D) (xQi S r) := by
  unfold f_X10_merge at h
  refine xEntry (by decide) (Nat.le_of_ble_eq_true rfl) ?_
  refine x_lv (lv' := [(0, .ref v0), (1, .int v1), (2, .int v2), (3, .int v3)]) [0, 1, 2, 3] rfl ?_
  refine x_aload_n dX10_merge_0 0 rfl ?_
  refine x_iload_n dX10_merge_1 1 rfl ?_
  refine x_iload_n dX10_merge_2 2 rfl ?_
  refine xbnd_e h (fun q1 e1 h => ?_)
  refine y_callVl (As := [.int v1, .int v2]) (q := q1) cv_RX10_28 dX10_merge_3 k0 rfl (Nat.le_of_ble_eq_true rfl) (by omega) (S_X10_cell hS k0 e1) ?_
  refine x_aload_n dX10_merge_6 0 rfl ?_
  refine x_iload_n dX10_merge_7 1 rfl ?_
  refine x_iload_n dX10_merge_8 3 rfl ?_
  refine xbnd_e h (fun q2 e2 h => ?_)
  refine y_callVl (As := [.int v1, .int v3]) (q := q2) cv_RX10_28 dX10_merge_9 k0 rfl (Nat.le_of_ble_eq_true rfl) (by omega) (S_X10_cell hS k0 e2) ?_
  refine x_lor dX10_merge_12 ?_
  refine xlet_e h (fun v4_3 ev4_3 h => ?_)
  refine y_lstore v4_3 ev4_3 [(4, .long v4_3), (0, .ref v0), (1, .int v1), (2, .int v2), (3, .int v3)] dX10_merge_13 (by show _ < 6; decide) rfl ?_
  refine x_aload_n dX10_merge_15 1 rfl ?_
  refine x_iload_n dX10_merge_16 2 rfl ?_
  refine x_lload dX10_merge_17 0 rfl ?_
  refine x_lload dX10_merge_19 0 rfl ?_
  refine xbnd_e h (fun q4 e4 h => ?_)
  refine y_callVv (As := [.int v1, .long v4_3, .long v4_3]) (q := q4) cv_RX10_32 dX10_merge_21 k0 rfl (Nat.le_of_ble_eq_true rfl) (by omega) (S_X10_setCells hS k0 e4) ?_
  refine x_lload dX10_merge_24 0 rfl ?_
  refine xbnd_e h (fun q5 e5 h => ?_)
  refine y_callSi (As := [.long v4_3]) (q := q5) cs_RX10_36 dX10_merge_26 rfl (Nat.le_of_ble_eq_true rfl) (by omega) (S_J13_bitCount_95d88 hS e5) ?_
  obtain rfl := Option.some.inj h
  exact y_iret rfl dX10_merge_29

theorem dX10_part_0 : decode cX10_part 0 = .ok (.aload_n 0, 1) := by decide +kernel
theorem dX10_part_1 : decode cX10_part 1 = .ok (.iload_n 1, 1) := by decide +kernel
theorem dX10_part_2 : decode cX10_part 2 = .ok (.iload_n 2, 1) := by decide +kernel
theorem dX10_part_3 : decode cX10_part 3 = .ok (.invokevirtual 28, 3) := by decide +kernel
theorem dX10_part_6 : decode cX10_part 6 = .ok (.lconst 1, 1) := by decide +kernel
theorem dX10_part_7 : decode cX10_part 7 = .ok (.iload_n 2, 1) := by decide +kernel
theorem dX10_part_8 : decode cX10_part 8 = .ok (.lshl, 1) := by decide +kernel
theorem dX10_part_9 : decode cX10_part 9 = .ok (.ldc2_w 22, 3) := by decide +kernel
theorem dX10_part_12 : decode cX10_part 12 = .ok (.lxor, 1) := by decide +kernel
theorem dX10_part_13 : decode cX10_part 13 = .ok (.land, 1) := by decide +kernel
theorem dX10_part_14 : decode cX10_part 14 = .ok (.lstore_n 3, 1) := by decide +kernel
theorem dX10_part_15 : decode cX10_part 15 = .ok (.aload_n 0, 1) := by decide +kernel
theorem dX10_part_16 : decode cX10_part 16 = .ok (.iload_n 1, 1) := by decide +kernel
theorem dX10_part_17 : decode cX10_part 17 = .ok (.lload_n 3, 1) := by decide +kernel
theorem dX10_part_18 : decode cX10_part 18 = .ok (.lload_n 3, 1) := by decide +kernel
theorem dX10_part_19 : decode cX10_part 19 = .ok (.invokevirtual 32, 3) := by decide +kernel
theorem dX10_part_22 : decode cX10_part 22 = .ok (.aload_n 0, 1) := by decide +kernel
theorem dX10_part_23 : decode cX10_part 23 = .ok (.iload_n 1, 1) := by decide +kernel
theorem dX10_part_24 : decode cX10_part 24 = .ok (.lconst 1, 1) := by decide +kernel
theorem dX10_part_25 : decode cX10_part 25 = .ok (.iload_n 2, 1) := by decide +kernel
theorem dX10_part_26 : decode cX10_part 26 = .ok (.lshl, 1) := by decide +kernel
theorem dX10_part_27 : decode cX10_part 27 = .ok (.lconst 1, 1) := by decide +kernel
theorem dX10_part_28 : decode cX10_part 28 = .ok (.iload_n 2, 1) := by decide +kernel
theorem dX10_part_29 : decode cX10_part 29 = .ok (.lshl, 1) := by decide +kernel
theorem dX10_part_30 : decode cX10_part 30 = .ok (.invokevirtual 32, 3) := by decide +kernel
theorem dX10_part_33 : decode cX10_part 33 = .ok (.lload_n 3, 1) := by decide +kernel
theorem dX10_part_34 : decode cX10_part 34 = .ok (.invokestatic 36, 3) := by decide +kernel
theorem dX10_part_37 : decode cX10_part 37 = .ok (.ireturn, 1) := by decide +kernel
def f_X10_part (F P : Nat) (S : xSt) (v0 : Nat) (v1 : Int32) (v2 : Int32) (D : xDt) : Option (Int32 × xDt) :=
  (f_X10_cell F P S v0 v1 v2 D).bind fun q1 => xlet (q1.1 &&& ((jlshl 1 v2) ^^^ (-1))) fun v3_2 => (f_X10_setCells F P S v0 v1 v3_2 v3_2 q1.2).bind fun q3 => (f_X10_setCells F P S v0 v1 (jlshl 1 v2) (jlshl 1 v2) q3).bind fun q4 => (f_J13_bitCount_95d88 F P S v3_2 q4).bind fun q5 => some (q5.1, q5.2)
set_option maxHeartbeats 4000000 in
theorem S_X10_part {F P : Nat} {S : xSt} (hS : xWF S) {v0 : Nat} {v1 : Int32} {v2 : Int32} {D : xDt} {r : Int32 × xDt} (k0 : xK S v0 10) (h : f_X10_part F P S v0 v1 v2 D = some r) : xSp md_X10_part (1, 0, 0) [.ref v0, .int v1, .int v2] (S, D) (xQi S r) := by
  unfold f_X10_part at h
  refine xEntry (by decide) (Nat.le_of_ble_eq_true rfl) ?_
  refine x_lv (lv' := [(0, .ref v0), (1, .int v1), (2, .int v2)]) [0, 1, 2] rfl ?_
  refine x_aload_n dX10_part_0 0 rfl ?_
  refine x_iload_n dX10_part_1 1 rfl ?_
  refine x_iload_n dX10_part_2 2 rfl ?_
  refine xbnd_e h (fun q1 e1 h => ?_)
  refine y_callVl (As := [.int v1, .int v2]) (q := q1) cv_RX10_28 dX10_part_3 k0 rfl (Nat.le_of_ble_eq_true rfl) (by omega) (S_X10_cell hS k0 e1) ?_
  refine x_lconst 1 dX10_part_6 (by decide) ?_
  refine x_iload_n dX10_part_7 2 rfl ?_
  refine x_lshl dX10_part_8 ?_
  refine x_ldc2 (-1) dX10_part_9 wd_425 ?_
  refine x_lxor dX10_part_12 ?_
  refine x_land dX10_part_13 ?_
  refine xlet_e h (fun v3_2 ev3_2 h => ?_)
  refine y_lstore_n v3_2 ev3_2 [(3, .long v3_2), (0, .ref v0), (1, .int v1), (2, .int v2)] dX10_part_14 (by show _ < 5; decide) rfl ?_
  refine x_aload_n dX10_part_15 1 rfl ?_
  refine x_iload_n dX10_part_16 2 rfl ?_
  refine x_lload_n dX10_part_17 0 rfl ?_
  refine x_lload_n dX10_part_18 0 rfl ?_
  refine xbnd_e h (fun q3 e3 h => ?_)
  refine y_callVv (As := [.int v1, .long v3_2, .long v3_2]) (q := q3) cv_RX10_32 dX10_part_19 k0 rfl (Nat.le_of_ble_eq_true rfl) (by omega) (S_X10_setCells hS k0 e3) ?_
  refine x_aload_n dX10_part_22 1 rfl ?_
  refine x_iload_n dX10_part_23 2 rfl ?_
  refine x_lconst 1 dX10_part_24 (by decide) ?_
  refine x_iload_n dX10_part_25 3 rfl ?_
  refine x_lshl dX10_part_26 ?_
  refine x_lconst 1 dX10_part_27 (by decide) ?_
  refine x_iload_n dX10_part_28 3 rfl ?_
  refine x_lshl dX10_part_29 ?_
  refine xbnd_e h (fun q4 e4 h => ?_)
  refine y_callVv (As := [.int v1, .long (jlshl 1 v2), .long (jlshl 1 v2)]) (q := q4) cv_RX10_32 dX10_part_30 k0 rfl (Nat.le_of_ble_eq_true rfl) (by omega) (S_X10_setCells hS k0 e4) ?_
  refine x_lload_n dX10_part_33 0 rfl ?_
  refine xbnd_e h (fun q5 e5 h => ?_)
  refine y_callSi (As := [.long v3_2]) (q := q5) cs_RX10_36 dX10_part_34 rfl (Nat.le_of_ble_eq_true rfl) (by omega) (S_J13_bitCount_95d88 hS e5) ?_
  obtain rfl := Option.some.inj h
  exact y_iret rfl dX10_part_37

theorem dX10_drawn_0 : decode cX10_drawn 0 = .ok (.lconst 0, 1) := by decide +kernel
theorem dX10_drawn_1 : decode cX10_drawn 1 = .ok (.lstore 4, 2) := by decide +kernel
theorem dX10_drawn_3 : decode cX10_drawn 3 = .ok (.iconst 0, 1) := by decide +kernel
theorem dX10_drawn_4 : decode cX10_drawn 4 = .ok (.istore 6, 2) := by decide +kernel
theorem dX10_drawn_6 : decode cX10_drawn 6 = .ok (.iload 6, 2) := by decide +kernel
theorem dX10_drawn_8 : decode cX10_drawn 8 = .ok (.aload_n 0, 1) := by decide +kernel
theorem dX10_drawn_9 : decode cX10_drawn 9 = .ok (.getfield 18, 3) := by decide +kernel
theorem dX10_drawn_12 : decode cX10_drawn 12 = .ok (.if_icmp .ge 25, 3) := by decide +kernel
theorem dX10_drawn_15 : decode cX10_drawn 15 = .ok (.lload 4, 2) := by decide +kernel
theorem dX10_drawn_17 : decode cX10_drawn 17 = .ok (.lload_n 1, 1) := by decide +kernel
theorem dX10_drawn_18 : decode cX10_drawn 18 = .ok (.aload_n 3, 1) := by decide +kernel
theorem dX10_drawn_19 : decode cX10_drawn 19 = .ok (.iload 6, 2) := by decide +kernel
theorem dX10_drawn_21 : decode cX10_drawn 21 = .ok (.iaload, 1) := by decide +kernel
theorem dX10_drawn_22 : decode cX10_drawn 22 = .ok (.lushr, 1) := by decide +kernel
theorem dX10_drawn_23 : decode cX10_drawn 23 = .ok (.lconst 1, 1) := by decide +kernel
theorem dX10_drawn_24 : decode cX10_drawn 24 = .ok (.land, 1) := by decide +kernel
theorem dX10_drawn_25 : decode cX10_drawn 25 = .ok (.iload 6, 2) := by decide +kernel
theorem dX10_drawn_27 : decode cX10_drawn 27 = .ok (.lshl, 1) := by decide +kernel
theorem dX10_drawn_28 : decode cX10_drawn 28 = .ok (.lor, 1) := by decide +kernel
theorem dX10_drawn_29 : decode cX10_drawn 29 = .ok (.lstore 4, 2) := by decide +kernel
theorem dX10_drawn_31 : decode cX10_drawn 31 = .ok (.iinc 6 1, 3) := by decide +kernel
theorem dX10_drawn_34 : decode cX10_drawn 34 = .ok (.goto (-28), 3) := by decide +kernel
theorem dX10_drawn_37 : decode cX10_drawn 37 = .ok (.lload 4, 2) := by decide +kernel
theorem dX10_drawn_39 : decode cX10_drawn 39 = .ok (.lreturn, 1) := by decide +kernel
def f_X10_drawn_6s (F P : Nat) (S : xSt) (rec_6 : Nat → Int64 → Nat → Int64 → Int32 → xDt → Option (Int64 × xDt)) (v0 : Nat) (v1 : Int64) (v3 : Nat) (v4 : Int64) (v6 : Int32) (D : xDt) : Option (Int64 × xDt) :=
  if (D.1 v0 0) ≤ v6 then (some (v4, D)) else (xgrd (xin v6 (xl S v3)) (xlet (v4 ||| (jlshl ((jlushr v1 (D.1 v3 (v6).toNatClampNeg)) &&& 1) v6)) fun v4_2 => xlet (v6 + 1) fun v6_3 => rec_6 v0 v1 v3 v4_2 v6_3 D))
def f_X10_drawn_6 (F P : Nat) (S : xSt) : Nat → Nat → Int64 → Nat → Int64 → Int32 → xDt → Option (Int64 × xDt)
  | 0 => fun _ _ _ _ _ _ => none
  | n + 1 => f_X10_drawn_6s F P S (f_X10_drawn_6 F P S n)
set_option maxHeartbeats 4000000 in
theorem t_X10_drawn_6s {F P : Nat} {S : xSt} (hS : xWF S) {rec_6 : Nat → Int64 → Nat → Int64 → Int32 → xDt → Option (Int64 × xDt)} (hrec_6 : ∀ {v0 : Nat} {v1 : Int64} {v3 : Nat} {v4 : Int64} {v6 : Int32} {D : xDt} {r : Int64 × xDt}, xK S v0 10 → xK S v3 100 → rec_6 v0 v1 v3 v4 v6 D = some r → yEx md_X10_drawn 0 6 [(0, .ref v0), (1, .long v1), (3, .ref v3), (4, .long v4), (6, .int v6)] [] S D (xQl S r)) {v0 : Nat} {v1 : Int64} {v3 : Nat} {v4 : Int64} {v6 : Int32} {D : xDt} {r : Int64 × xDt} (k0 : xK S v0 10) (k3 : xK S v3 100) (h : f_X10_drawn_6s F P S rec_6 v0 v1 v3 v4 v6 D = some r) : yEx md_X10_drawn 0 6 [(0, .ref v0), (1, .long v1), (3, .ref v3), (4, .long v4), (6, .int v6)] [] S D (xQl S r) := by
  unfold f_X10_drawn_6s at h
  refine x_iload dX10_drawn_6 4 rfl ?_
  refine x_aload_n dX10_drawn_8 0 rfl ?_
  refine y_geti fl_RX10_18 dX10_drawn_9 rfl k0 ?_
  refine x_icmp_ge 37 dX10_drawn_12 (by decide) (fun c => ?_) (fun c => ?_)
  · rw [if_pos c] at h
    refine x_lload dX10_drawn_37 3 rfl ?_
    obtain rfl := Option.some.inj h
    exact y_lret rfl dX10_drawn_39
  · rw [if_neg c] at h
    refine x_lload dX10_drawn_15 3 rfl ?_
    refine x_lload_n dX10_drawn_17 1 rfl ?_
    refine x_aload_n dX10_drawn_18 2 rfl ?_
    refine x_iload dX10_drawn_19 4 rfl ?_
    refine xgrd_e h (fun g1 h => ?_)
    refine y_iald dX10_drawn_21 k3 g1 ?_
    refine x_lushr dX10_drawn_22 ?_
    refine x_lconst 1 dX10_drawn_23 (by decide) ?_
    refine x_land dX10_drawn_24 ?_
    refine x_iload dX10_drawn_25 4 rfl ?_
    refine x_lshl dX10_drawn_27 ?_
    refine x_lor dX10_drawn_28 ?_
    refine xlet_e h (fun v4_2 ev4_2 h => ?_)
    refine y_lstore v4_2 ev4_2 [(4, .long v4_2), (0, .ref v0), (1, .long v1), (3, .ref v3), (6, .int v6)] dX10_drawn_29 (by show _ < 7; decide) rfl ?_
    refine xlet_e h (fun v6_3 ev6_3 h => ?_)
    refine y_iinc v6_3 ev6_3 (by decide) [(6, .int v6_3), (4, .long v4_2), (0, .ref v0), (1, .long v1), (3, .ref v3)] dX10_drawn_31 4 rfl (by show _ < 7; decide) rfl ?_
    refine x_goto 6 dX10_drawn_34 (by decide) ?_
    refine x_lv (lv' := [(0, .ref v0), (1, .long v1), (3, .ref v3), (4, .long v4_2), (6, .int v6_3)]) [2, 3, 4, 1, 0] rfl ?_
    exact hrec_6 k0 k3 h
theorem t_X10_drawn_6 {F P : Nat} {S : xSt} (hS : xWF S) : ∀ (n : Nat) {v0 : Nat} {v1 : Int64} {v3 : Nat} {v4 : Int64} {v6 : Int32} {D : xDt} {r : Int64 × xDt}, xK S v0 10 → xK S v3 100 → f_X10_drawn_6 F P S n v0 v1 v3 v4 v6 D = some r → yEx md_X10_drawn 0 6 [(0, .ref v0), (1, .long v1), (3, .ref v3), (4, .long v4), (6, .int v6)] [] S D (xQl S r) := by
  intro n
  induction n with
  | zero => intros; rename_i h; cases h
  | succ n ih =>
    intro v0 v1 v3 v4 v6 D r k0 k3 h
    exact t_X10_drawn_6s hS (fun k0 k3 h => ih k0 k3 h) k0 k3 h

def f_X10_drawn (F P : Nat) (S : xSt) (v0 : Nat) (v1 : Int64) (v3 : Nat) (D : xDt) : Option (Int64 × xDt) :=
  f_X10_drawn_6 F P S F v0 v1 v3 0 0 D
set_option maxHeartbeats 4000000 in
theorem S_X10_drawn {F P : Nat} {S : xSt} (hS : xWF S) {v0 : Nat} {v1 : Int64} {v3 : Nat} {D : xDt} {r : Int64 × xDt} (k0 : xK S v0 10) (k3 : xK S v3 100) (h : f_X10_drawn F P S v0 v1 v3 D = some r) : xSp md_X10_drawn (0, 0, 0) [.ref v0, .long v1, .ref v3] (S, D) (xQl S r) := by
  unfold f_X10_drawn at h
  refine xEntry (by decide) (Nat.le_of_ble_eq_true rfl) ?_
  refine x_lv (lv' := [(0, .ref v0), (1, .long v1), (3, .ref v3)]) [0, 1, 2] rfl ?_
  refine x_lconst 0 dX10_drawn_0 (by decide) ?_
  refine y_lstore 0 rfl [(4, .long 0), (0, .ref v0), (1, .long v1), (3, .ref v3)] dX10_drawn_1 (by show _ < 7; decide) rfl ?_
  refine x_iconst 0 dX10_drawn_3 (by decide) ?_
  refine y_istore 0 rfl [(6, .int 0), (4, .long 0), (0, .ref v0), (1, .long v1), (3, .ref v3)] dX10_drawn_4 (by show _ < 7; decide) rfl ?_
  refine x_lv (lv' := [(0, .ref v0), (1, .long v1), (3, .ref v3), (4, .long 0), (6, .int 0)]) [2, 3, 4, 1, 0] rfl ?_
  exact t_X10_drawn_6 hS F k0 k3 h

theorem dX10_take_0 : decode cX10_take 0 = .ok (.aload_n 0, 1) := by decide +kernel
theorem dX10_take_1 : decode cX10_take 1 = .ok (.iload 4, 2) := by decide +kernel
theorem dX10_take_3 : decode cX10_take 3 = .ok (.bipush 64, 2) := by decide +kernel
theorem dX10_take_5 : decode cX10_take 5 = .ok (.invokestatic 48, 3) := by decide +kernel
theorem dX10_take_8 : decode cX10_take 8 = .ok (.putfield 18, 3) := by decide +kernel
theorem dX10_take_11 : decode cX10_take 11 = .ok (.iconst 0, 1) := by decide +kernel
theorem dX10_take_12 : decode cX10_take 12 = .ok (.istore 5, 2) := by decide +kernel
theorem dX10_take_14 : decode cX10_take 14 = .ok (.iload 5, 2) := by decide +kernel
theorem dX10_take_16 : decode cX10_take 16 = .ok (.bipush 8, 2) := by decide +kernel
theorem dX10_take_18 : decode cX10_take 18 = .ok (.if_icmp .ge 28, 3) := by decide +kernel
theorem dX10_take_21 : decode cX10_take 21 = .ok (.aload_n 0, 1) := by decide +kernel
theorem dX10_take_22 : decode cX10_take 22 = .ok (.getfield 9, 3) := by decide +kernel
theorem dX10_take_25 : decode cX10_take 25 = .ok (.iload 5, 2) := by decide +kernel
theorem dX10_take_27 : decode cX10_take 27 = .ok (.aload_n 0, 1) := by decide +kernel
theorem dX10_take_28 : decode cX10_take 28 = .ok (.aload_n 1, 1) := by decide +kernel
theorem dX10_take_29 : decode cX10_take 29 = .ok (.getfield 9, 3) := by decide +kernel
theorem dX10_take_32 : decode cX10_take 32 = .ok (.iload 5, 2) := by decide +kernel
theorem dX10_take_34 : decode cX10_take 34 = .ok (.laload, 1) := by decide +kernel
theorem dX10_take_35 : decode cX10_take 35 = .ok (.aload_n 3, 1) := by decide +kernel
theorem dX10_take_36 : decode cX10_take 36 = .ok (.invokevirtual 54, 3) := by decide +kernel
theorem dX10_take_39 : decode cX10_take 39 = .ok (.lastore, 1) := by decide +kernel
theorem dX10_take_40 : decode cX10_take 40 = .ok (.iinc 5 1, 3) := by decide +kernel
theorem dX10_take_43 : decode cX10_take 43 = .ok (.goto (-29), 3) := by decide +kernel
theorem dX10_take_46 : decode cX10_take 46 = .ok (.iconst 0, 1) := by decide +kernel
theorem dX10_take_47 : decode cX10_take 47 = .ok (.istore 5, 2) := by decide +kernel
theorem dX10_take_49 : decode cX10_take 49 = .ok (.iload 5, 2) := by decide +kernel
theorem dX10_take_51 : decode cX10_take 51 = .ok (.iconst 4, 1) := by decide +kernel
theorem dX10_take_52 : decode cX10_take 52 = .ok (.if_icmp .ge 58, 3) := by decide +kernel
theorem dX10_take_55 : decode cX10_take 55 = .ok (.iload 5, 2) := by decide +kernel
theorem dX10_take_57 : decode cX10_take 57 = .ok (.bipush 64, 2) := by decide +kernel
theorem dX10_take_59 : decode cX10_take 59 = .ok (.imul, 1) := by decide +kernel
theorem dX10_take_60 : decode cX10_take 60 = .ok (.istore 6, 2) := by decide +kernel
theorem dX10_take_62 : decode cX10_take 62 = .ok (.iconst 0, 1) := by decide +kernel
theorem dX10_take_63 : decode cX10_take 63 = .ok (.istore 7, 2) := by decide +kernel
theorem dX10_take_65 : decode cX10_take 65 = .ok (.iload 7, 2) := by decide +kernel
theorem dX10_take_67 : decode cX10_take 67 = .ok (.aload_n 0, 1) := by decide +kernel
theorem dX10_take_68 : decode cX10_take 68 = .ok (.getfield 18, 3) := by decide +kernel
theorem dX10_take_71 : decode cX10_take 71 = .ok (.if_icmp .ge 33, 3) := by decide +kernel
theorem dX10_take_74 : decode cX10_take 74 = .ok (.aload_n 0, 1) := by decide +kernel
theorem dX10_take_75 : decode cX10_take 75 = .ok (.getfield 15, 3) := by decide +kernel
theorem dX10_take_78 : decode cX10_take 78 = .ok (.iload 6, 2) := by decide +kernel
theorem dX10_take_80 : decode cX10_take 80 = .ok (.iload 7, 2) := by decide +kernel
theorem dX10_take_82 : decode cX10_take 82 = .ok (.iadd, 1) := by decide +kernel
theorem dX10_take_83 : decode cX10_take 83 = .ok (.aload_n 0, 1) := by decide +kernel
theorem dX10_take_84 : decode cX10_take 84 = .ok (.aload_n 2, 1) := by decide +kernel
theorem dX10_take_85 : decode cX10_take 85 = .ok (.iload 6, 2) := by decide +kernel
theorem dX10_take_87 : decode cX10_take 87 = .ok (.aload_n 3, 1) := by decide +kernel
theorem dX10_take_88 : decode cX10_take 88 = .ok (.iload 7, 2) := by decide +kernel
theorem dX10_take_90 : decode cX10_take 90 = .ok (.iaload, 1) := by decide +kernel
theorem dX10_take_91 : decode cX10_take 91 = .ok (.iadd, 1) := by decide +kernel
theorem dX10_take_92 : decode cX10_take 92 = .ok (.laload, 1) := by decide +kernel
theorem dX10_take_93 : decode cX10_take 93 = .ok (.aload_n 3, 1) := by decide +kernel
theorem dX10_take_94 : decode cX10_take 94 = .ok (.invokevirtual 54, 3) := by decide +kernel
theorem dX10_take_97 : decode cX10_take 97 = .ok (.lastore, 1) := by decide +kernel
theorem dX10_take_98 : decode cX10_take 98 = .ok (.iinc 7 1, 3) := by decide +kernel
theorem dX10_take_101 : decode cX10_take 101 = .ok (.goto (-36), 3) := by decide +kernel
theorem dX10_take_104 : decode cX10_take 104 = .ok (.iinc 5 1, 3) := by decide +kernel
theorem dX10_take_107 : decode cX10_take 107 = .ok (.goto (-58), 3) := by decide +kernel
theorem dX10_take_110 : decode cX10_take 110 = .ok (.return_, 1) := by decide +kernel
def f_X10_take_65s (F P : Nat) (S : xSt) (rec_49 : Nat → Nat → Nat → Int32 → xDt → Option (xDt)) (rec_65 : Nat → Nat → Nat → Int32 → Int32 → Int32 → xDt → Option (xDt)) (v0 : Nat) (v2 : Nat) (v3 : Nat) (v5 : Int32) (v6 : Int32) (v7 : Int32) (D : xDt) : Option (xDt) :=
  if (D.1 v0 0) ≤ v7 then (xlet (v5 + 1) fun v5_1 => rec_49 v0 v2 v3 v5_1 D) else (xgrd (xin v7 (xl S v3)) (xgrd (xin (v6 + (D.1 v3 (v7).toNatClampNeg)) (xl S v2)) ((f_X10_drawn F P S v0 (D.2 v2 (v6 + (D.1 v3 (v7).toNatClampNeg)).toNatClampNeg) v3 D).bind fun q4 => xgrd (xin (v6 + v7) (xl S (xr S v0 2))) (xlet (q4.2.1, xup q4.2.2 (xr S v0 2) (v6 + v7).toNatClampNeg q4.1) fun D6 => xlet (v7 + 1) fun v7_7 => rec_65 v0 v2 v3 v5 v6 v7_7 D6))))
def f_X10_take_65 (F P : Nat) (S : xSt) (rec_49 : Nat → Nat → Nat → Int32 → xDt → Option (xDt)) : Nat → Nat → Nat → Nat → Int32 → Int32 → Int32 → xDt → Option (xDt)
  | 0 => fun _ _ _ _ _ _ _ => none
  | n + 1 => f_X10_take_65s F P S rec_49 (f_X10_take_65 F P S rec_49 n)
set_option maxHeartbeats 4000000 in
theorem t_X10_take_65s {F P : Nat} {S : xSt} (hS : xWF S) {rec_49 : Nat → Nat → Nat → Int32 → xDt → Option (xDt)} (hrec_49 : ∀ {v0 : Nat} {v2 : Nat} {v3 : Nat} {v5 : Int32} {D : xDt} {r : xDt}, xK S v0 10 → xK S v2 101 → xK S v3 100 → rec_49 v0 v2 v3 v5 D = some r → yEx md_X10_take 1 49 [(0, .ref v0), (2, .ref v2), (3, .ref v3), (5, .int v5)] [] S D (xQv S r)) {rec_65 : Nat → Nat → Nat → Int32 → Int32 → Int32 → xDt → Option (xDt)} (hrec_65 : ∀ {v0 : Nat} {v2 : Nat} {v3 : Nat} {v5 : Int32} {v6 : Int32} {v7 : Int32} {D : xDt} {r : xDt}, xK S v0 10 → xK S v2 101 → xK S v3 100 → rec_65 v0 v2 v3 v5 v6 v7 D = some r → yEx md_X10_take 1 65 [(0, .ref v0), (2, .ref v2), (3, .ref v3), (5, .int v5), (6, .int v6), (7, .int v7)] [] S D (xQv S r)) {v0 : Nat} {v2 : Nat} {v3 : Nat} {v5 : Int32} {v6 : Int32} {v7 : Int32} {D : xDt} {r : xDt} (k0 : xK S v0 10) (k2 : xK S v2 101) (k3 : xK S v3 100) (h : f_X10_take_65s F P S rec_49 rec_65 v0 v2 v3 v5 v6 v7 D = some r) : yEx md_X10_take 1 65 [(0, .ref v0), (2, .ref v2), (3, .ref v3), (5, .int v5), (6, .int v6), (7, .int v7)] [] S D (xQv S r) := by
  unfold f_X10_take_65s at h
  refine x_iload dX10_take_65 5 rfl ?_
  refine x_aload_n dX10_take_67 0 rfl ?_
  refine y_geti fl_RX10_18 dX10_take_68 rfl k0 ?_
  refine x_icmp_ge 104 dX10_take_71 (by decide) (fun c => ?_) (fun c => ?_)
  · rw [if_pos c] at h
    refine xlet_e h (fun v5_1 ev5_1 h => ?_)
    refine y_iinc v5_1 ev5_1 (by decide) [(5, .int v5_1), (0, .ref v0), (2, .ref v2), (3, .ref v3), (6, .int v6), (7, .int v7)] dX10_take_104 3 rfl (by show _ < 8; decide) rfl ?_
    refine x_goto 49 dX10_take_107 (by decide) ?_
    refine x_lv (lv' := [(0, .ref v0), (2, .ref v2), (3, .ref v3), (5, .int v5_1)]) [1, 2, 3, 0] rfl ?_
    exact hrec_49 k0 k2 k3 h
  · rw [if_neg c] at h
    refine x_aload_n dX10_take_74 0 rfl ?_
    refine y_getr (kd := 101) hS fl_RX10_15 dX10_take_75 rfl k0 ?_
    refine x_iload dX10_take_78 4 rfl ?_
    refine x_iload dX10_take_80 5 rfl ?_
    refine x_iadd dX10_take_82 ?_
    refine x_aload_n dX10_take_83 0 rfl ?_
    refine x_aload_n dX10_take_84 1 rfl ?_
    refine x_iload dX10_take_85 4 rfl ?_
    refine x_aload_n dX10_take_87 2 rfl ?_
    refine x_iload dX10_take_88 5 rfl ?_
    refine xgrd_e h (fun g2 h => ?_)
    refine y_iald dX10_take_90 k3 g2 ?_
    refine x_iadd dX10_take_91 ?_
    refine xgrd_e h (fun g3 h => ?_)
    refine y_lald dX10_take_92 k2 g3 ?_
    refine x_aload_n dX10_take_93 2 rfl ?_
    refine xbnd_e h (fun q4 e4 h => ?_)
    refine y_callVl (As := [.long (D.2 v2 (v6 + (D.1 v3 (v7).toNatClampNeg)).toNatClampNeg), .ref v3]) (q := q4) cv_RX10_54 dX10_take_94 k0 rfl (Nat.le_of_ble_eq_true rfl) (by omega) (S_X10_drawn hS k0 k3 e4) ?_
    refine xgrd_e h (fun g5 h => ?_)
    refine xlet_e h (fun D6 eD6 h => ?_)
    refine y_last dX10_take_97 ((hS.f k0 2 101 rfl).2) g5 eD6 ?_
    refine xlet_e h (fun v7_7 ev7_7 h => ?_)
    refine y_iinc v7_7 ev7_7 (by decide) [(7, .int v7_7), (0, .ref v0), (2, .ref v2), (3, .ref v3), (5, .int v5), (6, .int v6)] dX10_take_98 5 rfl (by show _ < 8; decide) rfl ?_
    refine x_goto 65 dX10_take_101 (by decide) ?_
    refine x_lv (lv' := [(0, .ref v0), (2, .ref v2), (3, .ref v3), (5, .int v5), (6, .int v6), (7, .int v7_7)]) [1, 2, 3, 4, 5, 0] rfl ?_
    exact hrec_65 k0 k2 k3 h
theorem t_X10_take_65 {F P : Nat} {S : xSt} (hS : xWF S) {rec_49 : Nat → Nat → Nat → Int32 → xDt → Option (xDt)} (hrec_49 : ∀ {v0 : Nat} {v2 : Nat} {v3 : Nat} {v5 : Int32} {D : xDt} {r : xDt}, xK S v0 10 → xK S v2 101 → xK S v3 100 → rec_49 v0 v2 v3 v5 D = some r → yEx md_X10_take 1 49 [(0, .ref v0), (2, .ref v2), (3, .ref v3), (5, .int v5)] [] S D (xQv S r)) : ∀ (n : Nat) {v0 : Nat} {v2 : Nat} {v3 : Nat} {v5 : Int32} {v6 : Int32} {v7 : Int32} {D : xDt} {r : xDt}, xK S v0 10 → xK S v2 101 → xK S v3 100 → f_X10_take_65 F P S rec_49 n v0 v2 v3 v5 v6 v7 D = some r → yEx md_X10_take 1 65 [(0, .ref v0), (2, .ref v2), (3, .ref v3), (5, .int v5), (6, .int v6), (7, .int v7)] [] S D (xQv S r) := by
  intro n
  induction n with
  | zero => intros; rename_i h; cases h
  | succ n ih =>
    intro v0 v2 v3 v5 v6 v7 D r k0 k2 k3 h
    exact t_X10_take_65s hS hrec_49 (fun k0 k2 k3 h => ih k0 k2 k3 h) k0 k2 k3 h

def f_X10_take_49s (F P : Nat) (S : xSt) (rec_49 : Nat → Nat → Nat → Int32 → xDt → Option (xDt)) (v0 : Nat) (v2 : Nat) (v3 : Nat) (v5 : Int32) (D : xDt) : Option (xDt) :=
  if 4 ≤ v5 then (some D) else (xlet (v5 * 64) fun v6_1 => f_X10_take_65 F P S rec_49 F v0 v2 v3 v5 v6_1 0 D)
def f_X10_take_49 (F P : Nat) (S : xSt) : Nat → Nat → Nat → Nat → Int32 → xDt → Option (xDt)
  | 0 => fun _ _ _ _ _ => none
  | n + 1 => f_X10_take_49s F P S (f_X10_take_49 F P S n)
set_option maxHeartbeats 4000000 in
theorem t_X10_take_49s {F P : Nat} {S : xSt} (hS : xWF S) {rec_49 : Nat → Nat → Nat → Int32 → xDt → Option (xDt)} (hrec_49 : ∀ {v0 : Nat} {v2 : Nat} {v3 : Nat} {v5 : Int32} {D : xDt} {r : xDt}, xK S v0 10 → xK S v2 101 → xK S v3 100 → rec_49 v0 v2 v3 v5 D = some r → yEx md_X10_take 1 49 [(0, .ref v0), (2, .ref v2), (3, .ref v3), (5, .int v5)] [] S D (xQv S r)) {v0 : Nat} {v2 : Nat} {v3 : Nat} {v5 : Int32} {D : xDt} {r : xDt} (k0 : xK S v0 10) (k2 : xK S v2 101) (k3 : xK S v3 100) (h : f_X10_take_49s F P S rec_49 v0 v2 v3 v5 D = some r) : yEx md_X10_take 1 49 [(0, .ref v0), (2, .ref v2), (3, .ref v3), (5, .int v5)] [] S D (xQv S r) := by
  unfold f_X10_take_49s at h
  refine x_iload dX10_take_49 3 rfl ?_
  refine x_iconst 4 dX10_take_51 (by decide) ?_
  refine x_icmp_ge 110 dX10_take_52 (by decide) (fun c => ?_) (fun c => ?_)
  · rw [if_pos c] at h
    obtain rfl := Option.some.inj h
    exact y_vret rfl dX10_take_110
  · rw [if_neg c] at h
    refine x_iload dX10_take_55 3 rfl ?_
    refine x_bipush 64 dX10_take_57 (by decide) ?_
    refine x_imul dX10_take_59 ?_
    refine xlet_e h (fun v6_1 ev6_1 h => ?_)
    refine y_istore v6_1 ev6_1 [(6, .int v6_1), (0, .ref v0), (2, .ref v2), (3, .ref v3), (5, .int v5)] dX10_take_60 (by show _ < 8; decide) rfl ?_
    refine x_iconst 0 dX10_take_62 (by decide) ?_
    refine y_istore 0 rfl [(7, .int 0), (6, .int v6_1), (0, .ref v0), (2, .ref v2), (3, .ref v3), (5, .int v5)] dX10_take_63 (by show _ < 8; decide) rfl ?_
    refine x_lv (lv' := [(0, .ref v0), (2, .ref v2), (3, .ref v3), (5, .int v5), (6, .int v6_1), (7, .int 0)]) [2, 3, 4, 5, 1, 0] rfl ?_
    exact t_X10_take_65 hS hrec_49 F k0 k2 k3 h
theorem t_X10_take_49 {F P : Nat} {S : xSt} (hS : xWF S) : ∀ (n : Nat) {v0 : Nat} {v2 : Nat} {v3 : Nat} {v5 : Int32} {D : xDt} {r : xDt}, xK S v0 10 → xK S v2 101 → xK S v3 100 → f_X10_take_49 F P S n v0 v2 v3 v5 D = some r → yEx md_X10_take 1 49 [(0, .ref v0), (2, .ref v2), (3, .ref v3), (5, .int v5)] [] S D (xQv S r) := by
  intro n
  induction n with
  | zero => intros; rename_i h; cases h
  | succ n ih =>
    intro v0 v2 v3 v5 D r k0 k2 k3 h
    exact t_X10_take_49s hS (fun k0 k2 k3 h => ih k0 k2 k3 h) k0 k2 k3 h

def f_X10_take_14s (F P : Nat) (S : xSt) (rec_14 : Nat → Nat → Nat → Nat → Int32 → xDt → Option (xDt)) (v0 : Nat) (v1 : Nat) (v2 : Nat) (v3 : Nat) (v5 : Int32) (D : xDt) : Option (xDt) :=
  if 8 ≤ v5 then (f_X10_take_49 F P S F v0 v2 v3 0 D) else (xgrd (xin v5 (xl S (xr S v1 1))) ((f_X10_drawn F P S v0 (D.2 (xr S v1 1) (v5).toNatClampNeg) v3 D).bind fun q2 => xgrd (xin v5 (xl S (xr S v0 1))) (xlet (q2.2.1, xup q2.2.2 (xr S v0 1) (v5).toNatClampNeg q2.1) fun D4 => xlet (v5 + 1) fun v5_5 => rec_14 v0 v1 v2 v3 v5_5 D4)))
def f_X10_take_14 (F P : Nat) (S : xSt) : Nat → Nat → Nat → Nat → Nat → Int32 → xDt → Option (xDt)
  | 0 => fun _ _ _ _ _ _ => none
  | n + 1 => f_X10_take_14s F P S (f_X10_take_14 F P S n)
set_option maxHeartbeats 4000000 in
theorem t_X10_take_14s {F P : Nat} {S : xSt} (hS : xWF S) {rec_14 : Nat → Nat → Nat → Nat → Int32 → xDt → Option (xDt)} (hrec_14 : ∀ {v0 : Nat} {v1 : Nat} {v2 : Nat} {v3 : Nat} {v5 : Int32} {D : xDt} {r : xDt}, xK S v0 10 → xK S v1 10 → xK S v2 101 → xK S v3 100 → rec_14 v0 v1 v2 v3 v5 D = some r → yEx md_X10_take 1 14 [(0, .ref v0), (1, .ref v1), (2, .ref v2), (3, .ref v3), (5, .int v5)] [] S D (xQv S r)) {v0 : Nat} {v1 : Nat} {v2 : Nat} {v3 : Nat} {v5 : Int32} {D : xDt} {r : xDt} (k0 : xK S v0 10) (k1 : xK S v1 10) (k2 : xK S v2 101) (k3 : xK S v3 100) (h : f_X10_take_14s F P S rec_14 v0 v1 v2 v3 v5 D = some r) : yEx md_X10_take 1 14 [(0, .ref v0), (1, .ref v1), (2, .ref v2), (3, .ref v3), (5, .int v5)] [] S D (xQv S r) := by
  unfold f_X10_take_14s at h
  refine x_iload dX10_take_14 4 rfl ?_
  refine x_bipush 8 dX10_take_16 (by decide) ?_
  refine x_icmp_ge 46 dX10_take_18 (by decide) (fun c => ?_) (fun c => ?_)
  · rw [if_pos c] at h
    refine x_iconst 0 dX10_take_46 (by decide) ?_
    refine y_istore 0 rfl [(5, .int 0), (0, .ref v0), (1, .ref v1), (2, .ref v2), (3, .ref v3)] dX10_take_47 (by show _ < 8; decide) rfl ?_
    refine x_lv (lv' := [(0, .ref v0), (2, .ref v2), (3, .ref v3), (5, .int 0)]) [1, 3, 4, 0] rfl ?_
    exact t_X10_take_49 hS F k0 k2 k3 h
  · rw [if_neg c] at h
    refine x_aload_n dX10_take_21 0 rfl ?_
    refine y_getr (kd := 101) hS fl_RX10_9 dX10_take_22 rfl k0 ?_
    refine x_iload dX10_take_25 4 rfl ?_
    refine x_aload_n dX10_take_27 0 rfl ?_
    refine x_aload_n dX10_take_28 1 rfl ?_
    refine y_getr (kd := 101) hS fl_RX10_9 dX10_take_29 rfl k1 ?_
    refine x_iload dX10_take_32 4 rfl ?_
    refine xgrd_e h (fun g1 h => ?_)
    refine y_lald dX10_take_34 ((hS.f k1 1 101 rfl).2) g1 ?_
    refine x_aload_n dX10_take_35 3 rfl ?_
    refine xbnd_e h (fun q2 e2 h => ?_)
    refine y_callVl (As := [.long (D.2 (xr S v1 1) (v5).toNatClampNeg), .ref v3]) (q := q2) cv_RX10_54 dX10_take_36 k0 rfl (Nat.le_of_ble_eq_true rfl) (by omega) (S_X10_drawn hS k0 k3 e2) ?_
    refine xgrd_e h (fun g3 h => ?_)
    refine xlet_e h (fun D4 eD4 h => ?_)
    refine y_last dX10_take_39 ((hS.f k0 1 101 rfl).2) g3 eD4 ?_
    refine xlet_e h (fun v5_5 ev5_5 h => ?_)
    refine y_iinc v5_5 ev5_5 (by decide) [(5, .int v5_5), (0, .ref v0), (1, .ref v1), (2, .ref v2), (3, .ref v3)] dX10_take_40 4 rfl (by show _ < 8; decide) rfl ?_
    refine x_goto 14 dX10_take_43 (by decide) ?_
    refine x_lv (lv' := [(0, .ref v0), (1, .ref v1), (2, .ref v2), (3, .ref v3), (5, .int v5_5)]) [1, 2, 3, 4, 0] rfl ?_
    exact hrec_14 k0 k1 k2 k3 h
theorem t_X10_take_14 {F P : Nat} {S : xSt} (hS : xWF S) : ∀ (n : Nat) {v0 : Nat} {v1 : Nat} {v2 : Nat} {v3 : Nat} {v5 : Int32} {D : xDt} {r : xDt}, xK S v0 10 → xK S v1 10 → xK S v2 101 → xK S v3 100 → f_X10_take_14 F P S n v0 v1 v2 v3 v5 D = some r → yEx md_X10_take 1 14 [(0, .ref v0), (1, .ref v1), (2, .ref v2), (3, .ref v3), (5, .int v5)] [] S D (xQv S r) := by
  intro n
  induction n with
  | zero => intros; rename_i h; cases h
  | succ n ih =>
    intro v0 v1 v2 v3 v5 D r k0 k1 k2 k3 h
    exact t_X10_take_14s hS (fun k0 k1 k2 k3 h => ih k0 k1 k2 k3 h) k0 k1 k2 k3 h

def f_X10_take (F P : Nat) (S : xSt) (v0 : Nat) (v1 : Nat) (v2 : Nat) (v3 : Nat) (v4 : Int32) (D : xDt) : Option (xDt) :=
  xlet (xup D.1 v0 0 (jmin v4 64), D.2) fun D1 => f_X10_take_14 F P S F v0 v1 v2 v3 0 D1
set_option maxHeartbeats 4000000 in
theorem S_X10_take {F P : Nat} {S : xSt} (hS : xWF S) {v0 : Nat} {v1 : Nat} {v2 : Nat} {v3 : Nat} {v4 : Int32} {D : xDt} {r : xDt} (k0 : xK S v0 10) (k1 : xK S v1 10) (k2 : xK S v2 101) (k3 : xK S v3 100) (h : f_X10_take F P S v0 v1 v2 v3 v4 D = some r) : xSp md_X10_take (1, 0, 0) [.ref v0, .ref v1, .ref v2, .ref v3, .int v4] (S, D) (xQv S r) := by
  unfold f_X10_take at h
  refine xEntry (by decide) (Nat.le_of_ble_eq_true rfl) ?_
  refine x_lv (lv' := [(0, .ref v0), (1, .ref v1), (2, .ref v2), (3, .ref v3), (4, .int v4)]) [0, 1, 2, 3, 4] rfl ?_
  refine x_aload_n dX10_take_0 0 rfl ?_
  refine x_iload dX10_take_1 4 rfl ?_
  refine x_bipush 64 dX10_take_3 (by decide) ?_
  refine y_min mm_RX10_48 dX10_take_5 (Nat.le_of_ble_eq_true rfl) (by omega) ?_
  refine xlet_e h (fun D1 eD1 h => ?_)
  refine y_puti fp_RX10_18 dX10_take_8 rfl k0 eD1 ?_
  refine x_iconst 0 dX10_take_11 (by decide) ?_
  refine y_istore 0 rfl [(5, .int 0), (0, .ref v0), (1, .ref v1), (2, .ref v2), (3, .ref v3), (4, .int v4)] dX10_take_12 (by show _ < 8; decide) rfl ?_
  refine x_lv (lv' := [(0, .ref v0), (1, .ref v1), (2, .ref v2), (3, .ref v3), (5, .int 0)]) [1, 2, 3, 4, 0] rfl ?_
  exact t_X10_take_14 hS F k0 k1 k2 k3 h

theorem dX11_worldsEdited_0 : decode cX11_worldsEdited 0 = .ok (.aload_n 0, 1) := by decide +kernel
theorem dX11_worldsEdited_1 : decode cX11_worldsEdited 1 = .ok (.getfield 19, 3) := by decide +kernel
theorem dX11_worldsEdited_4 : decode cX11_worldsEdited 4 = .ok (.iconst 0, 1) := by decide +kernel
theorem dX11_worldsEdited_5 : decode cX11_worldsEdited 5 = .ok (.putfield 207, 3) := by decide +kernel
theorem dX11_worldsEdited_8 : decode cX11_worldsEdited 8 = .ok (.aload_n 0, 1) := by decide +kernel
theorem dX11_worldsEdited_9 : decode cX11_worldsEdited 9 = .ok (.iconst 0, 1) := by decide +kernel
theorem dX11_worldsEdited_10 : decode cX11_worldsEdited 10 = .ok (.putfield 211, 3) := by decide +kernel
theorem dX11_worldsEdited_13 : decode cX11_worldsEdited 13 = .ok (.return_, 1) := by decide +kernel
def f_X11_worldsEdited (F P : Nat) (S : xSt) (v0 : Nat) (D : xDt) : Option (xDt) :=
  xlet (xup D.1 (xr S v0 1) 2 0, D.2) fun D1 => xlet (xup D1.1 v0 13 0, D1.2) fun D2 => some D2
set_option maxHeartbeats 4000000 in
theorem S_X11_worldsEdited {F P : Nat} {S : xSt} (hS : xWF S) {v0 : Nat} {D : xDt} {r : xDt} (k0 : xK S v0 11) (h : f_X11_worldsEdited F P S v0 D = some r) : xSp md_X11_worldsEdited (0, 0, 0) [.ref v0] (S, D) (xQv S r) := by
  unfold f_X11_worldsEdited at h
  refine xEntry (by decide) (Nat.le_of_ble_eq_true rfl) ?_
  refine x_lv (lv' := [(0, .ref v0)]) [0] rfl ?_
  refine x_aload_n dX11_worldsEdited_0 0 rfl ?_
  refine y_getr (kd := 5) hS fl_RX11_19 dX11_worldsEdited_1 rfl k0 ?_
  refine x_iconst 0 dX11_worldsEdited_4 (by decide) ?_
  refine xlet_e h (fun D1 eD1 h => ?_)
  refine y_puti fp_RX11_207 dX11_worldsEdited_5 rfl ((hS.f k0 1 5 rfl).2) eD1 ?_
  refine x_aload_n dX11_worldsEdited_8 0 rfl ?_
  refine x_iconst 0 dX11_worldsEdited_9 (by decide) ?_
  refine xlet_e h (fun D2 eD2 h => ?_)
  refine y_putz rfl fp_RX11_211 dX11_worldsEdited_10 rfl k0 eD2 ?_
  obtain rfl := Option.some.inj h
  exact y_vret rfl dX11_worldsEdited_13

theorem dX11_world_0 : decode cX11_world 0 = .ok (.iload_n 1, 1) := by decide +kernel
theorem dX11_world_1 : decode cX11_world 1 = .ok (.ifCond .lt 22, 3) := by decide +kernel
theorem dX11_world_4 : decode cX11_world 4 = .ok (.iload_n 1, 1) := by decide +kernel
theorem dX11_world_5 : decode cX11_world 5 = .ok (.sipush 256, 3) := by decide +kernel
theorem dX11_world_8 : decode cX11_world 8 = .ok (.if_icmp .ge 15, 3) := by decide +kernel
theorem dX11_world_11 : decode cX11_world 11 = .ok (.aload_n 0, 1) := by decide +kernel
theorem dX11_world_12 : decode cX11_world 12 = .ok (.getfield 10, 3) := by decide +kernel
theorem dX11_world_15 : decode cX11_world 15 = .ok (.getfield 92, 3) := by decide +kernel
theorem dX11_world_18 : decode cX11_world 18 = .ok (.bipush 64, 2) := by decide +kernel
theorem dX11_world_20 : decode cX11_world 20 = .ok (.if_icmp .lt 5, 3) := by decide +kernel
theorem dX11_world_23 : decode cX11_world 23 = .ok (.iconst (-1), 1) := by decide +kernel
theorem dX11_world_24 : decode cX11_world 24 = .ok (.ireturn, 1) := by decide +kernel
theorem dX11_world_25 : decode cX11_world 25 = .ok (.aload_n 0, 1) := by decide +kernel
theorem dX11_world_26 : decode cX11_world 26 = .ok (.invokevirtual 96, 3) := by decide +kernel
theorem dX11_world_29 : decode cX11_world 29 = .ok (.aload_n 0, 1) := by decide +kernel
theorem dX11_world_30 : decode cX11_world 30 = .ok (.getfield 10, 3) := by decide +kernel
theorem dX11_world_33 : decode cX11_world 33 = .ok (.iload_n 1, 1) := by decide +kernel
theorem dX11_world_34 : decode cX11_world 34 = .ok (.invokevirtual 99, 3) := by decide +kernel
theorem dX11_world_37 : decode cX11_world 37 = .ok (.ireturn, 1) := by decide +kernel
def f_X11_world (F P : Nat) (S : xSt) (v0 : Nat) (v1 : Int32) (D : xDt) : Option (Int32 × xDt) :=
  if v1 < 0 then (some ((-1), D)) else (if 256 ≤ v1 then (some ((-1), D)) else (if (D.1 (xr S v0 0) 0) < 64 then ((f_X11_worldsEdited F P S v0 D).bind fun q1 => (f_X10_add F P S (xr S v0 0) v1 q1).bind fun q2 => some (q2.1, q2.2)) else (some ((-1), D))))
set_option maxHeartbeats 4000000 in
theorem S_X11_world {F P : Nat} {S : xSt} (hS : xWF S) {v0 : Nat} {v1 : Int32} {D : xDt} {r : Int32 × xDt} (k0 : xK S v0 11) (h : f_X11_world F P S v0 v1 D = some r) : xSp md_X11_world (2, 0, 0) [.ref v0, .int v1] (S, D) (xQi S r) := by
  unfold f_X11_world at h
  refine xEntry (by decide) (Nat.le_of_ble_eq_true rfl) ?_
  refine x_lv (lv' := [(0, .ref v0), (1, .int v1)]) [0, 1] rfl ?_
  refine x_iload_n dX11_world_0 1 rfl ?_
  refine x_if_lt 23 dX11_world_1 (by decide) (fun c => ?_) (fun c => ?_)
  · rw [if_pos c] at h
    refine x_iconst (-1) dX11_world_23 (by decide) ?_
    obtain rfl := Option.some.inj h
    exact y_iret rfl dX11_world_24
  · rw [if_neg c] at h
    refine x_iload_n dX11_world_4 1 rfl ?_
    refine x_sipush 256 dX11_world_5 (by decide) ?_
    refine x_icmp_ge 23 dX11_world_8 (by decide) (fun c => ?_) (fun c => ?_)
    · rw [if_pos c] at h
      refine x_iconst (-1) dX11_world_23 (by decide) ?_
      obtain rfl := Option.some.inj h
      exact y_iret rfl dX11_world_24
    · rw [if_neg c] at h
      refine x_aload_n dX11_world_11 0 rfl ?_
      refine y_getr (kd := 10) hS fl_RX11_10 dX11_world_12 rfl k0 ?_
      refine y_geti fl_RX11_92 dX11_world_15 rfl ((hS.f k0 0 10 rfl).2) ?_
      refine x_bipush 64 dX11_world_18 (by decide) ?_
      refine x_icmp_lt 25 dX11_world_20 (by decide) (fun c => ?_) (fun c => ?_)
      · rw [if_pos c] at h
        refine x_aload_n dX11_world_25 0 rfl ?_
        refine xbnd_e h (fun q1 e1 h => ?_)
        refine y_callVv (As := []) (q := q1) cv_RX11_96 dX11_world_26 k0 rfl (Nat.le_of_ble_eq_true rfl) (by omega) (S_X11_worldsEdited hS k0 e1) ?_
        refine x_aload_n dX11_world_29 0 rfl ?_
        refine y_getr (kd := 10) hS fl_RX11_10 dX11_world_30 rfl k0 ?_
        refine x_iload_n dX11_world_33 1 rfl ?_
        refine xbnd_e h (fun q2 e2 h => ?_)
        refine y_callVi (As := [.int v1]) (q := q2) cv_RX11_99 dX11_world_34 ((hS.f k0 0 10 rfl).2) rfl (Nat.le_of_ble_eq_true rfl) (by omega) (S_X10_add hS ((hS.f k0 0 10 rfl).2) e2) ?_
        obtain rfl := Option.some.inj h
        exact y_iret rfl dX11_world_37
      · rw [if_neg c] at h
        refine x_iconst (-1) dX11_world_23 (by decide) ?_
        obtain rfl := Option.some.inj h
        exact y_iret rfl dX11_world_24

theorem dX11_isAgent_0 : decode cX11_isAgent 0 = .ok (.iload_n 0, 1) := by decide +kernel
theorem dX11_isAgent_1 : decode cX11_isAgent 1 = .ok (.iconst 1, 1) := by decide +kernel
theorem dX11_isAgent_2 : decode cX11_isAgent 2 = .ok (.if_icmp .lt 12, 3) := by decide +kernel
theorem dX11_isAgent_5 : decode cX11_isAgent 5 = .ok (.iload_n 0, 1) := by decide +kernel
theorem dX11_isAgent_6 : decode cX11_isAgent 6 = .ok (.iconst 4, 1) := by decide +kernel
theorem dX11_isAgent_7 : decode cX11_isAgent 7 = .ok (.if_icmp .gt 7, 3) := by decide +kernel
theorem dX11_isAgent_10 : decode cX11_isAgent 10 = .ok (.iconst 1, 1) := by decide +kernel
theorem dX11_isAgent_11 : decode cX11_isAgent 11 = .ok (.goto 4, 3) := by decide +kernel
theorem dX11_isAgent_14 : decode cX11_isAgent 14 = .ok (.iconst 0, 1) := by decide +kernel
theorem dX11_isAgent_15 : decode cX11_isAgent 15 = .ok (.ireturn, 1) := by decide +kernel
def f_X11_isAgent_14 (F P : Nat) (S : xSt) (D : xDt) : Option (Int32 × xDt) :=
  some (0, D)
set_option maxHeartbeats 4000000 in
theorem t_X11_isAgent_14 {F P : Nat} {S : xSt} (hS : xWF S) {D : xDt} {r : Int32 × xDt} (h : f_X11_isAgent_14 F P S D = some r) : yEx md_X11_isAgent 0 14 [] [] S D (xQi S r) := by
  unfold f_X11_isAgent_14 at h
  refine x_iconst 0 dX11_isAgent_14 (by decide) ?_
  obtain rfl := Option.some.inj h
  exact y_zret rfl rfl dX11_isAgent_15

def f_X11_isAgent (F P : Nat) (S : xSt) (v0 : Int32) (D : xDt) : Option (Int32 × xDt) :=
  if v0 < 1 then (f_X11_isAgent_14 F P S D) else (if 4 < v0 then (f_X11_isAgent_14 F P S D) else (some (1, D)))
set_option maxHeartbeats 4000000 in
theorem S_X11_isAgent {F P : Nat} {S : xSt} (hS : xWF S) {v0 : Int32} {D : xDt} {r : Int32 × xDt} (h : f_X11_isAgent F P S v0 D = some r) : xSp md_X11_isAgent (0, 0, 0) [.int v0] (S, D) (xQi S r) := by
  unfold f_X11_isAgent at h
  refine xEntry (by decide) (Nat.le_of_ble_eq_true rfl) ?_
  refine x_lv (lv' := [(0, .int v0)]) [0] rfl ?_
  refine x_iload_n dX11_isAgent_0 0 rfl ?_
  refine x_iconst 1 dX11_isAgent_1 (by decide) ?_
  refine x_icmp_lt 14 dX11_isAgent_2 (by decide) (fun c => ?_) (fun c => ?_)
  · rw [if_pos c] at h
    refine x_lv (lv' := []) [] rfl ?_
    exact t_X11_isAgent_14 hS h
  · rw [if_neg c] at h
    refine x_iload_n dX11_isAgent_5 0 rfl ?_
    refine x_iconst 4 dX11_isAgent_6 (by decide) ?_
    refine x_icmp_gt 14 dX11_isAgent_7 (by decide) (fun c => ?_) (fun c => ?_)
    · rw [if_pos c] at h
      refine x_lv (lv' := []) [] rfl ?_
      exact t_X11_isAgent_14 hS h
    · rw [if_neg c] at h
      refine x_iconst 1 dX11_isAgent_10 (by decide) ?_
      refine x_goto 15 dX11_isAgent_11 (by decide) ?_
      obtain rfl := Option.some.inj h
      exact y_zret rfl rfl dX11_isAgent_15

theorem dX11_tie_0 : decode cX11_tie 0 = .ok (.iload_n 1, 1) := by decide +kernel
theorem dX11_tie_1 : decode cX11_tie 1 = .ok (.invokestatic 102, 3) := by decide +kernel
theorem dX11_tie_4 : decode cX11_tie 4 = .ok (.ifCond .eq 25, 3) := by decide +kernel
theorem dX11_tie_7 : decode cX11_tie 7 = .ok (.aload_n 0, 1) := by decide +kernel
theorem dX11_tie_8 : decode cX11_tie 8 = .ok (.getfield 10, 3) := by decide +kernel
theorem dX11_tie_11 : decode cX11_tie 11 = .ok (.iload_n 2, 1) := by decide +kernel
theorem dX11_tie_12 : decode cX11_tie 12 = .ok (.invokevirtual 105, 3) := by decide +kernel
theorem dX11_tie_15 : decode cX11_tie 15 = .ok (.ifCond .eq 14, 3) := by decide +kernel
theorem dX11_tie_18 : decode cX11_tie 18 = .ok (.aload_n 0, 1) := by decide +kernel
theorem dX11_tie_19 : decode cX11_tie 19 = .ok (.getfield 10, 3) := by decide +kernel
theorem dX11_tie_22 : decode cX11_tie 22 = .ok (.iload_n 3, 1) := by decide +kernel
theorem dX11_tie_23 : decode cX11_tie 23 = .ok (.invokevirtual 105, 3) := by decide +kernel
theorem dX11_tie_26 : decode cX11_tie 26 = .ok (.ifCond .ne 5, 3) := by decide +kernel
theorem dX11_tie_29 : decode cX11_tie 29 = .ok (.iconst (-1), 1) := by decide +kernel
theorem dX11_tie_30 : decode cX11_tie 30 = .ok (.ireturn, 1) := by decide +kernel
theorem dX11_tie_31 : decode cX11_tie 31 = .ok (.aload_n 0, 1) := by decide +kernel
theorem dX11_tie_32 : decode cX11_tie 32 = .ok (.invokevirtual 96, 3) := by decide +kernel
theorem dX11_tie_35 : decode cX11_tie 35 = .ok (.aload_n 0, 1) := by decide +kernel
theorem dX11_tie_36 : decode cX11_tie 36 = .ok (.getfield 10, 3) := by decide +kernel
theorem dX11_tie_39 : decode cX11_tie 39 = .ok (.iload_n 1, 1) := by decide +kernel
theorem dX11_tie_40 : decode cX11_tie 40 = .ok (.iconst 1, 1) := by decide +kernel
theorem dX11_tie_41 : decode cX11_tie 41 = .ok (.isub, 1) := by decide +kernel
theorem dX11_tie_42 : decode cX11_tie 42 = .ok (.iload_n 2, 1) := by decide +kernel
theorem dX11_tie_43 : decode cX11_tie 43 = .ok (.iload_n 3, 1) := by decide +kernel
theorem dX11_tie_44 : decode cX11_tie 44 = .ok (.invokevirtual 108, 3) := by decide +kernel
theorem dX11_tie_47 : decode cX11_tie 47 = .ok (.ireturn, 1) := by decide +kernel
def f_X11_tie (F P : Nat) (S : xSt) (v0 : Nat) (v1 : Int32) (v2 : Int32) (v3 : Int32) (D : xDt) : Option (Int32 × xDt) :=
  (f_X11_isAgent F P S v1 D).bind fun q1 => if q1.1 = 0 then (some ((-1), q1.2)) else ((f_X10_has F P S (xr S v0 0) v2 q1.2).bind fun q2 => if q2.1 = 0 then (some ((-1), q2.2)) else ((f_X10_has F P S (xr S v0 0) v3 q2.2).bind fun q3 => if q3.1 = 0 then (some ((-1), q3.2)) else ((f_X11_worldsEdited F P S v0 q3.2).bind fun q4 => (f_X10_merge F P S (xr S v0 0) (v1 - 1) v2 v3 q4).bind fun q5 => some (q5.1, q5.2))))
set_option maxHeartbeats 4000000 in
theorem S_X11_tie {F P : Nat} {S : xSt} (hS : xWF S) {v0 : Nat} {v1 : Int32} {v2 : Int32} {v3 : Int32} {D : xDt} {r : Int32 × xDt} (k0 : xK S v0 11) (h : f_X11_tie F P S v0 v1 v2 v3 D = some r) : xSp md_X11_tie (2, 0, 0) [.ref v0, .int v1, .int v2, .int v3] (S, D) (xQi S r) := by
  unfold f_X11_tie at h
  refine xEntry (by decide) (Nat.le_of_ble_eq_true rfl) ?_
  refine x_lv (lv' := [(0, .ref v0), (1, .int v1), (2, .int v2), (3, .int v3)]) [0, 1, 2, 3] rfl ?_
  refine x_iload_n dX11_tie_0 1 rfl ?_
  refine xbnd_e h (fun q1 e1 h => ?_)
  refine y_callSi (As := [.int v1]) (q := q1) cs_RX11_102 dX11_tie_1 rfl (Nat.le_of_ble_eq_true rfl) (by omega) (S_X11_isAgent hS e1) ?_
  refine x_if_eq 29 dX11_tie_4 (by decide) (fun c => ?_) (fun c => ?_)
  · rw [if_pos c] at h
    refine x_iconst (-1) dX11_tie_29 (by decide) ?_
    obtain rfl := Option.some.inj h
    exact y_iret rfl dX11_tie_30
  · rw [if_neg c] at h
    refine x_aload_n dX11_tie_7 0 rfl ?_
    refine y_getr (kd := 10) hS fl_RX11_10 dX11_tie_8 rfl k0 ?_
    refine x_iload_n dX11_tie_11 2 rfl ?_
    refine xbnd_e h (fun q2 e2 h => ?_)
    refine y_callVi (As := [.int v2]) (q := q2) cv_RX11_105 dX11_tie_12 ((hS.f k0 0 10 rfl).2) rfl (Nat.le_of_ble_eq_true rfl) (by omega) (S_X10_has hS ((hS.f k0 0 10 rfl).2) e2) ?_
    refine x_if_eq 29 dX11_tie_15 (by decide) (fun c => ?_) (fun c => ?_)
    · rw [if_pos c] at h
      refine x_iconst (-1) dX11_tie_29 (by decide) ?_
      obtain rfl := Option.some.inj h
      exact y_iret rfl dX11_tie_30
    · rw [if_neg c] at h
      refine x_aload_n dX11_tie_18 0 rfl ?_
      refine y_getr (kd := 10) hS fl_RX11_10 dX11_tie_19 rfl k0 ?_
      refine x_iload_n dX11_tie_22 3 rfl ?_
      refine xbnd_e h (fun q3 e3 h => ?_)
      refine y_callVi (As := [.int v3]) (q := q3) cv_RX11_105 dX11_tie_23 ((hS.f k0 0 10 rfl).2) rfl (Nat.le_of_ble_eq_true rfl) (by omega) (S_X10_has hS ((hS.f k0 0 10 rfl).2) e3) ?_
      refine x_if_ne 31 dX11_tie_26 (by decide) (fun c => ?_) (fun c => ?_)
      · rw [if_neg c] at h
        refine x_aload_n dX11_tie_31 0 rfl ?_
        refine xbnd_e h (fun q4 e4 h => ?_)
        refine y_callVv (As := []) (q := q4) cv_RX11_96 dX11_tie_32 k0 rfl (Nat.le_of_ble_eq_true rfl) (by omega) (S_X11_worldsEdited hS k0 e4) ?_
        refine x_aload_n dX11_tie_35 0 rfl ?_
        refine y_getr (kd := 10) hS fl_RX11_10 dX11_tie_36 rfl k0 ?_
        refine x_iload_n dX11_tie_39 1 rfl ?_
        refine x_iconst 1 dX11_tie_40 (by decide) ?_
        refine x_isub dX11_tie_41 ?_
        refine x_iload_n dX11_tie_42 2 rfl ?_
        refine x_iload_n dX11_tie_43 3 rfl ?_
        refine xbnd_e h (fun q5 e5 h => ?_)
        refine y_callVi (As := [.int (v1 - 1), .int v2, .int v3]) (q := q5) cv_RX11_108 dX11_tie_44 ((hS.f k0 0 10 rfl).2) rfl (Nat.le_of_ble_eq_true rfl) (by omega) (S_X10_merge hS ((hS.f k0 0 10 rfl).2) e5) ?_
        obtain rfl := Option.some.inj h
        exact y_iret rfl dX11_tie_47
      · rw [if_pos c] at h
        refine x_iconst (-1) dX11_tie_29 (by decide) ?_
        obtain rfl := Option.some.inj h
        exact y_iret rfl dX11_tie_30

theorem dX11_alone_0 : decode cX11_alone 0 = .ok (.iload_n 1, 1) := by decide +kernel
theorem dX11_alone_1 : decode cX11_alone 1 = .ok (.invokestatic 102, 3) := by decide +kernel
theorem dX11_alone_4 : decode cX11_alone 4 = .ok (.ifCond .eq 14, 3) := by decide +kernel
theorem dX11_alone_7 : decode cX11_alone 7 = .ok (.aload_n 0, 1) := by decide +kernel
theorem dX11_alone_8 : decode cX11_alone 8 = .ok (.getfield 10, 3) := by decide +kernel
theorem dX11_alone_11 : decode cX11_alone 11 = .ok (.iload_n 2, 1) := by decide +kernel
theorem dX11_alone_12 : decode cX11_alone 12 = .ok (.invokevirtual 105, 3) := by decide +kernel
theorem dX11_alone_15 : decode cX11_alone 15 = .ok (.ifCond .ne 5, 3) := by decide +kernel
theorem dX11_alone_18 : decode cX11_alone 18 = .ok (.iconst (-1), 1) := by decide +kernel
theorem dX11_alone_19 : decode cX11_alone 19 = .ok (.ireturn, 1) := by decide +kernel
theorem dX11_alone_20 : decode cX11_alone 20 = .ok (.aload_n 0, 1) := by decide +kernel
theorem dX11_alone_21 : decode cX11_alone 21 = .ok (.invokevirtual 96, 3) := by decide +kernel
theorem dX11_alone_24 : decode cX11_alone 24 = .ok (.aload_n 0, 1) := by decide +kernel
theorem dX11_alone_25 : decode cX11_alone 25 = .ok (.getfield 10, 3) := by decide +kernel
theorem dX11_alone_28 : decode cX11_alone 28 = .ok (.iload_n 1, 1) := by decide +kernel
theorem dX11_alone_29 : decode cX11_alone 29 = .ok (.iconst 1, 1) := by decide +kernel
theorem dX11_alone_30 : decode cX11_alone 30 = .ok (.isub, 1) := by decide +kernel
theorem dX11_alone_31 : decode cX11_alone 31 = .ok (.iload_n 2, 1) := by decide +kernel
theorem dX11_alone_32 : decode cX11_alone 32 = .ok (.invokevirtual 112, 3) := by decide +kernel
theorem dX11_alone_35 : decode cX11_alone 35 = .ok (.ireturn, 1) := by decide +kernel
def f_X11_alone (F P : Nat) (S : xSt) (v0 : Nat) (v1 : Int32) (v2 : Int32) (D : xDt) : Option (Int32 × xDt) :=
  (f_X11_isAgent F P S v1 D).bind fun q1 => if q1.1 = 0 then (some ((-1), q1.2)) else ((f_X10_has F P S (xr S v0 0) v2 q1.2).bind fun q2 => if q2.1 = 0 then (some ((-1), q2.2)) else ((f_X11_worldsEdited F P S v0 q2.2).bind fun q3 => (f_X10_part F P S (xr S v0 0) (v1 - 1) v2 q3).bind fun q4 => some (q4.1, q4.2)))
set_option maxHeartbeats 4000000 in
theorem S_X11_alone {F P : Nat} {S : xSt} (hS : xWF S) {v0 : Nat} {v1 : Int32} {v2 : Int32} {D : xDt} {r : Int32 × xDt} (k0 : xK S v0 11) (h : f_X11_alone F P S v0 v1 v2 D = some r) : xSp md_X11_alone (2, 0, 0) [.ref v0, .int v1, .int v2] (S, D) (xQi S r) := by
  unfold f_X11_alone at h
  refine xEntry (by decide) (Nat.le_of_ble_eq_true rfl) ?_
  refine x_lv (lv' := [(0, .ref v0), (1, .int v1), (2, .int v2)]) [0, 1, 2] rfl ?_
  refine x_iload_n dX11_alone_0 1 rfl ?_
  refine xbnd_e h (fun q1 e1 h => ?_)
  refine y_callSi (As := [.int v1]) (q := q1) cs_RX11_102 dX11_alone_1 rfl (Nat.le_of_ble_eq_true rfl) (by omega) (S_X11_isAgent hS e1) ?_
  refine x_if_eq 18 dX11_alone_4 (by decide) (fun c => ?_) (fun c => ?_)
  · rw [if_pos c] at h
    refine x_iconst (-1) dX11_alone_18 (by decide) ?_
    obtain rfl := Option.some.inj h
    exact y_iret rfl dX11_alone_19
  · rw [if_neg c] at h
    refine x_aload_n dX11_alone_7 0 rfl ?_
    refine y_getr (kd := 10) hS fl_RX11_10 dX11_alone_8 rfl k0 ?_
    refine x_iload_n dX11_alone_11 2 rfl ?_
    refine xbnd_e h (fun q2 e2 h => ?_)
    refine y_callVi (As := [.int v2]) (q := q2) cv_RX11_105 dX11_alone_12 ((hS.f k0 0 10 rfl).2) rfl (Nat.le_of_ble_eq_true rfl) (by omega) (S_X10_has hS ((hS.f k0 0 10 rfl).2) e2) ?_
    refine x_if_ne 20 dX11_alone_15 (by decide) (fun c => ?_) (fun c => ?_)
    · rw [if_neg c] at h
      refine x_aload_n dX11_alone_20 0 rfl ?_
      refine xbnd_e h (fun q3 e3 h => ?_)
      refine y_callVv (As := []) (q := q3) cv_RX11_96 dX11_alone_21 k0 rfl (Nat.le_of_ble_eq_true rfl) (by omega) (S_X11_worldsEdited hS k0 e3) ?_
      refine x_aload_n dX11_alone_24 0 rfl ?_
      refine y_getr (kd := 10) hS fl_RX11_10 dX11_alone_25 rfl k0 ?_
      refine x_iload_n dX11_alone_28 1 rfl ?_
      refine x_iconst 1 dX11_alone_29 (by decide) ?_
      refine x_isub dX11_alone_30 ?_
      refine x_iload_n dX11_alone_31 2 rfl ?_
      refine xbnd_e h (fun q4 e4 h => ?_)
      refine y_callVi (As := [.int (v1 - 1), .int v2]) (q := q4) cv_RX11_112 dX11_alone_32 ((hS.f k0 0 10 rfl).2) rfl (Nat.le_of_ble_eq_true rfl) (by omega) (S_X10_part hS ((hS.f k0 0 10 rfl).2) e4) ?_
      obtain rfl := Option.some.inj h
      exact y_iret rfl dX11_alone_35
    · rw [if_pos c] at h
      refine x_iconst (-1) dX11_alone_18 (by decide) ?_
      obtain rfl := Option.some.inj h
      exact y_iret rfl dX11_alone_19

theorem dX11_isAtom_0 : decode cX11_isAtom 0 = .ok (.iload_n 0, 1) := by decide +kernel
theorem dX11_isAtom_1 : decode cX11_isAtom 1 = .ok (.ifCond .lt 13, 3) := by decide +kernel
theorem dX11_isAtom_4 : decode cX11_isAtom 4 = .ok (.iload_n 0, 1) := by decide +kernel
theorem dX11_isAtom_5 : decode cX11_isAtom 5 = .ok (.bipush 8, 2) := by decide +kernel
theorem dX11_isAtom_7 : decode cX11_isAtom 7 = .ok (.if_icmp .ge 7, 3) := by decide +kernel
theorem dX11_isAtom_10 : decode cX11_isAtom 10 = .ok (.iconst 1, 1) := by decide +kernel
theorem dX11_isAtom_11 : decode cX11_isAtom 11 = .ok (.goto 4, 3) := by decide +kernel
theorem dX11_isAtom_14 : decode cX11_isAtom 14 = .ok (.iconst 0, 1) := by decide +kernel
theorem dX11_isAtom_15 : decode cX11_isAtom 15 = .ok (.ireturn, 1) := by decide +kernel
def f_X11_isAtom_14 (F P : Nat) (S : xSt) (D : xDt) : Option (Int32 × xDt) :=
  some (0, D)
set_option maxHeartbeats 4000000 in
theorem t_X11_isAtom_14 {F P : Nat} {S : xSt} (hS : xWF S) {D : xDt} {r : Int32 × xDt} (h : f_X11_isAtom_14 F P S D = some r) : yEx md_X11_isAtom 0 14 [] [] S D (xQi S r) := by
  unfold f_X11_isAtom_14 at h
  refine x_iconst 0 dX11_isAtom_14 (by decide) ?_
  obtain rfl := Option.some.inj h
  exact y_zret rfl rfl dX11_isAtom_15

def f_X11_isAtom (F P : Nat) (S : xSt) (v0 : Int32) (D : xDt) : Option (Int32 × xDt) :=
  if v0 < 0 then (f_X11_isAtom_14 F P S D) else (if 8 ≤ v0 then (f_X11_isAtom_14 F P S D) else (some (1, D)))
set_option maxHeartbeats 4000000 in
theorem S_X11_isAtom {F P : Nat} {S : xSt} (hS : xWF S) {v0 : Int32} {D : xDt} {r : Int32 × xDt} (h : f_X11_isAtom F P S v0 D = some r) : xSp md_X11_isAtom (0, 0, 0) [.int v0] (S, D) (xQi S r) := by
  unfold f_X11_isAtom at h
  refine xEntry (by decide) (Nat.le_of_ble_eq_true rfl) ?_
  refine x_lv (lv' := [(0, .int v0)]) [0] rfl ?_
  refine x_iload_n dX11_isAtom_0 0 rfl ?_
  refine x_if_lt 14 dX11_isAtom_1 (by decide) (fun c => ?_) (fun c => ?_)
  · rw [if_pos c] at h
    refine x_lv (lv' := []) [] rfl ?_
    exact t_X11_isAtom_14 hS h
  · rw [if_neg c] at h
    refine x_iload_n dX11_isAtom_4 0 rfl ?_
    refine x_bipush 8 dX11_isAtom_5 (by decide) ?_
    refine x_icmp_ge 14 dX11_isAtom_7 (by decide) (fun c => ?_) (fun c => ?_)
    · rw [if_pos c] at h
      refine x_lv (lv' := []) [] rfl ?_
      exact t_X11_isAtom_14 hS h
    · rw [if_neg c] at h
      refine x_iconst 1 dX11_isAtom_10 (by decide) ?_
      refine x_goto 15 dX11_isAtom_11 (by decide) ?_
      obtain rfl := Option.some.inj h
      exact y_zret rfl rfl dX11_isAtom_15

theorem dX11_atom_0 : decode cX11_atom 0 = .ok (.aload_n 0, 1) := by decide +kernel
theorem dX11_atom_1 : decode cX11_atom 1 = .ok (.getfield 10, 3) := by decide +kernel
theorem dX11_atom_4 : decode cX11_atom 4 = .ok (.iload_n 1, 1) := by decide +kernel
theorem dX11_atom_5 : decode cX11_atom 5 = .ok (.invokevirtual 105, 3) := by decide +kernel
theorem dX11_atom_8 : decode cX11_atom 8 = .ok (.ifCond .eq 10, 3) := by decide +kernel
theorem dX11_atom_11 : decode cX11_atom 11 = .ok (.iload_n 2, 1) := by decide +kernel
theorem dX11_atom_12 : decode cX11_atom 12 = .ok (.invokestatic 116, 3) := by decide +kernel
theorem dX11_atom_15 : decode cX11_atom 15 = .ok (.ifCond .ne 5, 3) := by decide +kernel
theorem dX11_atom_18 : decode cX11_atom 18 = .ok (.iconst (-1), 1) := by decide +kernel
theorem dX11_atom_19 : decode cX11_atom 19 = .ok (.ireturn, 1) := by decide +kernel
theorem dX11_atom_20 : decode cX11_atom 20 = .ok (.aload_n 0, 1) := by decide +kernel
theorem dX11_atom_21 : decode cX11_atom 21 = .ok (.invokevirtual 96, 3) := by decide +kernel
theorem dX11_atom_24 : decode cX11_atom 24 = .ok (.aload_n 0, 1) := by decide +kernel
theorem dX11_atom_25 : decode cX11_atom 25 = .ok (.getfield 10, 3) := by decide +kernel
theorem dX11_atom_28 : decode cX11_atom 28 = .ok (.getfield 119, 3) := by decide +kernel
theorem dX11_atom_31 : decode cX11_atom 31 = .ok (.iload_n 2, 1) := by decide +kernel
theorem dX11_atom_32 : decode cX11_atom 32 = .ok (.laload, 1) := by decide +kernel
theorem dX11_atom_33 : decode cX11_atom 33 = .ok (.iload_n 1, 1) := by decide +kernel
theorem dX11_atom_34 : decode cX11_atom 34 = .ok (.lushr, 1) := by decide +kernel
theorem dX11_atom_35 : decode cX11_atom 35 = .ok (.lconst 1, 1) := by decide +kernel
theorem dX11_atom_36 : decode cX11_atom 36 = .ok (.land, 1) := by decide +kernel
theorem dX11_atom_37 : decode cX11_atom 37 = .ok (.l2i, 1) := by decide +kernel
theorem dX11_atom_38 : decode cX11_atom 38 = .ok (.istore 4, 2) := by decide +kernel
theorem dX11_atom_40 : decode cX11_atom 40 = .ok (.aload_n 0, 1) := by decide +kernel
theorem dX11_atom_41 : decode cX11_atom 41 = .ok (.getfield 10, 3) := by decide +kernel
theorem dX11_atom_44 : decode cX11_atom 44 = .ok (.iload_n 1, 1) := by decide +kernel
theorem dX11_atom_45 : decode cX11_atom 45 = .ok (.iload_n 2, 1) := by decide +kernel
theorem dX11_atom_46 : decode cX11_atom 46 = .ok (.iload_n 3, 1) := by decide +kernel
theorem dX11_atom_47 : decode cX11_atom 47 = .ok (.invokevirtual 123, 3) := by decide +kernel
theorem dX11_atom_50 : decode cX11_atom 50 = .ok (.iload 4, 2) := by decide +kernel
theorem dX11_atom_52 : decode cX11_atom 52 = .ok (.ireturn, 1) := by decide +kernel
def f_X11_atom (F P : Nat) (S : xSt) (v0 : Nat) (v1 : Int32) (v2 : Int32) (v3 : Int32) (D : xDt) : Option (Int32 × xDt) :=
  (f_X10_has F P S (xr S v0 0) v1 D).bind fun q1 => if q1.1 = 0 then (some ((-1), q1.2)) else ((f_X11_isAtom F P S v2 q1.2).bind fun q2 => if q2.1 = 0 then (some ((-1), q2.2)) else ((f_X11_worldsEdited F P S v0 q2.2).bind fun q3 => xgrd (xin v2 (xl S (xr S (xr S v0 0) 1))) (xlet (((jlushr (q3.2 (xr S (xr S v0 0) 1) (v2).toNatClampNeg) v1) &&& 1).toInt32) fun v4_5 => (f_X10_setAtom F P S (xr S v0 0) v1 v2 v3 q3).bind fun q6 => some (v4_5, q6))))
set_option maxHeartbeats 4000000 in
theorem S_X11_atom {F P : Nat} {S : xSt} (hS : xWF S) {v0 : Nat} {v1 : Int32} {v2 : Int32} {v3 : Int32} {D : xDt} {r : Int32 × xDt} (k0 : xK S v0 11) (h : f_X11_atom F P S v0 v1 v2 v3 D = some r) : xSp md_X11_atom (1, 0, 0) [.ref v0, .int v1, .int v2, .int v3] (S, D) (xQi S r) := by
  unfold f_X11_atom at h
  refine xEntry (by decide) (Nat.le_of_ble_eq_true rfl) ?_
  refine x_lv (lv' := [(0, .ref v0), (1, .int v1), (2, .int v2), (3, .int v3)]) [0, 1, 2, 3] rfl ?_
  refine x_aload_n dX11_atom_0 0 rfl ?_
  refine y_getr (kd := 10) hS fl_RX11_10 dX11_atom_1 rfl k0 ?_
  refine x_iload_n dX11_atom_4 1 rfl ?_
  refine xbnd_e h (fun q1 e1 h => ?_)
  refine y_callVi (As := [.int v1]) (q := q1) cv_RX11_105 dX11_atom_5 ((hS.f k0 0 10 rfl).2) rfl (Nat.le_of_ble_eq_true rfl) (by omega) (S_X10_has hS ((hS.f k0 0 10 rfl).2) e1) ?_
  refine x_if_eq 18 dX11_atom_8 (by decide) (fun c => ?_) (fun c => ?_)
  · rw [if_pos c] at h
    refine x_iconst (-1) dX11_atom_18 (by decide) ?_
    obtain rfl := Option.some.inj h
    exact y_iret rfl dX11_atom_19
  · rw [if_neg c] at h
    refine x_iload_n dX11_atom_11 2 rfl ?_
    refine xbnd_e h (fun q2 e2 h => ?_)
    refine y_callSi (As := [.int v2]) (q := q2) cs_RX11_116 dX11_atom_12 rfl (Nat.le_of_ble_eq_true rfl) (by omega) (S_X11_isAtom hS e2) ?_
    refine x_if_ne 20 dX11_atom_15 (by decide) (fun c => ?_) (fun c => ?_)
    · rw [if_neg c] at h
      refine x_aload_n dX11_atom_20 0 rfl ?_
      refine xbnd_e h (fun q3 e3 h => ?_)
      refine y_callVv (As := []) (q := q3) cv_RX11_96 dX11_atom_21 k0 rfl (Nat.le_of_ble_eq_true rfl) (by omega) (S_X11_worldsEdited hS k0 e3) ?_
      refine x_aload_n dX11_atom_24 0 rfl ?_
      refine y_getr (kd := 10) hS fl_RX11_10 dX11_atom_25 rfl k0 ?_
      refine y_getr (kd := 101) hS fl_RX11_119 dX11_atom_28 rfl ((hS.f k0 0 10 rfl).2) ?_
      refine x_iload_n dX11_atom_31 2 rfl ?_
      refine xgrd_e h (fun g4 h => ?_)
      refine y_lald dX11_atom_32 ((hS.f ((hS.f k0 0 10 rfl).2) 1 101 rfl).2) g4 ?_
      refine x_iload_n dX11_atom_33 1 rfl ?_
      refine x_lushr dX11_atom_34 ?_
      refine x_lconst 1 dX11_atom_35 (by decide) ?_
      refine x_land dX11_atom_36 ?_
      refine x_l2i dX11_atom_37 ?_
      refine xlet_e h (fun v4_5 ev4_5 h => ?_)
      refine y_istore v4_5 ev4_5 [(4, .int v4_5), (0, .ref v0), (1, .int v1), (2, .int v2), (3, .int v3)] dX11_atom_38 (by show _ < 5; decide) rfl ?_
      refine x_aload_n dX11_atom_40 1 rfl ?_
      refine y_getr (kd := 10) hS fl_RX11_10 dX11_atom_41 rfl k0 ?_
      refine x_iload_n dX11_atom_44 2 rfl ?_
      refine x_iload_n dX11_atom_45 3 rfl ?_
      refine x_iload_n dX11_atom_46 4 rfl ?_
      refine xbnd_e h (fun q6 e6 h => ?_)
      refine y_callVv (As := [.int v1, .int v2, .int v3]) (q := q6) cv_RX11_123 dX11_atom_47 ((hS.f k0 0 10 rfl).2) rfl (Nat.le_of_ble_eq_true rfl) (by omega) (S_X10_setAtom hS ((hS.f k0 0 10 rfl).2) e6) ?_
      refine x_iload dX11_atom_50 0 rfl ?_
      obtain rfl := Option.some.inj h
      exact y_iret rfl dX11_atom_52
    · rw [if_pos c] at h
      refine x_iconst (-1) dX11_atom_18 (by decide) ?_
      obtain rfl := Option.some.inj h
      exact y_iret rfl dX11_atom_19

theorem dX11_told_0 : decode cX11_told 0 = .ok (.aload_n 0, 1) := by decide +kernel
theorem dX11_told_1 : decode cX11_told 1 = .ok (.getfield 10, 3) := by decide +kernel
theorem dX11_told_4 : decode cX11_told 4 = .ok (.iload_n 1, 1) := by decide +kernel
theorem dX11_told_5 : decode cX11_told 5 = .ok (.invokevirtual 105, 3) := by decide +kernel
theorem dX11_told_8 : decode cX11_told 8 = .ok (.ifCond .eq 12, 3) := by decide +kernel
theorem dX11_told_11 : decode cX11_told 11 = .ok (.iload_n 2, 1) := by decide +kernel
theorem dX11_told_12 : decode cX11_told 12 = .ok (.ifCond .lt 8, 3) := by decide +kernel
theorem dX11_told_15 : decode cX11_told 15 = .ok (.iload_n 2, 1) := by decide +kernel
theorem dX11_told_16 : decode cX11_told 16 = .ok (.iconst 4, 1) := by decide +kernel
theorem dX11_told_17 : decode cX11_told 17 = .ok (.if_icmp .le 5, 3) := by decide +kernel
theorem dX11_told_20 : decode cX11_told 20 = .ok (.iconst (-1), 1) := by decide +kernel
theorem dX11_told_21 : decode cX11_told 21 = .ok (.ireturn, 1) := by decide +kernel
theorem dX11_told_22 : decode cX11_told 22 = .ok (.iload_n 2, 1) := by decide +kernel
theorem dX11_told_23 : decode cX11_told 23 = .ok (.ifCond .ne 14, 3) := by decide +kernel
theorem dX11_told_26 : decode cX11_told 26 = .ok (.aload_n 0, 1) := by decide +kernel
theorem dX11_told_27 : decode cX11_told 27 = .ok (.getfield 10, 3) := by decide +kernel
theorem dX11_told_30 : decode cX11_told 30 = .ok (.iload_n 1, 1) := by decide +kernel
theorem dX11_told_31 : decode cX11_told 31 = .ok (.invokevirtual 127, 3) := by decide +kernel
theorem dX11_told_34 : decode cX11_told 34 = .ok (.goto 17, 3) := by decide +kernel
theorem dX11_told_37 : decode cX11_told 37 = .ok (.aload_n 0, 1) := by decide +kernel
theorem dX11_told_38 : decode cX11_told 38 = .ok (.getfield 10, 3) := by decide +kernel
theorem dX11_told_41 : decode cX11_told 41 = .ok (.iload_n 2, 1) := by decide +kernel
theorem dX11_told_42 : decode cX11_told 42 = .ok (.iconst 1, 1) := by decide +kernel
theorem dX11_told_43 : decode cX11_told 43 = .ok (.isub, 1) := by decide +kernel
theorem dX11_told_44 : decode cX11_told 44 = .ok (.iload_n 1, 1) := by decide +kernel
theorem dX11_told_45 : decode cX11_told 45 = .ok (.invokevirtual 130, 3) := by decide +kernel
theorem dX11_told_48 : decode cX11_told 48 = .ok (.invokestatic 134, 3) := by decide +kernel
theorem dX11_told_51 : decode cX11_told 51 = .ok (.ireturn, 1) := by decide +kernel
def f_X11_told (F P : Nat) (S : xSt) (v0 : Nat) (v1 : Int32) (v2 : Int32) (D : xDt) : Option (Int32 × xDt) :=
  (f_X10_has F P S (xr S v0 0) v1 D).bind fun q1 => if q1.1 = 0 then (some ((-1), q1.2)) else (if v2 < 0 then (some ((-1), q1.2)) else (if v2 ≤ 4 then (if v2 = 0 then ((f_X10_atomsOf F P S (xr S v0 0) v1 q1.2).bind fun q4 => some (q4.1, q4.2)) else ((f_X10_cell F P S (xr S v0 0) (v2 - 1) v1 q1.2).bind fun q2 => (f_X11_lowest F P S q2.1 q2.2).bind fun q3 => some (q3.1, q3.2))) else (some ((-1), q1.2))))
set_option maxHeartbeats 4000000 in
theorem S_X11_told {F P : Nat} {S : xSt} (hS : xWF S) {v0 : Nat} {v1 : Int32} {v2 : Int32} {D : xDt} {r : Int32 × xDt} (k0 : xK S v0 11) (h : f_X11_told F P S v0 v1 v2 D = some r) : xSp md_X11_told (2, 0, 0) [.ref v0, .int v1, .int v2] (S, D) (xQi S r) := by
  unfold f_X11_told at h
  refine xEntry (by decide) (Nat.le_of_ble_eq_true rfl) ?_
  refine x_lv (lv' := [(0, .ref v0), (1, .int v1), (2, .int v2)]) [0, 1, 2] rfl ?_
  refine x_aload_n dX11_told_0 0 rfl ?_
  refine y_getr (kd := 10) hS fl_RX11_10 dX11_told_1 rfl k0 ?_
  refine x_iload_n dX11_told_4 1 rfl ?_
  refine xbnd_e h (fun q1 e1 h => ?_)
  refine y_callVi (As := [.int v1]) (q := q1) cv_RX11_105 dX11_told_5 ((hS.f k0 0 10 rfl).2) rfl (Nat.le_of_ble_eq_true rfl) (by omega) (S_X10_has hS ((hS.f k0 0 10 rfl).2) e1) ?_
  refine x_if_eq 20 dX11_told_8 (by decide) (fun c => ?_) (fun c => ?_)
  · rw [if_pos c] at h
    refine x_iconst (-1) dX11_told_20 (by decide) ?_
    obtain rfl := Option.some.inj h
    exact y_iret rfl dX11_told_21
  · rw [if_neg c] at h
    refine x_iload_n dX11_told_11 2 rfl ?_
    refine x_if_lt 20 dX11_told_12 (by decide) (fun c => ?_) (fun c => ?_)
    · rw [if_pos c] at h
      refine x_iconst (-1) dX11_told_20 (by decide) ?_
      obtain rfl := Option.some.inj h
      exact y_iret rfl dX11_told_21
    · rw [if_neg c] at h
      refine x_iload_n dX11_told_15 2 rfl ?_
      refine x_iconst 4 dX11_told_16 (by decide) ?_
      refine x_icmp_le 22 dX11_told_17 (by decide) (fun c => ?_) (fun c => ?_)
      · rw [if_pos c] at h
        refine x_iload_n dX11_told_22 2 rfl ?_
        refine x_if_ne 37 dX11_told_23 (by decide) (fun c => ?_) (fun c => ?_)
        · rw [if_neg c] at h
          refine x_aload_n dX11_told_37 0 rfl ?_
          refine y_getr (kd := 10) hS fl_RX11_10 dX11_told_38 rfl k0 ?_
          refine x_iload_n dX11_told_41 2 rfl ?_
          refine x_iconst 1 dX11_told_42 (by decide) ?_
          refine x_isub dX11_told_43 ?_
          refine x_iload_n dX11_told_44 1 rfl ?_
          refine xbnd_e h (fun q2 e2 h => ?_)
          refine y_callVl (As := [.int (v2 - 1), .int v1]) (q := q2) cv_RX11_130 dX11_told_45 ((hS.f k0 0 10 rfl).2) rfl (Nat.le_of_ble_eq_true rfl) (by omega) (S_X10_cell hS ((hS.f k0 0 10 rfl).2) e2) ?_
          refine xbnd_e h (fun q3 e3 h => ?_)
          refine y_callSi (As := [.long q2.1]) (q := q3) cs_RX11_134 dX11_told_48 rfl (Nat.le_of_ble_eq_true rfl) (by omega) (S_X11_lowest hS e3) ?_
          obtain rfl := Option.some.inj h
          exact y_iret rfl dX11_told_51
        · rw [if_pos c] at h
          refine x_aload_n dX11_told_26 0 rfl ?_
          refine y_getr (kd := 10) hS fl_RX11_10 dX11_told_27 rfl k0 ?_
          refine x_iload_n dX11_told_30 1 rfl ?_
          refine xbnd_e h (fun q4 e4 h => ?_)
          refine y_callVi (As := [.int v1]) (q := q4) cv_RX11_127 dX11_told_31 ((hS.f k0 0 10 rfl).2) rfl (Nat.le_of_ble_eq_true rfl) (by omega) (S_X10_atomsOf hS ((hS.f k0 0 10 rfl).2) e4) ?_
          refine x_goto 51 dX11_told_34 (by decide) ?_
          obtain rfl := Option.some.inj h
          exact y_iret rfl dX11_told_51
      · rw [if_neg c] at h
        refine x_iconst (-1) dX11_told_20 (by decide) ?_
        obtain rfl := Option.some.inj h
        exact y_iret rfl dX11_told_21

theorem dX11_type_0 : decode cX11_type 0 = .ok (.aload_n 0, 1) := by decide +kernel
theorem dX11_type_1 : decode cX11_type 1 = .ok (.getfield 33, 3) := by decide +kernel
theorem dX11_type_4 : decode cX11_type 4 = .ok (.iload_n 1, 1) := by decide +kernel
theorem dX11_type_5 : decode cX11_type 5 = .ok (.invokevirtual 138, 3) := by decide +kernel
theorem dX11_type_8 : decode cX11_type 8 = .ok (.ireturn, 1) := by decide +kernel
def f_X11_type (F P : Nat) (S : xSt) (v0 : Nat) (v1 : Int32) (D : xDt) : Option (Int32 × xDt) :=
  (f_X6_collect F P S (xr S v0 3) v1 D).bind fun q1 => some (q1.1, q1.2)
set_option maxHeartbeats 4000000 in
theorem S_X11_type {F P : Nat} {S : xSt} (hS : xWF S) {v0 : Nat} {v1 : Int32} {D : xDt} {r : Int32 × xDt} (k0 : xK S v0 11) (h : f_X11_type F P S v0 v1 D = some r) : xSp md_X11_type (2, 0, 0) [.ref v0, .int v1] (S, D) (xQi S r) := by
  unfold f_X11_type at h
  refine xEntry (by decide) (Nat.le_of_ble_eq_true rfl) ?_
  refine x_lv (lv' := [(0, .ref v0), (1, .int v1)]) [0, 1] rfl ?_
  refine x_aload_n dX11_type_0 0 rfl ?_
  refine y_getr (kd := 6) hS fl_RX11_33 dX11_type_1 rfl k0 ?_
  refine x_iload_n dX11_type_4 1 rfl ?_
  refine xbnd_e h (fun q1 e1 h => ?_)
  refine y_callVi (As := [.int v1]) (q := q1) cv_RX11_138 dX11_type_5 ((hS.f k0 3 6 rfl).2) rfl (Nat.le_of_ble_eq_true rfl) (by omega) (S_X6_collect hS ((hS.f k0 3 6 rfl).2) e1) ?_
  obtain rfl := Option.some.inj h
  exact y_iret rfl dX11_type_8

theorem dX11_four_0 : decode cX11_four 0 = .ok (.aload_n 0, 1) := by decide +kernel
theorem dX11_four_1 : decode cX11_four 1 = .ok (.getfield 33, 3) := by decide +kernel
theorem dX11_four_4 : decode cX11_four 4 = .ok (.iload_n 1, 1) := by decide +kernel
theorem dX11_four_5 : decode cX11_four 5 = .ok (.invokevirtual 141, 3) := by decide +kernel
theorem dX11_four_8 : decode cX11_four 8 = .ok (.ireturn, 1) := by decide +kernel
def f_X11_four (F P : Nat) (S : xSt) (v0 : Nat) (v1 : Int32) (D : xDt) : Option (Int32 × xDt) :=
  (f_X6_collectFour F P S (xr S v0 3) v1 D).bind fun q1 => some (q1.1, q1.2)
set_option maxHeartbeats 4000000 in
theorem S_X11_four {F P : Nat} {S : xSt} (hS : xWF S) {v0 : Nat} {v1 : Int32} {D : xDt} {r : Int32 × xDt} (k0 : xK S v0 11) (h : f_X11_four F P S v0 v1 D = some r) : xSp md_X11_four (3, 0, 0) [.ref v0, .int v1] (S, D) (xQi S r) := by
  unfold f_X11_four at h
  refine xEntry (by decide) (Nat.le_of_ble_eq_true rfl) ?_
  refine x_lv (lv' := [(0, .ref v0), (1, .int v1)]) [0, 1] rfl ?_
  refine x_aload_n dX11_four_0 0 rfl ?_
  refine y_getr (kd := 6) hS fl_RX11_33 dX11_four_1 rfl k0 ?_
  refine x_iload_n dX11_four_4 1 rfl ?_
  refine xbnd_e h (fun q1 e1 h => ?_)
  refine y_callVi (As := [.int v1]) (q := q1) cv_RX11_141 dX11_four_5 ((hS.f k0 3 6 rfl).2) rfl (Nat.le_of_ble_eq_true rfl) (by omega) (S_X6_collectFour hS ((hS.f k0 3 6 rfl).2) e1) ?_
  obtain rfl := Option.some.inj h
  exact y_iret rfl dX11_four_8

theorem dX11_handChanged_0 : decode cX11_handChanged 0 = .ok (.aload_n 0, 1) := by decide +kernel
theorem dX11_handChanged_1 : decode cX11_handChanged 1 = .ok (.iconst 0, 1) := by decide +kernel
theorem dX11_handChanged_2 : decode cX11_handChanged 2 = .ok (.putfield 211, 3) := by decide +kernel
theorem dX11_handChanged_5 : decode cX11_handChanged 5 = .ok (.aload_n 0, 1) := by decide +kernel
theorem dX11_handChanged_6 : decode cX11_handChanged 6 = .ok (.iconst 0, 1) := by decide +kernel
theorem dX11_handChanged_7 : decode cX11_handChanged 7 = .ok (.putfield 232, 3) := by decide +kernel
theorem dX11_handChanged_10 : decode cX11_handChanged 10 = .ok (.return_, 1) := by decide +kernel
def f_X11_handChanged (F P : Nat) (S : xSt) (v0 : Nat) (D : xDt) : Option (xDt) :=
  xlet (xup D.1 v0 13 0, D.2) fun D1 => xlet (xup D1.1 v0 14 0, D1.2) fun D2 => some D2
set_option maxHeartbeats 4000000 in
theorem S_X11_handChanged {F P : Nat} {S : xSt} (hS : xWF S) {v0 : Nat} {D : xDt} {r : xDt} (k0 : xK S v0 11) (h : f_X11_handChanged F P S v0 D = some r) : xSp md_X11_handChanged (0, 0, 0) [.ref v0] (S, D) (xQv S r) := by
  unfold f_X11_handChanged at h
  refine xEntry (by decide) (Nat.le_of_ble_eq_true rfl) ?_
  refine x_lv (lv' := [(0, .ref v0)]) [0] rfl ?_
  refine x_aload_n dX11_handChanged_0 0 rfl ?_
  refine x_iconst 0 dX11_handChanged_1 (by decide) ?_
  refine xlet_e h (fun D1 eD1 h => ?_)
  refine y_putz rfl fp_RX11_211 dX11_handChanged_2 rfl k0 eD1 ?_
  refine x_aload_n dX11_handChanged_5 0 rfl ?_
  refine x_iconst 0 dX11_handChanged_6 (by decide) ?_
  refine xlet_e h (fun D2 eD2 h => ?_)
  refine y_putz rfl fp_RX11_232 dX11_handChanged_7 rfl k0 eD2 ?_
  obtain rfl := Option.some.inj h
  exact y_vret rfl dX11_handChanged_10

theorem dX11_formula_0 : decode cX11_formula 0 = .ok (.aload_n 0, 1) := by decide +kernel
theorem dX11_formula_1 : decode cX11_formula 1 = .ok (.getfield 33, 3) := by decide +kernel
theorem dX11_formula_4 : decode cX11_formula 4 = .ok (.aload_n 0, 1) := by decide +kernel
theorem dX11_formula_5 : decode cX11_formula 5 = .ok (.getfield 42, 3) := by decide +kernel
theorem dX11_formula_8 : decode cX11_formula 8 = .ok (.invokevirtual 144, 3) := by decide +kernel
theorem dX11_formula_11 : decode cX11_formula 11 = .ok (.istore_n 1, 1) := by decide +kernel
theorem dX11_formula_12 : decode cX11_formula 12 = .ok (.iload_n 1, 1) := by decide +kernel
theorem dX11_formula_13 : decode cX11_formula 13 = .ok (.ifCond .le 7, 3) := by decide +kernel
theorem dX11_formula_16 : decode cX11_formula 16 = .ok (.aload_n 0, 1) := by decide +kernel
theorem dX11_formula_17 : decode cX11_formula 17 = .ok (.invokevirtual 148, 3) := by decide +kernel
theorem dX11_formula_20 : decode cX11_formula 20 = .ok (.iload_n 1, 1) := by decide +kernel
theorem dX11_formula_21 : decode cX11_formula 21 = .ok (.ireturn, 1) := by decide +kernel
def f_X11_formula (F P : Nat) (S : xSt) (v0 : Nat) (D : xDt) : Option (Int32 × xDt) :=
  (f_X6_read F P S (xr S v0 3) (xr S v0 4) D).bind fun q1 => if q1.1 ≤ 0 then (some (q1.1, q1.2)) else ((f_X11_handChanged F P S v0 q1.2).bind fun q2 => some (q1.1, q2))
set_option maxHeartbeats 4000000 in
theorem S_X11_formula {F P : Nat} {S : xSt} (hS : xWF S) {v0 : Nat} {D : xDt} {r : Int32 × xDt} (k0 : xK S v0 11) (h : f_X11_formula F P S v0 D = some r) : xSp md_X11_formula (6, 0, 0) [.ref v0] (S, D) (xQi S r) := by
  unfold f_X11_formula at h
  refine xEntry (by decide) (Nat.le_of_ble_eq_true rfl) ?_
  refine x_lv (lv' := [(0, .ref v0)]) [0] rfl ?_
  refine x_aload_n dX11_formula_0 0 rfl ?_
  refine y_getr (kd := 6) hS fl_RX11_33 dX11_formula_1 rfl k0 ?_
  refine x_aload_n dX11_formula_4 0 rfl ?_
  refine y_getr (kd := 2) hS fl_RX11_42 dX11_formula_5 rfl k0 ?_
  refine xbnd_e h (fun q1 e1 h => ?_)
  refine y_callVi (As := [.ref (xr S v0 4)]) (q := q1) cv_RX11_144 dX11_formula_8 ((hS.f k0 3 6 rfl).2) rfl (Nat.le_of_ble_eq_true rfl) (by omega) (S_X6_read hS ((hS.f k0 3 6 rfl).2) ((hS.f k0 4 2 rfl).2) e1) ?_
  refine y_istore_n q1.1 rfl [(1, .int q1.1), (0, .ref v0)] dX11_formula_11 (by show _ < 2; decide) rfl ?_
  refine x_iload_n dX11_formula_12 0 rfl ?_
  refine x_if_le 20 dX11_formula_13 (by decide) (fun c => ?_) (fun c => ?_)
  · rw [if_pos c] at h
    refine x_iload_n dX11_formula_20 0 rfl ?_
    obtain rfl := Option.some.inj h
    exact y_iret rfl dX11_formula_21
  · rw [if_neg c] at h
    refine x_aload_n dX11_formula_16 1 rfl ?_
    refine xbnd_e h (fun q2 e2 h => ?_)
    refine y_callVv (As := []) (q := q2) cv_RX11_148 dX11_formula_17 k0 rfl (Nat.le_of_ble_eq_true rfl) (by omega) (S_X11_handChanged hS k0 e2) ?_
    refine x_iload_n dX11_formula_20 0 rfl ?_
    obtain rfl := Option.some.inj h
    exact y_iret rfl dX11_formula_21

theorem dX11_truths_0 : decode cX11_truths 0 = .ok (.aload_n 0, 1) := by decide +kernel
theorem dX11_truths_1 : decode cX11_truths 1 = .ok (.getfield 211, 3) := by decide +kernel
theorem dX11_truths_4 : decode cX11_truths 4 = .ok (.ifCond .ne 27, 3) := by decide +kernel
theorem dX11_truths_7 : decode cX11_truths 7 = .ok (.aload_n 0, 1) := by decide +kernel
theorem dX11_truths_8 : decode cX11_truths 8 = .ok (.aload_n 0, 1) := by decide +kernel
theorem dX11_truths_9 : decode cX11_truths 9 = .ok (.getfield 56, 3) := by decide +kernel
theorem dX11_truths_12 : decode cX11_truths 12 = .ok (.aload_n 0, 1) := by decide +kernel
theorem dX11_truths_13 : decode cX11_truths 13 = .ok (.getfield 42, 3) := by decide +kernel
theorem dX11_truths_16 : decode cX11_truths 16 = .ok (.aload_n 0, 1) := by decide +kernel
theorem dX11_truths_17 : decode cX11_truths 17 = .ok (.getfield 10, 3) := by decide +kernel
theorem dX11_truths_20 : decode cX11_truths 20 = .ok (.invokevirtual 251, 3) := by decide +kernel
theorem dX11_truths_23 : decode cX11_truths 23 = .ok (.putfield 255, 3) := by decide +kernel
theorem dX11_truths_26 : decode cX11_truths 26 = .ok (.aload_n 0, 1) := by decide +kernel
theorem dX11_truths_27 : decode cX11_truths 27 = .ok (.iconst 1, 1) := by decide +kernel
theorem dX11_truths_28 : decode cX11_truths 28 = .ok (.putfield 211, 3) := by decide +kernel
theorem dX11_truths_31 : decode cX11_truths 31 = .ok (.aload_n 0, 1) := by decide +kernel
theorem dX11_truths_32 : decode cX11_truths 32 = .ok (.getfield 255, 3) := by decide +kernel
theorem dX11_truths_35 : decode cX11_truths 35 = .ok (.lreturn, 1) := by decide +kernel
def f_X11_truths (F P : Nat) (S : xSt) (v0 : Nat) (D : xDt) : Option (Int64 × xDt) :=
  if (D.1 v0 13) = 0 then ((f_X3_where F P S (xr S v0 6) (xr S v0 4) (xr S v0 0) D).bind fun q1 => xlet (q1.2.1, xup q1.2.2 v0 12 q1.1) fun D2 => xlet (xup D2.1 v0 13 1, D2.2) fun D3 => some (D3.2 v0 12, D3)) else (some (D.2 v0 12, D))
set_option maxHeartbeats 4000000 in
theorem S_X11_truths {F P : Nat} {S : xSt} (hS : xWF S) {v0 : Nat} {D : xDt} {r : Int64 × xDt} (k0 : xK S v0 11) (h : f_X11_truths F P S v0 D = some r) : xSp md_X11_truths (5, 0, 0) [.ref v0] (S, D) (xQl S r) := by
  unfold f_X11_truths at h
  refine xEntry (by decide) (Nat.le_of_ble_eq_true rfl) ?_
  refine x_lv (lv' := [(0, .ref v0)]) [0] rfl ?_
  refine x_aload_n dX11_truths_0 0 rfl ?_
  refine y_geti fl_RX11_211 dX11_truths_1 rfl k0 ?_
  refine x_if_ne 31 dX11_truths_4 (by decide) (fun c => ?_) (fun c => ?_)
  · rw [if_neg c] at h
    refine x_aload_n dX11_truths_31 0 rfl ?_
    refine y_getl fl_RX11_255 dX11_truths_32 rfl k0 ?_
    obtain rfl := Option.some.inj h
    exact y_lret rfl dX11_truths_35
  · rw [if_pos c] at h
    refine x_aload_n dX11_truths_7 0 rfl ?_
    refine x_aload_n dX11_truths_8 0 rfl ?_
    refine y_getr (kd := 3) hS fl_RX11_56 dX11_truths_9 rfl k0 ?_
    refine x_aload_n dX11_truths_12 0 rfl ?_
    refine y_getr (kd := 2) hS fl_RX11_42 dX11_truths_13 rfl k0 ?_
    refine x_aload_n dX11_truths_16 0 rfl ?_
    refine y_getr (kd := 10) hS fl_RX11_10 dX11_truths_17 rfl k0 ?_
    refine xbnd_e h (fun q1 e1 h => ?_)
    refine y_callVl (As := [.ref (xr S v0 4), .ref (xr S v0 0)]) (q := q1) cv_RX11_251 dX11_truths_20 ((hS.f k0 6 3 rfl).2) rfl (Nat.le_of_ble_eq_true rfl) (by omega) (S_X3_where hS ((hS.f k0 6 3 rfl).2) ((hS.f k0 4 2 rfl).2) ((hS.f k0 0 10 rfl).2) e1) ?_
    refine xlet_e h (fun D2 eD2 h => ?_)
    refine y_putl fp_RX11_255 dX11_truths_23 rfl k0 eD2 ?_
    refine x_aload_n dX11_truths_26 0 rfl ?_
    refine x_iconst 1 dX11_truths_27 (by decide) ?_
    refine xlet_e h (fun D3 eD3 h => ?_)
    refine y_putz rfl fp_RX11_211 dX11_truths_28 rfl k0 eD3 ?_
    refine x_aload_n dX11_truths_31 0 rfl ?_
    refine y_getl fl_RX11_255 dX11_truths_32 rfl k0 ?_
    obtain rfl := Option.some.inj h
    exact y_lret rfl dX11_truths_35

theorem dX11_holds_0 : decode cX11_holds 0 = .ok (.aload_n 0, 1) := by decide +kernel
theorem dX11_holds_1 : decode cX11_holds 1 = .ok (.getfield 10, 3) := by decide +kernel
theorem dX11_holds_4 : decode cX11_holds 4 = .ok (.iload_n 1, 1) := by decide +kernel
theorem dX11_holds_5 : decode cX11_holds 5 = .ok (.invokevirtual 105, 3) := by decide +kernel
theorem dX11_holds_8 : decode cX11_holds 8 = .ok (.ifCond .ne 5, 3) := by decide +kernel
theorem dX11_holds_11 : decode cX11_holds 11 = .ok (.iconst (-1), 1) := by decide +kernel
theorem dX11_holds_12 : decode cX11_holds 12 = .ok (.ireturn, 1) := by decide +kernel
theorem dX11_holds_13 : decode cX11_holds 13 = .ok (.aload_n 0, 1) := by decide +kernel
theorem dX11_holds_14 : decode cX11_holds 14 = .ok (.invokevirtual 151, 3) := by decide +kernel
theorem dX11_holds_17 : decode cX11_holds 17 = .ok (.iload_n 1, 1) := by decide +kernel
theorem dX11_holds_18 : decode cX11_holds 18 = .ok (.lushr, 1) := by decide +kernel
theorem dX11_holds_19 : decode cX11_holds 19 = .ok (.lconst 1, 1) := by decide +kernel
theorem dX11_holds_20 : decode cX11_holds 20 = .ok (.land, 1) := by decide +kernel
theorem dX11_holds_21 : decode cX11_holds 21 = .ok (.l2i, 1) := by decide +kernel
theorem dX11_holds_22 : decode cX11_holds 22 = .ok (.ireturn, 1) := by decide +kernel
def f_X11_holds (F P : Nat) (S : xSt) (v0 : Nat) (v1 : Int32) (D : xDt) : Option (Int32 × xDt) :=
  (f_X10_has F P S (xr S v0 0) v1 D).bind fun q1 => if q1.1 = 0 then (some ((-1), q1.2)) else ((f_X11_truths F P S v0 q1.2).bind fun q2 => some (((jlushr q2.1 v1) &&& 1).toInt32, q2.2))
set_option maxHeartbeats 4000000 in
theorem S_X11_holds {F P : Nat} {S : xSt} (hS : xWF S) {v0 : Nat} {v1 : Int32} {D : xDt} {r : Int32 × xDt} (k0 : xK S v0 11) (h : f_X11_holds F P S v0 v1 D = some r) : xSp md_X11_holds (6, 0, 0) [.ref v0, .int v1] (S, D) (xQi S r) := by
  unfold f_X11_holds at h
  refine xEntry (by decide) (Nat.le_of_ble_eq_true rfl) ?_
  refine x_lv (lv' := [(0, .ref v0), (1, .int v1)]) [0, 1] rfl ?_
  refine x_aload_n dX11_holds_0 0 rfl ?_
  refine y_getr (kd := 10) hS fl_RX11_10 dX11_holds_1 rfl k0 ?_
  refine x_iload_n dX11_holds_4 1 rfl ?_
  refine xbnd_e h (fun q1 e1 h => ?_)
  refine y_callVi (As := [.int v1]) (q := q1) cv_RX11_105 dX11_holds_5 ((hS.f k0 0 10 rfl).2) rfl (Nat.le_of_ble_eq_true rfl) (by omega) (S_X10_has hS ((hS.f k0 0 10 rfl).2) e1) ?_
  refine x_if_ne 13 dX11_holds_8 (by decide) (fun c => ?_) (fun c => ?_)
  · rw [if_neg c] at h
    refine x_aload_n dX11_holds_13 0 rfl ?_
    refine xbnd_e h (fun q2 e2 h => ?_)
    refine y_callVl (As := []) (q := q2) cv_RX11_151 dX11_holds_14 k0 rfl (Nat.le_of_ble_eq_true rfl) (by omega) (S_X11_truths hS k0 e2) ?_
    refine x_iload_n dX11_holds_17 1 rfl ?_
    refine x_lushr dX11_holds_18 ?_
    refine x_lconst 1 dX11_holds_19 (by decide) ?_
    refine x_land dX11_holds_20 ?_
    refine x_l2i dX11_holds_21 ?_
    obtain rfl := Option.some.inj h
    exact y_iret rfl dX11_holds_22
  · rw [if_pos c] at h
    refine x_iconst (-1) dX11_holds_11 (by decide) ?_
    obtain rfl := Option.some.inj h
    exact y_iret rfl dX11_holds_12

theorem dX11_worlds_0 : decode cX11_worlds 0 = .ok (.aload_n 0, 1) := by decide +kernel
theorem dX11_worlds_1 : decode cX11_worlds 1 = .ok (.invokevirtual 151, 3) := by decide +kernel
theorem dX11_worlds_4 : decode cX11_worlds 4 = .ok (.invokestatic 155, 3) := by decide +kernel
theorem dX11_worlds_7 : decode cX11_worlds 7 = .ok (.ireturn, 1) := by decide +kernel
def f_X11_worlds (F P : Nat) (S : xSt) (v0 : Nat) (D : xDt) : Option (Int32 × xDt) :=
  (f_X11_truths F P S v0 D).bind fun q1 => (f_J13_bitCount_95d88 F P S q1.1 q1.2).bind fun q2 => some (q2.1, q2.2)
set_option maxHeartbeats 4000000 in
theorem S_X11_worlds {F P : Nat} {S : xSt} (hS : xWF S) {v0 : Nat} {D : xDt} {r : Int32 × xDt} (k0 : xK S v0 11) (h : f_X11_worlds F P S v0 D = some r) : xSp md_X11_worlds (6, 0, 0) [.ref v0] (S, D) (xQi S r) := by
  unfold f_X11_worlds at h
  refine xEntry (by decide) (Nat.le_of_ble_eq_true rfl) ?_
  refine x_lv (lv' := [(0, .ref v0)]) [0] rfl ?_
  refine x_aload_n dX11_worlds_0 0 rfl ?_
  refine xbnd_e h (fun q1 e1 h => ?_)
  refine y_callVl (As := []) (q := q1) cv_RX11_151 dX11_worlds_1 k0 rfl (Nat.le_of_ble_eq_true rfl) (by omega) (S_X11_truths hS k0 e1) ?_
  refine xbnd_e h (fun q2 e2 h => ?_)
  refine y_callSi (As := [.long q1.1]) (q := q2) cs_RX11_155 dX11_worlds_4 rfl (Nat.le_of_ble_eq_true rfl) (by omega) (S_J13_bitCount_95d88 hS e2) ?_
  obtain rfl := Option.some.inj h
  exact y_iret rfl dX11_worlds_7

theorem dX11_tell_0 : decode cX11_tell 0 = .ok (.aload_n 0, 1) := by decide +kernel
theorem dX11_tell_1 : decode cX11_tell 1 = .ok (.getfield 49, 3) := by decide +kernel
theorem dX11_tell_4 : decode cX11_tell 4 = .ok (.aload_n 0, 1) := by decide +kernel
theorem dX11_tell_5 : decode cX11_tell 5 = .ok (.getfield 42, 3) := by decide +kernel
theorem dX11_tell_8 : decode cX11_tell 8 = .ok (.invokevirtual 160, 3) := by decide +kernel
theorem dX11_tell_11 : decode cX11_tell 11 = .ok (.ireturn, 1) := by decide +kernel
def f_X11_tell (F P : Nat) (S : xSt) (v0 : Nat) (D : xDt) : Option (Int32 × xDt) :=
  (f_X9_write F P S (xr S v0 5) (xr S v0 4) D).bind fun q1 => some (q1.1, q1.2)
set_option maxHeartbeats 4000000 in
theorem S_X11_tell {F P : Nat} {S : xSt} (hS : xWF S) {v0 : Nat} {D : xDt} {r : Int32 × xDt} (k0 : xK S v0 11) (h : f_X11_tell F P S v0 D = some r) : xSp md_X11_tell (4, 0, 0) [.ref v0] (S, D) (xQi S r) := by
  unfold f_X11_tell at h
  refine xEntry (by decide) (Nat.le_of_ble_eq_true rfl) ?_
  refine x_lv (lv' := [(0, .ref v0)]) [0] rfl ?_
  refine x_aload_n dX11_tell_0 0 rfl ?_
  refine y_getr (kd := 9) hS fl_RX11_49 dX11_tell_1 rfl k0 ?_
  refine x_aload_n dX11_tell_4 0 rfl ?_
  refine y_getr (kd := 2) hS fl_RX11_42 dX11_tell_5 rfl k0 ?_
  refine xbnd_e h (fun q1 e1 h => ?_)
  refine y_callVi (As := [.ref (xr S v0 4)]) (q := q1) cv_RX11_160 dX11_tell_8 ((hS.f k0 5 9 rfl).2) rfl (Nat.le_of_ble_eq_true rfl) (by omega) (S_X9_write hS ((hS.f k0 5 9 rfl).2) ((hS.f k0 4 2 rfl).2) e1) ?_
  obtain rfl := Option.some.inj h
  exact y_iret rfl dX11_tell_11

