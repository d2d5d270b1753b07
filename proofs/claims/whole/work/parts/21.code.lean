/-! printed by wip/whole/gen.py: the methods as plain functions, each proved to be what its bytecode does -/
theorem dX0_valueOf_0 : decode cX0_valueOf 0 = .ok (.aload_n 0, 1) := by decide +kernel
theorem dX0_valueOf_1 : decode cX0_valueOf 1 = .ok (.getfield 18, 3) := by decide +kernel
theorem dX0_valueOf_4 : decode cX0_valueOf 4 = .ok (.getfield 128, 3) := by decide +kernel
theorem dX0_valueOf_7 : decode cX0_valueOf 7 = .ok (.iload_n 1, 1) := by decide +kernel
theorem dX0_valueOf_8 : decode cX0_valueOf 8 = .ok (.iaload, 1) := by decide +kernel
theorem dX0_valueOf_9 : decode cX0_valueOf 9 = .ok (.ifCond .lt 18, 3) := by decide +kernel
theorem dX0_valueOf_12 : decode cX0_valueOf 12 = .ok (.aload_n 0, 1) := by decide +kernel
theorem dX0_valueOf_13 : decode cX0_valueOf 13 = .ok (.aload_n 0, 1) := by decide +kernel
theorem dX0_valueOf_14 : decode cX0_valueOf 14 = .ok (.getfield 18, 3) := by decide +kernel
theorem dX0_valueOf_17 : decode cX0_valueOf 17 = .ok (.getfield 128, 3) := by decide +kernel
theorem dX0_valueOf_20 : decode cX0_valueOf 20 = .ok (.iload_n 1, 1) := by decide +kernel
theorem dX0_valueOf_21 : decode cX0_valueOf 21 = .ok (.iaload, 1) := by decide +kernel
theorem dX0_valueOf_22 : decode cX0_valueOf 22 = .ok (.iload_n 2, 1) := by decide +kernel
theorem dX0_valueOf_23 : decode cX0_valueOf 23 = .ok (.invokevirtual 122, 3) := by decide +kernel
theorem dX0_valueOf_26 : decode cX0_valueOf 26 = .ok (.lreturn, 1) := by decide +kernel
theorem dX0_valueOf_27 : decode cX0_valueOf 27 = .ok (.aload_n 0, 1) := by decide +kernel
theorem dX0_valueOf_28 : decode cX0_valueOf 28 = .ok (.getfield 22, 3) := by decide +kernel
theorem dX0_valueOf_31 : decode cX0_valueOf 31 = .ok (.aload_n 0, 1) := by decide +kernel
theorem dX0_valueOf_32 : decode cX0_valueOf 32 = .ok (.getfield 18, 3) := by decide +kernel
theorem dX0_valueOf_35 : decode cX0_valueOf 35 = .ok (.getfield 119, 3) := by decide +kernel
theorem dX0_valueOf_38 : decode cX0_valueOf 38 = .ok (.iload_n 1, 1) := by decide +kernel
theorem dX0_valueOf_39 : decode cX0_valueOf 39 = .ok (.iaload, 1) := by decide +kernel
theorem dX0_valueOf_40 : decode cX0_valueOf 40 = .ok (.laload, 1) := by decide +kernel
theorem dX0_valueOf_41 : decode cX0_valueOf 41 = .ok (.lstore_n 3, 1) := by decide +kernel
theorem dX0_valueOf_42 : decode cX0_valueOf 42 = .ok (.aload_n 0, 1) := by decide +kernel
theorem dX0_valueOf_43 : decode cX0_valueOf 43 = .ok (.getfield 22, 3) := by decide +kernel
theorem dX0_valueOf_46 : decode cX0_valueOf 46 = .ok (.aload_n 0, 1) := by decide +kernel
theorem dX0_valueOf_47 : decode cX0_valueOf 47 = .ok (.getfield 18, 3) := by decide +kernel
theorem dX0_valueOf_50 : decode cX0_valueOf 50 = .ok (.getfield 131, 3) := by decide +kernel
theorem dX0_valueOf_53 : decode cX0_valueOf 53 = .ok (.iload_n 1, 1) := by decide +kernel
theorem dX0_valueOf_54 : decode cX0_valueOf 54 = .ok (.iaload, 1) := by decide +kernel
theorem dX0_valueOf_55 : decode cX0_valueOf 55 = .ok (.laload, 1) := by decide +kernel
theorem dX0_valueOf_56 : decode cX0_valueOf 56 = .ok (.lstore 5, 2) := by decide +kernel
theorem dX0_valueOf_58 : decode cX0_valueOf 58 = .ok (.aload_n 0, 1) := by decide +kernel
theorem dX0_valueOf_59 : decode cX0_valueOf 59 = .ok (.getfield 18, 3) := by decide +kernel
theorem dX0_valueOf_62 : decode cX0_valueOf 62 = .ok (.getfield 95, 3) := by decide +kernel
theorem dX0_valueOf_65 : decode cX0_valueOf 65 = .ok (.iload_n 1, 1) := by decide +kernel
theorem dX0_valueOf_66 : decode cX0_valueOf 66 = .ok (.iaload, 1) := by decide +kernel
theorem dX0_valueOf_67 : decode cX0_valueOf 67 = .ok (.invokestatic 134, 3) := by decide +kernel
theorem dX0_valueOf_70 : decode cX0_valueOf 70 = .ok (.lookupswitch 96 #[(38, 68), (49, 58), (61, 87), (62, 78), (124, 73), (126, 62)], 58) := by decide +kernel
theorem dX0_valueOf_128 : decode cX0_valueOf 128 = .ok (.ldc2_w 87, 3) := by decide +kernel
theorem dX0_valueOf_131 : decode cX0_valueOf 131 = .ok (.lreturn, 1) := by decide +kernel
theorem dX0_valueOf_132 : decode cX0_valueOf 132 = .ok (.lload_n 3, 1) := by decide +kernel
theorem dX0_valueOf_133 : decode cX0_valueOf 133 = .ok (.ldc2_w 87, 3) := by decide +kernel
theorem dX0_valueOf_136 : decode cX0_valueOf 136 = .ok (.lxor, 1) := by decide +kernel
theorem dX0_valueOf_137 : decode cX0_valueOf 137 = .ok (.lreturn, 1) := by decide +kernel
theorem dX0_valueOf_138 : decode cX0_valueOf 138 = .ok (.lload_n 3, 1) := by decide +kernel
theorem dX0_valueOf_139 : decode cX0_valueOf 139 = .ok (.lload 5, 2) := by decide +kernel
theorem dX0_valueOf_141 : decode cX0_valueOf 141 = .ok (.land, 1) := by decide +kernel
theorem dX0_valueOf_142 : decode cX0_valueOf 142 = .ok (.lreturn, 1) := by decide +kernel
theorem dX0_valueOf_143 : decode cX0_valueOf 143 = .ok (.lload_n 3, 1) := by decide +kernel
theorem dX0_valueOf_144 : decode cX0_valueOf 144 = .ok (.lload 5, 2) := by decide +kernel
theorem dX0_valueOf_146 : decode cX0_valueOf 146 = .ok (.lor, 1) := by decide +kernel
theorem dX0_valueOf_147 : decode cX0_valueOf 147 = .ok (.lreturn, 1) := by decide +kernel
theorem dX0_valueOf_148 : decode cX0_valueOf 148 = .ok (.lload_n 3, 1) := by decide +kernel
theorem dX0_valueOf_149 : decode cX0_valueOf 149 = .ok (.ldc2_w 87, 3) := by decide +kernel
theorem dX0_valueOf_152 : decode cX0_valueOf 152 = .ok (.lxor, 1) := by decide +kernel
theorem dX0_valueOf_153 : decode cX0_valueOf 153 = .ok (.lload 5, 2) := by decide +kernel
theorem dX0_valueOf_155 : decode cX0_valueOf 155 = .ok (.lor, 1) := by decide +kernel
theorem dX0_valueOf_156 : decode cX0_valueOf 156 = .ok (.lreturn, 1) := by decide +kernel
theorem dX0_valueOf_157 : decode cX0_valueOf 157 = .ok (.lload_n 3, 1) := by decide +kernel
theorem dX0_valueOf_158 : decode cX0_valueOf 158 = .ok (.lload 5, 2) := by decide +kernel
theorem dX0_valueOf_160 : decode cX0_valueOf 160 = .ok (.lxor, 1) := by decide +kernel
theorem dX0_valueOf_161 : decode cX0_valueOf 161 = .ok (.ldc2_w 87, 3) := by decide +kernel
theorem dX0_valueOf_164 : decode cX0_valueOf 164 = .ok (.lxor, 1) := by decide +kernel
theorem dX0_valueOf_165 : decode cX0_valueOf 165 = .ok (.lreturn, 1) := by decide +kernel
theorem dX0_valueOf_166 : decode cX0_valueOf 166 = .ok (.lconst 0, 1) := by decide +kernel
theorem dX0_valueOf_167 : decode cX0_valueOf 167 = .ok (.lreturn, 1) := by decide +kernel
def f_X0_valueOf (F P : Nat) (S : xSt) (v0 : Nat) (v1 : Int32) (v2 : Int32) (D : xDt) : Option (Int64 × xDt) :=
  xgrd (xin v1 (xl S (xr S (xr S v0 1) 3))) (if (D.1 (xr S (xr S v0 1) 3) (v1).toNatClampNeg) < 0 then (xgrd (xin v1 (xl S (xr S (xr S v0 1) 1))) (xgrd (xin (D.1 (xr S (xr S v0 1) 1) (v1).toNatClampNeg) (xl S (xr S v0 2))) (xlet (D.2 (xr S v0 2) (D.1 (xr S (xr S v0 1) 1) (v1).toNatClampNeg).toNatClampNeg) fun v3_4 => xgrd (xin v1 (xl S (xr S (xr S v0 1) 2))) (xgrd (xin (D.1 (xr S (xr S v0 1) 2) (v1).toNatClampNeg) (xl S (xr S v0 2))) (xlet (D.2 (xr S v0 2) (D.1 (xr S (xr S v0 1) 2) (v1).toNatClampNeg).toNatClampNeg) fun v5_7 => xgrd (xin v1 (xl S (xr S (xr S v0 1) 0))) ((f_X11_signOf F P S (D.1 (xr S (xr S v0 1) 0) (v1).toNatClampNeg) D).bind fun q9 => if q9.1 = 38 then (some (v3_4 &&& v5_7, q9.2)) else (if q9.1 = 49 then (some ((-1), q9.2)) else (if q9.1 = 61 then (some ((v3_4 ^^^ v5_7) ^^^ (-1), q9.2)) else (if q9.1 = 62 then (some ((v3_4 ^^^ (-1)) ||| v5_7, q9.2)) else (if q9.1 = 124 then (some (v3_4 ||| v5_7, q9.2)) else (if q9.1 = 126 then (some (v3_4 ^^^ (-1), q9.2)) else (some (0, q9.2))))))))))))) else (xgrd (xin v1 (xl S (xr S (xr S v0 1) 3))) ((f_X0_telling F P S v0 (D.1 (xr S (xr S v0 1) 3) (v1).toNatClampNeg) v2 D).bind fun q11 => some (q11.1, q11.2))))
set_option maxHeartbeats 4000000 in
theorem S_X0_valueOf {F P : Nat} {S : xSt} (hS : xWF S) {v0 : Nat} {v1 : Int32} {v2 : Int32} {D : xDt} {r : Int64 × xDt} (k0 : xK S v0 0) (h : f_X0_valueOf F P S v0 v1 v2 D = some r) : xSp md_X0_valueOf (1, 0, 0) [.ref v0, .int v1, .int v2] (S, D) (xQl S r) := by
  unfold f_X0_valueOf at h
  refine xEntry (by decide) (Nat.le_of_ble_eq_true rfl) ?_
  refine x_lv (lv' := [(0, .ref v0), (1, .int v1), (2, .int v2)]) [0, 1, 2] rfl ?_
  refine x_aload_n dX0_valueOf_0 0 rfl ?_
  refine y_getr (kd := 8) hS fl_RX0_18 dX0_valueOf_1 rfl k0 ?_
  refine y_getr (kd := 100) hS fl_RX0_128 dX0_valueOf_4 rfl ((hS.f k0 1 8 rfl).2) ?_
  refine x_iload_n dX0_valueOf_7 1 rfl ?_
  refine xgrd_e h (fun g1 h => ?_)
  refine y_iald dX0_valueOf_8 ((hS.f ((hS.f k0 1 8 rfl).2) 3 100 rfl).2) g1 ?_
  refine x_if_lt 27 dX0_valueOf_9 (by decide) (fun c => ?_) (fun c => ?_)
  · rw [if_pos c] at h
    refine x_aload_n dX0_valueOf_27 0 rfl ?_
    refine y_getr (kd := 101) hS fl_RX0_22 dX0_valueOf_28 rfl k0 ?_
    refine x_aload_n dX0_valueOf_31 0 rfl ?_
    refine y_getr (kd := 8) hS fl_RX0_18 dX0_valueOf_32 rfl k0 ?_
    refine y_getr (kd := 100) hS fl_RX0_119 dX0_valueOf_35 rfl ((hS.f k0 1 8 rfl).2) ?_
    refine x_iload_n dX0_valueOf_38 1 rfl ?_
    refine xgrd_e h (fun g2 h => ?_)
    refine y_iald dX0_valueOf_39 ((hS.f ((hS.f k0 1 8 rfl).2) 1 100 rfl).2) g2 ?_
    refine xgrd_e h (fun g3 h => ?_)
    refine y_lald dX0_valueOf_40 ((hS.f k0 2 101 rfl).2) g3 ?_
    refine xlet_e h (fun v3_4 ev3_4 h => ?_)
    refine y_lstore_n v3_4 ev3_4 [(3, .long v3_4), (0, .ref v0), (1, .int v1), (2, .int v2)] dX0_valueOf_41 (by show _ < 7; decide) rfl ?_
    refine x_aload_n dX0_valueOf_42 1 rfl ?_
    refine y_getr (kd := 101) hS fl_RX0_22 dX0_valueOf_43 rfl k0 ?_
    refine x_aload_n dX0_valueOf_46 1 rfl ?_
    refine y_getr (kd := 8) hS fl_RX0_18 dX0_valueOf_47 rfl k0 ?_
    refine y_getr (kd := 100) hS fl_RX0_131 dX0_valueOf_50 rfl ((hS.f k0 1 8 rfl).2) ?_
    refine x_iload_n dX0_valueOf_53 2 rfl ?_
    refine xgrd_e h (fun g5 h => ?_)
    refine y_iald dX0_valueOf_54 ((hS.f ((hS.f k0 1 8 rfl).2) 2 100 rfl).2) g5 ?_
    refine xgrd_e h (fun g6 h => ?_)
    refine y_lald dX0_valueOf_55 ((hS.f k0 2 101 rfl).2) g6 ?_
    refine xlet_e h (fun v5_7 ev5_7 h => ?_)
    refine y_lstore v5_7 ev5_7 [(5, .long v5_7), (3, .long v3_4), (0, .ref v0), (1, .int v1), (2, .int v2)] dX0_valueOf_56 (by show _ < 7; decide) rfl ?_
    refine x_aload_n dX0_valueOf_58 2 rfl ?_
    refine y_getr (kd := 8) hS fl_RX0_18 dX0_valueOf_59 rfl k0 ?_
    refine y_getr (kd := 100) hS fl_RX0_95 dX0_valueOf_62 rfl ((hS.f k0 1 8 rfl).2) ?_
    refine x_iload_n dX0_valueOf_65 3 rfl ?_
    refine xgrd_e h (fun g8 h => ?_)
    refine y_iald dX0_valueOf_66 ((hS.f ((hS.f k0 1 8 rfl).2) 0 100 rfl).2) g8 ?_
    refine xbnd_e h (fun q9 e9 h => ?_)
    refine y_callNi (As := [.int (D.1 (xr S (xr S v0 1) 0) (v1).toNatClampNeg)]) (q := q9) cn_RX0_134 dX0_valueOf_67 rfl (Nat.le_of_ble_eq_true rfl) (by omega) (S_X11_signOf hS e9) ?_
    by_cases c0 : q9.1 = 38
    · rw [if_pos c0] at h
      refine x_ls 138 dX0_valueOf_70 (by decide) (by rw [c0]) (by decide) ?_
      refine x_lload_n dX0_valueOf_138 1 rfl ?_
      refine x_lload dX0_valueOf_139 0 rfl ?_
      refine x_land dX0_valueOf_141 ?_
      obtain rfl := Option.some.inj h
      exact y_lret rfl dX0_valueOf_142
    · rw [if_neg c0] at h
      by_cases c1 : q9.1 = 49
      · rw [if_pos c1] at h
        refine x_ls 128 dX0_valueOf_70 (by decide) (by rw [c1]) (by decide) ?_
        refine x_ldc2 (-1) dX0_valueOf_128 wd_1021 ?_
        obtain rfl := Option.some.inj h
        exact y_lret rfl dX0_valueOf_131
      · rw [if_neg c1] at h
        by_cases c2 : q9.1 = 61
        · rw [if_pos c2] at h
          refine x_ls 157 dX0_valueOf_70 (by decide) (by rw [c2]) (by decide) ?_
          refine x_lload_n dX0_valueOf_157 1 rfl ?_
          refine x_lload dX0_valueOf_158 0 rfl ?_
          refine x_lxor dX0_valueOf_160 ?_
          refine x_ldc2 (-1) dX0_valueOf_161 wd_1021 ?_
          refine x_lxor dX0_valueOf_164 ?_
          obtain rfl := Option.some.inj h
          exact y_lret rfl dX0_valueOf_165
        · rw [if_neg c2] at h
          by_cases c3 : q9.1 = 62
          · rw [if_pos c3] at h
            refine x_ls 148 dX0_valueOf_70 (by decide) (by rw [c3]) (by decide) ?_
            refine x_lload_n dX0_valueOf_148 1 rfl ?_
            refine x_ldc2 (-1) dX0_valueOf_149 wd_1021 ?_
            refine x_lxor dX0_valueOf_152 ?_
            refine x_lload dX0_valueOf_153 0 rfl ?_
            refine x_lor dX0_valueOf_155 ?_
            obtain rfl := Option.some.inj h
            exact y_lret rfl dX0_valueOf_156
          · rw [if_neg c3] at h
            by_cases c4 : q9.1 = 124
            · rw [if_pos c4] at h
              refine x_ls 143 dX0_valueOf_70 (by decide) (by rw [c4]) (by decide) ?_
              refine x_lload_n dX0_valueOf_143 1 rfl ?_
              refine x_lload dX0_valueOf_144 0 rfl ?_
              refine x_lor dX0_valueOf_146 ?_
              obtain rfl := Option.some.inj h
              exact y_lret rfl dX0_valueOf_147
            · rw [if_neg c4] at h
              by_cases c5 : q9.1 = 126
              · rw [if_pos c5] at h
                refine x_ls 132 dX0_valueOf_70 (by decide) (by rw [c5]) (by decide) ?_
                refine x_lload_n dX0_valueOf_132 1 rfl ?_
                refine x_ldc2 (-1) dX0_valueOf_133 wd_1021 ?_
                refine x_lxor dX0_valueOf_136 ?_
                obtain rfl := Option.some.inj h
                exact y_lret rfl dX0_valueOf_137
              · rw [if_neg c5] at h
                refine x_ls (off := 96) 166 dX0_valueOf_70 (by decide) ((lv_osw c0 (by decide)).trans ((lv_osw c1 (by decide)).trans ((lv_osw c2 (by decide)).trans ((lv_osw c3 (by decide)).trans ((lv_osw c4 (by decide)).trans ((lv_osw c5 (by decide)).trans rfl)))))) (by decide) ?_
                refine x_lconst 0 dX0_valueOf_166 (by decide) ?_
                obtain rfl := Option.some.inj h
                exact y_lret rfl dX0_valueOf_167
  · rw [if_neg c] at h
    refine x_aload_n dX0_valueOf_12 0 rfl ?_
    refine x_aload_n dX0_valueOf_13 0 rfl ?_
    refine y_getr (kd := 8) hS fl_RX0_18 dX0_valueOf_14 rfl k0 ?_
    refine y_getr (kd := 100) hS fl_RX0_128 dX0_valueOf_17 rfl ((hS.f k0 1 8 rfl).2) ?_
    refine x_iload_n dX0_valueOf_20 1 rfl ?_
    refine xgrd_e h (fun g10 h => ?_)
    refine y_iald dX0_valueOf_21 ((hS.f ((hS.f k0 1 8 rfl).2) 3 100 rfl).2) g10 ?_
    refine x_iload_n dX0_valueOf_22 2 rfl ?_
    refine xbnd_e h (fun q11 e11 h => ?_)
    refine y_callVl (As := [.int (D.1 (xr S (xr S v0 1) 3) (v1).toNatClampNeg), .int v2]) (q := q11) cv_RX0_122 dX0_valueOf_23 k0 rfl (Nat.le_of_ble_eq_true rfl) (by omega) (S_X0_telling hS k0 e11) ?_
    obtain rfl := Option.some.inj h
    exact y_lret rfl dX0_valueOf_26

theorem dX11_agentsOf_0 : decode cX11_agentsOf 0 = .ok (.iload_n 0, 1) := by decide +kernel
theorem dX11_agentsOf_1 : decode cX11_agentsOf 1 = .ok (.bipush 8, 2) := by decide +kernel
theorem dX11_agentsOf_3 : decode cX11_agentsOf 3 = .ok (.ishr, 1) := by decide +kernel
theorem dX11_agentsOf_4 : decode cX11_agentsOf 4 = .ok (.ireturn, 1) := by decide +kernel
def f_X11_agentsOf (F P : Nat) (S : xSt) (v0 : Int32) (D : xDt) : Option (Int32 × xDt) :=
  some (jishr v0 8, D)
set_option maxHeartbeats 4000000 in
theorem S_X11_agentsOf {F P : Nat} {S : xSt} (hS : xWF S) {v0 : Int32} {D : xDt} {r : Int32 × xDt} (h : f_X11_agentsOf F P S v0 D = some r) : xSp md_X11_agentsOf (0, 0, 0) [.int v0] (S, D) (xQi S r) := by
  unfold f_X11_agentsOf at h
  refine xEntry (by decide) (Nat.le_of_ble_eq_true rfl) ?_
  refine x_lv (lv' := [(0, .int v0)]) [0] rfl ?_
  refine x_iload_n dX11_agentsOf_0 0 rfl ?_
  refine x_bipush 8 dX11_agentsOf_1 (by decide) ?_
  refine x_ishr dX11_agentsOf_3 ?_
  obtain rfl := Option.some.inj h
  exact y_iret rfl dX11_agentsOf_4

theorem dX0_isKnownCommon_0 : decode cX0_isKnownCommon 0 = .ok (.aload_n 0, 1) := by decide +kernel
theorem dX0_isKnownCommon_1 : decode cX0_isKnownCommon 1 = .ok (.iload_n 1, 1) := by decide +kernel
theorem dX0_isKnownCommon_2 : decode cX0_isKnownCommon 2 = .ok (.invokevirtual 104, 3) := by decide +kernel
theorem dX0_isKnownCommon_5 : decode cX0_isKnownCommon 5 = .ok (.invokestatic 134, 3) := by decide +kernel
theorem dX0_isKnownCommon_8 : decode cX0_isKnownCommon 8 = .ok (.bipush 75, 2) := by decide +kernel
theorem dX0_isKnownCommon_10 : decode cX0_isKnownCommon 10 = .ok (.if_icmp .ne 56, 3) := by decide +kernel
theorem dX0_isKnownCommon_13 : decode cX0_isKnownCommon 13 = .ok (.aload_n 0, 1) := by decide +kernel
theorem dX0_isKnownCommon_14 : decode cX0_isKnownCommon 14 = .ok (.getfield 18, 3) := by decide +kernel
theorem dX0_isKnownCommon_17 : decode cX0_isKnownCommon 17 = .ok (.getfield 119, 3) := by decide +kernel
theorem dX0_isKnownCommon_20 : decode cX0_isKnownCommon 20 = .ok (.aload_n 0, 1) := by decide +kernel
theorem dX0_isKnownCommon_21 : decode cX0_isKnownCommon 21 = .ok (.getfield 18, 3) := by decide +kernel
theorem dX0_isKnownCommon_24 : decode cX0_isKnownCommon 24 = .ok (.getfield 98, 3) := by decide +kernel
theorem dX0_isKnownCommon_27 : decode cX0_isKnownCommon 27 = .ok (.iload_n 1, 1) := by decide +kernel
theorem dX0_isKnownCommon_28 : decode cX0_isKnownCommon 28 = .ok (.iaload, 1) := by decide +kernel
theorem dX0_isKnownCommon_29 : decode cX0_isKnownCommon 29 = .ok (.iaload, 1) := by decide +kernel
theorem dX0_isKnownCommon_30 : decode cX0_isKnownCommon 30 = .ok (.aload_n 0, 1) := by decide +kernel
theorem dX0_isKnownCommon_31 : decode cX0_isKnownCommon 31 = .ok (.getfield 18, 3) := by decide +kernel
theorem dX0_isKnownCommon_34 : decode cX0_isKnownCommon 34 = .ok (.getfield 98, 3) := by decide +kernel
theorem dX0_isKnownCommon_37 : decode cX0_isKnownCommon 37 = .ok (.iload_n 2, 1) := by decide +kernel
theorem dX0_isKnownCommon_38 : decode cX0_isKnownCommon 38 = .ok (.iaload, 1) := by decide +kernel
theorem dX0_isKnownCommon_39 : decode cX0_isKnownCommon 39 = .ok (.if_icmp .ne 27, 3) := by decide +kernel
theorem dX0_isKnownCommon_42 : decode cX0_isKnownCommon 42 = .ok (.aload_n 0, 1) := by decide +kernel
theorem dX0_isKnownCommon_43 : decode cX0_isKnownCommon 43 = .ok (.iload_n 1, 1) := by decide +kernel
theorem dX0_isKnownCommon_44 : decode cX0_isKnownCommon 44 = .ok (.invokevirtual 104, 3) := by decide +kernel
theorem dX0_isKnownCommon_47 : decode cX0_isKnownCommon 47 = .ok (.invokestatic 141, 3) := by decide +kernel
theorem dX0_isKnownCommon_50 : decode cX0_isKnownCommon 50 = .ok (.aload_n 0, 1) := by decide +kernel
theorem dX0_isKnownCommon_51 : decode cX0_isKnownCommon 51 = .ok (.iload_n 2, 1) := by decide +kernel
theorem dX0_isKnownCommon_52 : decode cX0_isKnownCommon 52 = .ok (.invokevirtual 104, 3) := by decide +kernel
theorem dX0_isKnownCommon_55 : decode cX0_isKnownCommon 55 = .ok (.invokestatic 141, 3) := by decide +kernel
theorem dX0_isKnownCommon_58 : decode cX0_isKnownCommon 58 = .ok (.iand, 1) := by decide +kernel
theorem dX0_isKnownCommon_59 : decode cX0_isKnownCommon 59 = .ok (.ifCond .eq 7, 3) := by decide +kernel
theorem dX0_isKnownCommon_62 : decode cX0_isKnownCommon 62 = .ok (.iconst 1, 1) := by decide +kernel
theorem dX0_isKnownCommon_63 : decode cX0_isKnownCommon 63 = .ok (.goto 4, 3) := by decide +kernel
theorem dX0_isKnownCommon_66 : decode cX0_isKnownCommon 66 = .ok (.iconst 0, 1) := by decide +kernel
theorem dX0_isKnownCommon_67 : decode cX0_isKnownCommon 67 = .ok (.ireturn, 1) := by decide +kernel
def f_X0_isKnownCommon_66 (F P : Nat) (S : xSt) (D : xDt) : Option (Int32 × xDt) :=
  some (0, D)
set_option maxHeartbeats 4000000 in
theorem t_X0_isKnownCommon_66 {F P : Nat} {S : xSt} (hS : xWF S) {D : xDt} {r : Int32 × xDt} (h : f_X0_isKnownCommon_66 F P S D = some r) : yEx md_X0_isKnownCommon 1 66 [] [] S D (xQi S r) := by
  unfold f_X0_isKnownCommon_66 at h
  refine x_iconst 0 dX0_isKnownCommon_66 (by decide) ?_
  obtain rfl := Option.some.inj h
  exact y_zret rfl rfl dX0_isKnownCommon_67

def f_X0_isKnownCommon (F P : Nat) (S : xSt) (v0 : Nat) (v1 : Int32) (v2 : Int32) (D : xDt) : Option (Int32 × xDt) :=
  (f_X0_tokenAt F P S v0 v1 D).bind fun q1 => (f_X11_signOf F P S q1.1 q1.2).bind fun q2 => if q2.1 = 75 then (xgrd (xin v1 (xl S (xr S (xr S v0 1) 4))) (xgrd (xin (q2.2.1 (xr S (xr S v0 1) 4) (v1).toNatClampNeg) (xl S (xr S (xr S v0 1) 1))) (xgrd (xin v2 (xl S (xr S (xr S v0 1) 4))) (if (q2.2.1 (xr S (xr S v0 1) 1) (q2.2.1 (xr S (xr S v0 1) 4) (v1).toNatClampNeg).toNatClampNeg) = (q2.2.1 (xr S (xr S v0 1) 4) (v2).toNatClampNeg) then ((f_X0_tokenAt F P S v0 v1 q2.2).bind fun q6 => (f_X11_agentsOf F P S q6.1 q6.2).bind fun q7 => (f_X0_tokenAt F P S v0 v2 q7.2).bind fun q8 => (f_X11_agentsOf F P S q8.1 q8.2).bind fun q9 => if (q7.1 &&& q9.1) = 0 then (f_X0_isKnownCommon_66 F P S q9.2) else (some (1, q9.2))) else (f_X0_isKnownCommon_66 F P S q2.2))))) else (f_X0_isKnownCommon_66 F P S q2.2)
set_option maxHeartbeats 4000000 in
theorem S_X0_isKnownCommon {F P : Nat} {S : xSt} (hS : xWF S) {v0 : Nat} {v1 : Int32} {v2 : Int32} {D : xDt} {r : Int32 × xDt} (k0 : xK S v0 0) (h : f_X0_isKnownCommon F P S v0 v1 v2 D = some r) : xSp md_X0_isKnownCommon (1, 0, 0) [.ref v0, .int v1, .int v2] (S, D) (xQi S r) := by
  unfold f_X0_isKnownCommon at h
  refine xEntry (by decide) (Nat.le_of_ble_eq_true rfl) ?_
  refine x_lv (lv' := [(0, .ref v0), (1, .int v1), (2, .int v2)]) [0, 1, 2] rfl ?_
  refine x_aload_n dX0_isKnownCommon_0 0 rfl ?_
  refine x_iload_n dX0_isKnownCommon_1 1 rfl ?_
  refine xbnd_e h (fun q1 e1 h => ?_)
  refine y_callVi (As := [.int v1]) (q := q1) cv_RX0_104 dX0_isKnownCommon_2 k0 rfl (Nat.le_of_ble_eq_true rfl) (by omega) (S_X0_tokenAt hS k0 e1) ?_
  refine xbnd_e h (fun q2 e2 h => ?_)
  refine y_callNi (As := [.int q1.1]) (q := q2) cn_RX0_134 dX0_isKnownCommon_5 rfl (Nat.le_of_ble_eq_true rfl) (by omega) (S_X11_signOf hS e2) ?_
  refine x_bipush 75 dX0_isKnownCommon_8 (by decide) ?_
  refine x_icmp_ne 66 dX0_isKnownCommon_10 (by decide) (fun c => ?_) (fun c => ?_)
  · rw [if_neg c] at h
    refine x_lv (lv' := []) [] rfl ?_
    exact t_X0_isKnownCommon_66 hS h
  · rw [if_pos c] at h
    refine x_aload_n dX0_isKnownCommon_13 0 rfl ?_
    refine y_getr (kd := 8) hS fl_RX0_18 dX0_isKnownCommon_14 rfl k0 ?_
    refine y_getr (kd := 100) hS fl_RX0_119 dX0_isKnownCommon_17 rfl ((hS.f k0 1 8 rfl).2) ?_
    refine x_aload_n dX0_isKnownCommon_20 0 rfl ?_
    refine y_getr (kd := 8) hS fl_RX0_18 dX0_isKnownCommon_21 rfl k0 ?_
    refine y_getr (kd := 100) hS fl_RX0_98 dX0_isKnownCommon_24 rfl ((hS.f k0 1 8 rfl).2) ?_
    refine x_iload_n dX0_isKnownCommon_27 1 rfl ?_
    refine xgrd_e h (fun g3 h => ?_)
    refine y_iald dX0_isKnownCommon_28 ((hS.f ((hS.f k0 1 8 rfl).2) 4 100 rfl).2) g3 ?_
    refine xgrd_e h (fun g4 h => ?_)
    refine y_iald dX0_isKnownCommon_29 ((hS.f ((hS.f k0 1 8 rfl).2) 1 100 rfl).2) g4 ?_
    refine x_aload_n dX0_isKnownCommon_30 0 rfl ?_
    refine y_getr (kd := 8) hS fl_RX0_18 dX0_isKnownCommon_31 rfl k0 ?_
    refine y_getr (kd := 100) hS fl_RX0_98 dX0_isKnownCommon_34 rfl ((hS.f k0 1 8 rfl).2) ?_
    refine x_iload_n dX0_isKnownCommon_37 2 rfl ?_
    refine xgrd_e h (fun g5 h => ?_)
    refine y_iald dX0_isKnownCommon_38 ((hS.f ((hS.f k0 1 8 rfl).2) 4 100 rfl).2) g5 ?_
    refine x_icmp_ne 66 dX0_isKnownCommon_39 (by decide) (fun c => ?_) (fun c => ?_)
    · rw [if_neg c] at h
      refine x_lv (lv' := []) [] rfl ?_
      exact t_X0_isKnownCommon_66 hS h
    · rw [if_pos c] at h
      refine x_aload_n dX0_isKnownCommon_42 0 rfl ?_
      refine x_iload_n dX0_isKnownCommon_43 1 rfl ?_
      refine xbnd_e h (fun q6 e6 h => ?_)
      refine y_callVi (As := [.int v1]) (q := q6) cv_RX0_104 dX0_isKnownCommon_44 k0 rfl (Nat.le_of_ble_eq_true rfl) (by omega) (S_X0_tokenAt hS k0 e6) ?_
      refine xbnd_e h (fun q7 e7 h => ?_)
      refine y_callNi (As := [.int q6.1]) (q := q7) cn_RX0_141 dX0_isKnownCommon_47 rfl (Nat.le_of_ble_eq_true rfl) (by omega) (S_X11_agentsOf hS e7) ?_
      refine x_aload_n dX0_isKnownCommon_50 0 rfl ?_
      refine x_iload_n dX0_isKnownCommon_51 2 rfl ?_
      refine xbnd_e h (fun q8 e8 h => ?_)
      refine y_callVi (As := [.int v2]) (q := q8) cv_RX0_104 dX0_isKnownCommon_52 k0 rfl (Nat.le_of_ble_eq_true rfl) (by omega) (S_X0_tokenAt hS k0 e8) ?_
      refine xbnd_e h (fun q9 e9 h => ?_)
      refine y_callNi (As := [.int q8.1]) (q := q9) cn_RX0_141 dX0_isKnownCommon_55 rfl (Nat.le_of_ble_eq_true rfl) (by omega) (S_X11_agentsOf hS e9) ?_
      refine x_iand dX0_isKnownCommon_58 ?_
      refine x_if_eq 66 dX0_isKnownCommon_59 (by decide) (fun c => ?_) (fun c => ?_)
      · rw [if_pos c] at h
        refine x_lv (lv' := []) [] rfl ?_
        exact t_X0_isKnownCommon_66 hS h
      · rw [if_neg c] at h
        refine x_iconst 1 dX0_isKnownCommon_62 (by decide) ?_
        refine x_goto 67 dX0_isKnownCommon_63 (by decide) ?_
        obtain rfl := Option.some.inj h
        exact y_zret rfl rfl dX0_isKnownCommon_67

theorem dX0_lawful_0 : decode cX0_lawful 0 = .ok (.aload_n 0, 1) := by decide +kernel
theorem dX0_lawful_1 : decode cX0_lawful 1 = .ok (.iload_n 1, 1) := by decide +kernel
theorem dX0_lawful_2 : decode cX0_lawful 2 = .ok (.invokevirtual 104, 3) := by decide +kernel
theorem dX0_lawful_5 : decode cX0_lawful 5 = .ok (.invokestatic 134, 3) := by decide +kernel
theorem dX0_lawful_8 : decode cX0_lawful 8 = .ok (.istore_n 3, 1) := by decide +kernel
theorem dX0_lawful_9 : decode cX0_lawful 9 = .ok (.iload_n 3, 1) := by decide +kernel
theorem dX0_lawful_10 : decode cX0_lawful 10 = .ok (.bipush 75, 2) := by decide +kernel
theorem dX0_lawful_12 : decode cX0_lawful 12 = .ok (.if_icmp .eq 13, 3) := by decide +kernel
theorem dX0_lawful_15 : decode cX0_lawful 15 = .ok (.iload_n 3, 1) := by decide +kernel
theorem dX0_lawful_16 : decode cX0_lawful 16 = .ok (.bipush 67, 2) := by decide +kernel
theorem dX0_lawful_18 : decode cX0_lawful 18 = .ok (.if_icmp .eq 7, 3) := by decide +kernel
theorem dX0_lawful_21 : decode cX0_lawful 21 = .ok (.ldc2_w 87, 3) := by decide +kernel
theorem dX0_lawful_24 : decode cX0_lawful 24 = .ok (.lreturn, 1) := by decide +kernel
theorem dX0_lawful_25 : decode cX0_lawful 25 = .ok (.aload_n 0, 1) := by decide +kernel
theorem dX0_lawful_26 : decode cX0_lawful 26 = .ok (.getfield 26, 3) := by decide +kernel
theorem dX0_lawful_29 : decode cX0_lawful 29 = .ok (.iload_n 1, 1) := by decide +kernel
theorem dX0_lawful_30 : decode cX0_lawful 30 = .ok (.sipush 128, 3) := by decide +kernel
theorem dX0_lawful_33 : decode cX0_lawful 33 = .ok (.imul, 1) := by decide +kernel
theorem dX0_lawful_34 : decode cX0_lawful 34 = .ok (.iload_n 2, 1) := by decide +kernel
theorem dX0_lawful_35 : decode cX0_lawful 35 = .ok (.iadd, 1) := by decide +kernel
theorem dX0_lawful_36 : decode cX0_lawful 36 = .ok (.laload, 1) := by decide +kernel
theorem dX0_lawful_37 : decode cX0_lawful 37 = .ok (.lstore 4, 2) := by decide +kernel
theorem dX0_lawful_39 : decode cX0_lawful 39 = .ok (.iconst 0, 1) := by decide +kernel
theorem dX0_lawful_40 : decode cX0_lawful 40 = .ok (.istore 6, 2) := by decide +kernel
theorem dX0_lawful_42 : decode cX0_lawful 42 = .ok (.iload 6, 2) := by decide +kernel
theorem dX0_lawful_44 : decode cX0_lawful 44 = .ok (.aload_n 0, 1) := by decide +kernel
theorem dX0_lawful_45 : decode cX0_lawful 45 = .ok (.getfield 18, 3) := by decide +kernel
theorem dX0_lawful_48 : decode cX0_lawful 48 = .ok (.getfield 73, 3) := by decide +kernel
theorem dX0_lawful_51 : decode cX0_lawful 51 = .ok (.if_icmp .ge 37, 3) := by decide +kernel
theorem dX0_lawful_54 : decode cX0_lawful 54 = .ok (.iload_n 3, 1) := by decide +kernel
theorem dX0_lawful_55 : decode cX0_lawful 55 = .ok (.bipush 67, 2) := by decide +kernel
theorem dX0_lawful_57 : decode cX0_lawful 57 = .ok (.if_icmp .ne 31, 3) := by decide +kernel
theorem dX0_lawful_60 : decode cX0_lawful 60 = .ok (.aload_n 0, 1) := by decide +kernel
theorem dX0_lawful_61 : decode cX0_lawful 61 = .ok (.iload 6, 2) := by decide +kernel
theorem dX0_lawful_63 : decode cX0_lawful 63 = .ok (.iload_n 1, 1) := by decide +kernel
theorem dX0_lawful_64 : decode cX0_lawful 64 = .ok (.invokevirtual 137, 3) := by decide +kernel
theorem dX0_lawful_67 : decode cX0_lawful 67 = .ok (.ifCond .eq 15, 3) := by decide +kernel
theorem dX0_lawful_70 : decode cX0_lawful 70 = .ok (.lload 4, 2) := by decide +kernel
theorem dX0_lawful_72 : decode cX0_lawful 72 = .ok (.aload_n 0, 1) := by decide +kernel
theorem dX0_lawful_73 : decode cX0_lawful 73 = .ok (.iload 6, 2) := by decide +kernel
theorem dX0_lawful_75 : decode cX0_lawful 75 = .ok (.iload_n 2, 1) := by decide +kernel
theorem dX0_lawful_76 : decode cX0_lawful 76 = .ok (.invokevirtual 122, 3) := by decide +kernel
theorem dX0_lawful_79 : decode cX0_lawful 79 = .ok (.land, 1) := by decide +kernel
theorem dX0_lawful_80 : decode cX0_lawful 80 = .ok (.lstore 4, 2) := by decide +kernel
theorem dX0_lawful_82 : decode cX0_lawful 82 = .ok (.iinc 6 1, 3) := by decide +kernel
theorem dX0_lawful_85 : decode cX0_lawful 85 = .ok (.goto (-43), 3) := by decide +kernel
theorem dX0_lawful_88 : decode cX0_lawful 88 = .ok (.lload 4, 2) := by decide +kernel
theorem dX0_lawful_90 : decode cX0_lawful 90 = .ok (.lreturn, 1) := by decide +kernel
def f_X0_lawful_82 (F P : Nat) (S : xSt) (rec_42 : Nat → Int32 → Int32 → Int32 → Int64 → Int32 → xDt → Option (Int64 × xDt)) (v0 : Nat) (v1 : Int32) (v2 : Int32) (v3 : Int32) (v4 : Int64) (v6 : Int32) (D : xDt) : Option (Int64 × xDt) :=
  xlet (v6 + 1) fun v6_1 => rec_42 v0 v1 v2 v3 v4 v6_1 D
set_option maxHeartbeats 4000000 in
theorem t_X0_lawful_82 {F P : Nat} {S : xSt} (hS : xWF S) {rec_42 : Nat → Int32 → Int32 → Int32 → Int64 → Int32 → xDt → Option (Int64 × xDt)} (hrec_42 : ∀ {v0 : Nat} {v1 : Int32} {v2 : Int32} {v3 : Int32} {v4 : Int64} {v6 : Int32} {D : xDt} {r : Int64 × xDt}, xK S v0 0 → rec_42 v0 v1 v2 v3 v4 v6 D = some r → yEx md_X0_lawful 2 42 [(0, .ref v0), (1, .int v1), (2, .int v2), (3, .int v3), (4, .long v4), (6, .int v6)] [] S D (xQl S r)) {v0 : Nat} {v1 : Int32} {v2 : Int32} {v3 : Int32} {v4 : Int64} {v6 : Int32} {D : xDt} {r : Int64 × xDt} (k0 : xK S v0 0) (h : f_X0_lawful_82 F P S rec_42 v0 v1 v2 v3 v4 v6 D = some r) : yEx md_X0_lawful 2 82 [(0, .ref v0), (1, .int v1), (2, .int v2), (3, .int v3), (4, .long v4), (6, .int v6)] [] S D (xQl S r) := by
  unfold f_X0_lawful_82 at h
  refine xlet_e h (fun v6_1 ev6_1 h => ?_)
  refine y_iinc v6_1 ev6_1 (by decide) [(6, .int v6_1), (0, .ref v0), (1, .int v1), (2, .int v2), (3, .int v3), (4, .long v4)] dX0_lawful_82 5 rfl (by show _ < 7; decide) rfl ?_
  refine x_goto 42 dX0_lawful_85 (by decide) ?_
  refine x_lv (lv' := [(0, .ref v0), (1, .int v1), (2, .int v2), (3, .int v3), (4, .long v4), (6, .int v6_1)]) [1, 2, 3, 4, 5, 0] rfl ?_
  exact hrec_42 k0 h

def f_X0_lawful_42s (F P : Nat) (S : xSt) (rec_42 : Nat → Int32 → Int32 → Int32 → Int64 → Int32 → xDt → Option (Int64 × xDt)) (v0 : Nat) (v1 : Int32) (v2 : Int32) (v3 : Int32) (v4 : Int64) (v6 : Int32) (D : xDt) : Option (Int64 × xDt) :=
  if (D.1 (xr S v0 1) 8) ≤ v6 then (some (v4, D)) else (if v3 = 67 then ((f_X0_isKnownCommon F P S v0 v6 v1 D).bind fun q1 => if q1.1 = 0 then (f_X0_lawful_82 F P S rec_42 v0 v1 v2 v3 v4 v6 q1.2) else ((f_X0_telling F P S v0 v6 v2 q1.2).bind fun q2 => xlet (v4 &&& q2.1) fun v4_3 => f_X0_lawful_82 F P S rec_42 v0 v1 v2 v3 v4_3 v6 q2.2)) else (some (v4, D)))
def f_X0_lawful_42 (F P : Nat) (S : xSt) : Nat → Nat → Int32 → Int32 → Int32 → Int64 → Int32 → xDt → Option (Int64 × xDt)
  | 0 => fun _ _ _ _ _ _ _ => none
  | n + 1 => f_X0_lawful_42s F P S (f_X0_lawful_42 F P S n)
set_option maxHeartbeats 4000000 in
theorem t_X0_lawful_42s {F P : Nat} {S : xSt} (hS : xWF S) {rec_42 : Nat → Int32 → Int32 → Int32 → Int64 → Int32 → xDt → Option (Int64 × xDt)} (hrec_42 : ∀ {v0 : Nat} {v1 : Int32} {v2 : Int32} {v3 : Int32} {v4 : Int64} {v6 : Int32} {D : xDt} {r : Int64 × xDt}, xK S v0 0 → rec_42 v0 v1 v2 v3 v4 v6 D = some r → yEx md_X0_lawful 2 42 [(0, .ref v0), (1, .int v1), (2, .int v2), (3, .int v3), (4, .long v4), (6, .int v6)] [] S D (xQl S r)) {v0 : Nat} {v1 : Int32} {v2 : Int32} {v3 : Int32} {v4 : Int64} {v6 : Int32} {D : xDt} {r : Int64 × xDt} (k0 : xK S v0 0) (h : f_X0_lawful_42s F P S rec_42 v0 v1 v2 v3 v4 v6 D = some r) : yEx md_X0_lawful 2 42 [(0, .ref v0), (1, .int v1), (2, .int v2), (3, .int v3), (4, .long v4), (6, .int v6)] [] S D (xQl S r) := by
  unfold f_X0_lawful_42s at h
  refine x_iload dX0_lawful_42 5 rfl ?_
  refine x_aload_n dX0_lawful_44 0 rfl ?_
  refine y_getr (kd := 8) hS fl_RX0_18 dX0_lawful_45 rfl k0 ?_
  refine y_geti fl_RX0_73 dX0_lawful_48 rfl ((hS.f k0 1 8 rfl).2) ?_
  refine x_icmp_ge 88 dX0_lawful_51 (by decide) (fun c => ?_) (fun c => ?_)
  · rw [if_pos c] at h
    refine x_lload dX0_lawful_88 4 rfl ?_
    obtain rfl := Option.some.inj h
    exact y_lret rfl dX0_lawful_90
  · rw [if_neg c] at h
    refine x_iload_n dX0_lawful_54 3 rfl ?_
    refine x_bipush 67 dX0_lawful_55 (by decide) ?_
    refine x_icmp_ne 88 dX0_lawful_57 (by decide) (fun c => ?_) (fun c => ?_)
    · rw [if_neg c] at h
      refine x_lload dX0_lawful_88 4 rfl ?_
      obtain rfl := Option.some.inj h
      exact y_lret rfl dX0_lawful_90
    · rw [if_pos c] at h
      refine x_aload_n dX0_lawful_60 0 rfl ?_
      refine x_iload dX0_lawful_61 5 rfl ?_
      refine x_iload_n dX0_lawful_63 1 rfl ?_
      refine xbnd_e h (fun q1 e1 h => ?_)
      refine y_callVi (As := [.int v6, .int v1]) (q := q1) cv_RX0_137 dX0_lawful_64 k0 rfl (Nat.le_of_ble_eq_true rfl) (by omega) (S_X0_isKnownCommon hS k0 e1) ?_
      refine x_if_eq 82 dX0_lawful_67 (by decide) (fun c => ?_) (fun c => ?_)
      · rw [if_pos c] at h
        exact t_X0_lawful_82 hS hrec_42 k0 h
      · rw [if_neg c] at h
        refine x_lload dX0_lawful_70 4 rfl ?_
        refine x_aload_n dX0_lawful_72 0 rfl ?_
        refine x_iload dX0_lawful_73 5 rfl ?_
        refine x_iload_n dX0_lawful_75 2 rfl ?_
        refine xbnd_e h (fun q2 e2 h => ?_)
        refine y_callVl (As := [.int v6, .int v2]) (q := q2) cv_RX0_122 dX0_lawful_76 k0 rfl (Nat.le_of_ble_eq_true rfl) (by omega) (S_X0_telling hS k0 e2) ?_
        refine x_land dX0_lawful_79 ?_
        refine xlet_e h (fun v4_3 ev4_3 h => ?_)
        refine y_lstore v4_3 ev4_3 [(4, .long v4_3), (0, .ref v0), (1, .int v1), (2, .int v2), (3, .int v3), (6, .int v6)] dX0_lawful_80 (by show _ < 7; decide) rfl ?_
        refine x_lv (lv' := [(0, .ref v0), (1, .int v1), (2, .int v2), (3, .int v3), (4, .long v4_3), (6, .int v6)]) [1, 2, 3, 4, 0, 5] rfl ?_
        exact t_X0_lawful_82 hS hrec_42 k0 h
theorem t_X0_lawful_42 {F P : Nat} {S : xSt} (hS : xWF S) : ∀ (n : Nat) {v0 : Nat} {v1 : Int32} {v2 : Int32} {v3 : Int32} {v4 : Int64} {v6 : Int32} {D : xDt} {r : Int64 × xDt}, xK S v0 0 → f_X0_lawful_42 F P S n v0 v1 v2 v3 v4 v6 D = some r → yEx md_X0_lawful 2 42 [(0, .ref v0), (1, .int v1), (2, .int v2), (3, .int v3), (4, .long v4), (6, .int v6)] [] S D (xQl S r) := by
  intro n
  induction n with
  | zero => intros; rename_i h; cases h
  | succ n ih =>
    intro v0 v1 v2 v3 v4 v6 D r k0 h
    exact t_X0_lawful_42s hS (fun k0 h => ih k0 h) k0 h

def f_X0_lawful_25 (F P : Nat) (S : xSt) (v0 : Nat) (v1 : Int32) (v2 : Int32) (v3 : Int32) (D : xDt) : Option (Int64 × xDt) :=
  xgrd (xin ((v1 * 128) + v2) (xl S (xr S v0 3))) (xlet (D.2 (xr S v0 3) ((v1 * 128) + v2).toNatClampNeg) fun v4_2 => f_X0_lawful_42 F P S F v0 v1 v2 v3 v4_2 0 D)
set_option maxHeartbeats 4000000 in
theorem t_X0_lawful_25 {F P : Nat} {S : xSt} (hS : xWF S) {v0 : Nat} {v1 : Int32} {v2 : Int32} {v3 : Int32} {D : xDt} {r : Int64 × xDt} (k0 : xK S v0 0) (h : f_X0_lawful_25 F P S v0 v1 v2 v3 D = some r) : yEx md_X0_lawful 2 25 [(0, .ref v0), (1, .int v1), (2, .int v2), (3, .int v3)] [] S D (xQl S r) := by
  unfold f_X0_lawful_25 at h
  refine x_aload_n dX0_lawful_25 0 rfl ?_
  refine y_getr (kd := 101) hS fl_RX0_26 dX0_lawful_26 rfl k0 ?_
  refine x_iload_n dX0_lawful_29 1 rfl ?_
  refine x_sipush 128 dX0_lawful_30 (by decide) ?_
  refine x_imul dX0_lawful_33 ?_
  refine x_iload_n dX0_lawful_34 2 rfl ?_
  refine x_iadd dX0_lawful_35 ?_
  refine xgrd_e h (fun g1 h => ?_)
  refine y_lald dX0_lawful_36 ((hS.f k0 3 101 rfl).2) g1 ?_
  refine xlet_e h (fun v4_2 ev4_2 h => ?_)
  refine y_lstore v4_2 ev4_2 [(4, .long v4_2), (0, .ref v0), (1, .int v1), (2, .int v2), (3, .int v3)] dX0_lawful_37 (by show _ < 7; decide) rfl ?_
  refine x_iconst 0 dX0_lawful_39 (by decide) ?_
  refine y_istore 0 rfl [(6, .int 0), (4, .long v4_2), (0, .ref v0), (1, .int v1), (2, .int v2), (3, .int v3)] dX0_lawful_40 (by show _ < 7; decide) rfl ?_
  refine x_lv (lv' := [(0, .ref v0), (1, .int v1), (2, .int v2), (3, .int v3), (4, .long v4_2), (6, .int 0)]) [2, 3, 4, 5, 1, 0] rfl ?_
  exact t_X0_lawful_42 hS F k0 h

def f_X0_lawful (F P : Nat) (S : xSt) (v0 : Nat) (v1 : Int32) (v2 : Int32) (D : xDt) : Option (Int64 × xDt) :=
  (f_X0_tokenAt F P S v0 v1 D).bind fun q1 => (f_X11_signOf F P S q1.1 q1.2).bind fun q2 => if q2.1 = 75 then (f_X0_lawful_25 F P S v0 v1 v2 q2.1 q2.2) else (if q2.1 = 67 then (f_X0_lawful_25 F P S v0 v1 v2 q2.1 q2.2) else (some ((-1), q2.2)))
set_option maxHeartbeats 4000000 in
theorem S_X0_lawful {F P : Nat} {S : xSt} (hS : xWF S) {v0 : Nat} {v1 : Int32} {v2 : Int32} {D : xDt} {r : Int64 × xDt} (k0 : xK S v0 0) (h : f_X0_lawful F P S v0 v1 v2 D = some r) : xSp md_X0_lawful (2, 0, 0) [.ref v0, .int v1, .int v2] (S, D) (xQl S r) := by
  unfold f_X0_lawful at h
  refine xEntry (by decide) (Nat.le_of_ble_eq_true rfl) ?_
  refine x_lv (lv' := [(0, .ref v0), (1, .int v1), (2, .int v2)]) [0, 1, 2] rfl ?_
  refine x_aload_n dX0_lawful_0 0 rfl ?_
  refine x_iload_n dX0_lawful_1 1 rfl ?_
  refine xbnd_e h (fun q1 e1 h => ?_)
  refine y_callVi (As := [.int v1]) (q := q1) cv_RX0_104 dX0_lawful_2 k0 rfl (Nat.le_of_ble_eq_true rfl) (by omega) (S_X0_tokenAt hS k0 e1) ?_
  refine xbnd_e h (fun q2 e2 h => ?_)
  refine y_callNi (As := [.int q1.1]) (q := q2) cn_RX0_134 dX0_lawful_5 rfl (Nat.le_of_ble_eq_true rfl) (by omega) (S_X11_signOf hS e2) ?_
  refine y_istore_n q2.1 rfl [(3, .int q2.1), (0, .ref v0), (1, .int v1), (2, .int v2)] dX0_lawful_8 (by show _ < 7; decide) rfl ?_
  refine x_iload_n dX0_lawful_9 0 rfl ?_
  refine x_bipush 75 dX0_lawful_10 (by decide) ?_
  refine x_icmp_eq 25 dX0_lawful_12 (by decide) (fun c => ?_) (fun c => ?_)
  · rw [if_pos c] at h
    refine x_lv (lv' := [(0, .ref v0), (1, .int v1), (2, .int v2), (3, .int q2.1)]) [1, 2, 3, 0] rfl ?_
    exact t_X0_lawful_25 hS k0 h
  · rw [if_neg c] at h
    refine x_iload_n dX0_lawful_15 0 rfl ?_
    refine x_bipush 67 dX0_lawful_16 (by decide) ?_
    refine x_icmp_eq 25 dX0_lawful_18 (by decide) (fun c => ?_) (fun c => ?_)
    · rw [if_pos c] at h
      refine x_lv (lv' := [(0, .ref v0), (1, .int v1), (2, .int v2), (3, .int q2.1)]) [1, 2, 3, 0] rfl ?_
      exact t_X0_lawful_25 hS k0 h
    · rw [if_neg c] at h
      refine x_ldc2 (-1) dX0_lawful_21 wd_1021 ?_
      obtain rfl := Option.some.inj h
      exact y_lret rfl dX0_lawful_24

theorem dX0_makeTypes_0 : decode cX0_makeTypes 0 = .ok (.aload_n 0, 1) := by decide +kernel
theorem dX0_makeTypes_1 : decode cX0_makeTypes 1 = .ok (.getfield 18, 3) := by decide +kernel
theorem dX0_makeTypes_4 : decode cX0_makeTypes 4 = .ok (.getfield 73, 3) := by decide +kernel
theorem dX0_makeTypes_7 : decode cX0_makeTypes 7 = .ok (.istore_n 2, 1) := by decide +kernel
theorem dX0_makeTypes_8 : decode cX0_makeTypes 8 = .ok (.aload_n 0, 1) := by decide +kernel
theorem dX0_makeTypes_9 : decode cX0_makeTypes 9 = .ok (.iload_n 2, 1) := by decide +kernel
theorem dX0_makeTypes_10 : decode cX0_makeTypes 10 = .ok (.bipush 6, 2) := by decide +kernel
theorem dX0_makeTypes_12 : decode cX0_makeTypes 12 = .ok (.if_icmp .le 12, 3) := by decide +kernel
theorem dX0_makeTypes_15 : decode cX0_makeTypes 15 = .ok (.iconst 1, 1) := by decide +kernel
theorem dX0_makeTypes_16 : decode cX0_makeTypes 16 = .ok (.iload_n 2, 1) := by decide +kernel
theorem dX0_makeTypes_17 : decode cX0_makeTypes 17 = .ok (.bipush 6, 2) := by decide +kernel
theorem dX0_makeTypes_19 : decode cX0_makeTypes 19 = .ok (.isub, 1) := by decide +kernel
theorem dX0_makeTypes_20 : decode cX0_makeTypes 20 = .ok (.ishl, 1) := by decide +kernel
theorem dX0_makeTypes_21 : decode cX0_makeTypes 21 = .ok (.goto 4, 3) := by decide +kernel
theorem dX0_makeTypes_24 : decode cX0_makeTypes 24 = .ok (.iconst 1, 1) := by decide +kernel
theorem dX0_makeTypes_25 : decode cX0_makeTypes 25 = .ok (.putfield 84, 3) := by decide +kernel
theorem dX0_makeTypes_28 : decode cX0_makeTypes 28 = .ok (.iload_n 2, 1) := by decide +kernel
theorem dX0_makeTypes_29 : decode cX0_makeTypes 29 = .ok (.bipush 6, 2) := by decide +kernel
theorem dX0_makeTypes_31 : decode cX0_makeTypes 31 = .ok (.if_icmp .lt 9, 3) := by decide +kernel
theorem dX0_makeTypes_34 : decode cX0_makeTypes 34 = .ok (.ldc2_w 87, 3) := by decide +kernel
theorem dX0_makeTypes_37 : decode cX0_makeTypes 37 = .ok (.goto 10, 3) := by decide +kernel
theorem dX0_makeTypes_40 : decode cX0_makeTypes 40 = .ok (.lconst 1, 1) := by decide +kernel
theorem dX0_makeTypes_41 : decode cX0_makeTypes 41 = .ok (.iconst 1, 1) := by decide +kernel
theorem dX0_makeTypes_42 : decode cX0_makeTypes 42 = .ok (.iload_n 2, 1) := by decide +kernel
theorem dX0_makeTypes_43 : decode cX0_makeTypes 43 = .ok (.ishl, 1) := by decide +kernel
theorem dX0_makeTypes_44 : decode cX0_makeTypes 44 = .ok (.lshl, 1) := by decide +kernel
theorem dX0_makeTypes_45 : decode cX0_makeTypes 45 = .ok (.lconst 1, 1) := by decide +kernel
theorem dX0_makeTypes_46 : decode cX0_makeTypes 46 = .ok (.lsub, 1) := by decide +kernel
theorem dX0_makeTypes_47 : decode cX0_makeTypes 47 = .ok (.lstore_n 3, 1) := by decide +kernel
theorem dX0_makeTypes_48 : decode cX0_makeTypes 48 = .ok (.iconst 0, 1) := by decide +kernel
theorem dX0_makeTypes_49 : decode cX0_makeTypes 49 = .ok (.istore 5, 2) := by decide +kernel
theorem dX0_makeTypes_51 : decode cX0_makeTypes 51 = .ok (.iload 5, 2) := by decide +kernel
theorem dX0_makeTypes_53 : decode cX0_makeTypes 53 = .ok (.aload_n 0, 1) := by decide +kernel
theorem dX0_makeTypes_54 : decode cX0_makeTypes 54 = .ok (.getfield 84, 3) := by decide +kernel
theorem dX0_makeTypes_57 : decode cX0_makeTypes 57 = .ok (.if_icmp .ge 149, 3) := by decide +kernel
theorem dX0_makeTypes_60 : decode cX0_makeTypes 60 = .ok (.iconst 0, 1) := by decide +kernel
theorem dX0_makeTypes_61 : decode cX0_makeTypes 61 = .ok (.istore 6, 2) := by decide +kernel
theorem dX0_makeTypes_63 : decode cX0_makeTypes 63 = .ok (.iload 6, 2) := by decide +kernel
theorem dX0_makeTypes_65 : decode cX0_makeTypes 65 = .ok (.aload_n 0, 1) := by decide +kernel
theorem dX0_makeTypes_66 : decode cX0_makeTypes 66 = .ok (.getfield 18, 3) := by decide +kernel
theorem dX0_makeTypes_69 : decode cX0_makeTypes 69 = .ok (.getfield 112, 3) := by decide +kernel
theorem dX0_makeTypes_72 : decode cX0_makeTypes 72 = .ok (.if_icmp .ge 24, 3) := by decide +kernel
theorem dX0_makeTypes_75 : decode cX0_makeTypes 75 = .ok (.aload_n 0, 1) := by decide +kernel
theorem dX0_makeTypes_76 : decode cX0_makeTypes 76 = .ok (.getfield 22, 3) := by decide +kernel
theorem dX0_makeTypes_79 : decode cX0_makeTypes 79 = .ok (.iload 6, 2) := by decide +kernel
theorem dX0_makeTypes_81 : decode cX0_makeTypes 81 = .ok (.aload_n 0, 1) := by decide +kernel
theorem dX0_makeTypes_82 : decode cX0_makeTypes 82 = .ok (.iload 6, 2) := by decide +kernel
theorem dX0_makeTypes_84 : decode cX0_makeTypes 84 = .ok (.iload 5, 2) := by decide +kernel
theorem dX0_makeTypes_86 : decode cX0_makeTypes 86 = .ok (.invokevirtual 115, 3) := by decide +kernel
theorem dX0_makeTypes_89 : decode cX0_makeTypes 89 = .ok (.lastore, 1) := by decide +kernel
theorem dX0_makeTypes_90 : decode cX0_makeTypes 90 = .ok (.iinc 6 1, 3) := by decide +kernel
theorem dX0_makeTypes_93 : decode cX0_makeTypes 93 = .ok (.goto (-30), 3) := by decide +kernel
theorem dX0_makeTypes_96 : decode cX0_makeTypes 96 = .ok (.aload_n 0, 1) := by decide +kernel
theorem dX0_makeTypes_97 : decode cX0_makeTypes 97 = .ok (.getfield 29, 3) := by decide +kernel
theorem dX0_makeTypes_100 : decode cX0_makeTypes 100 = .ok (.iload 5, 2) := by decide +kernel
theorem dX0_makeTypes_102 : decode cX0_makeTypes 102 = .ok (.aload_n 0, 1) := by decide +kernel
theorem dX0_makeTypes_103 : decode cX0_makeTypes 103 = .ok (.getfield 22, 3) := by decide +kernel
theorem dX0_makeTypes_106 : decode cX0_makeTypes 106 = .ok (.iload_n 1, 1) := by decide +kernel
theorem dX0_makeTypes_107 : decode cX0_makeTypes 107 = .ok (.laload, 1) := by decide +kernel
theorem dX0_makeTypes_108 : decode cX0_makeTypes 108 = .ok (.lastore, 1) := by decide +kernel
theorem dX0_makeTypes_109 : decode cX0_makeTypes 109 = .ok (.aload_n 0, 1) := by decide +kernel
theorem dX0_makeTypes_110 : decode cX0_makeTypes 110 = .ok (.getfield 32, 3) := by decide +kernel
theorem dX0_makeTypes_113 : decode cX0_makeTypes 113 = .ok (.iload 5, 2) := by decide +kernel
theorem dX0_makeTypes_115 : decode cX0_makeTypes 115 = .ok (.lload_n 3, 1) := by decide +kernel
theorem dX0_makeTypes_116 : decode cX0_makeTypes 116 = .ok (.lastore, 1) := by decide +kernel
theorem dX0_makeTypes_117 : decode cX0_makeTypes 117 = .ok (.iconst 0, 1) := by decide +kernel
theorem dX0_makeTypes_118 : decode cX0_makeTypes 118 = .ok (.istore 6, 2) := by decide +kernel
theorem dX0_makeTypes_120 : decode cX0_makeTypes 120 = .ok (.iload 6, 2) := by decide +kernel
theorem dX0_makeTypes_122 : decode cX0_makeTypes 122 = .ok (.iload_n 2, 1) := by decide +kernel
theorem dX0_makeTypes_123 : decode cX0_makeTypes 123 = .ok (.if_icmp .ge 77, 3) := by decide +kernel
theorem dX0_makeTypes_126 : decode cX0_makeTypes 126 = .ok (.aload_n 0, 1) := by decide +kernel
theorem dX0_makeTypes_127 : decode cX0_makeTypes 127 = .ok (.getfield 26, 3) := by decide +kernel
theorem dX0_makeTypes_130 : decode cX0_makeTypes 130 = .ok (.iload 6, 2) := by decide +kernel
theorem dX0_makeTypes_132 : decode cX0_makeTypes 132 = .ok (.sipush 128, 3) := by decide +kernel
theorem dX0_makeTypes_135 : decode cX0_makeTypes 135 = .ok (.imul, 1) := by decide +kernel
theorem dX0_makeTypes_136 : decode cX0_makeTypes 136 = .ok (.iload 5, 2) := by decide +kernel
theorem dX0_makeTypes_138 : decode cX0_makeTypes 138 = .ok (.iadd, 1) := by decide +kernel
theorem dX0_makeTypes_139 : decode cX0_makeTypes 139 = .ok (.aload_n 0, 1) := by decide +kernel
theorem dX0_makeTypes_140 : decode cX0_makeTypes 140 = .ok (.getfield 22, 3) := by decide +kernel
theorem dX0_makeTypes_143 : decode cX0_makeTypes 143 = .ok (.aload_n 0, 1) := by decide +kernel
theorem dX0_makeTypes_144 : decode cX0_makeTypes 144 = .ok (.getfield 18, 3) := by decide +kernel
theorem dX0_makeTypes_147 : decode cX0_makeTypes 147 = .ok (.getfield 119, 3) := by decide +kernel
theorem dX0_makeTypes_150 : decode cX0_makeTypes 150 = .ok (.aload_n 0, 1) := by decide +kernel
theorem dX0_makeTypes_151 : decode cX0_makeTypes 151 = .ok (.getfield 18, 3) := by decide +kernel
theorem dX0_makeTypes_154 : decode cX0_makeTypes 154 = .ok (.getfield 98, 3) := by decide +kernel
theorem dX0_makeTypes_157 : decode cX0_makeTypes 157 = .ok (.iload 6, 2) := by decide +kernel
theorem dX0_makeTypes_159 : decode cX0_makeTypes 159 = .ok (.iaload, 1) := by decide +kernel
theorem dX0_makeTypes_160 : decode cX0_makeTypes 160 = .ok (.iaload, 1) := by decide +kernel
theorem dX0_makeTypes_161 : decode cX0_makeTypes 161 = .ok (.laload, 1) := by decide +kernel
theorem dX0_makeTypes_162 : decode cX0_makeTypes 162 = .ok (.lastore, 1) := by decide +kernel
theorem dX0_makeTypes_163 : decode cX0_makeTypes 163 = .ok (.aload_n 0, 1) := by decide +kernel
theorem dX0_makeTypes_164 : decode cX0_makeTypes 164 = .ok (.getfield 32, 3) := by decide +kernel
theorem dX0_makeTypes_167 : decode cX0_makeTypes 167 = .ok (.iload 5, 2) := by decide +kernel
theorem dX0_makeTypes_169 : decode cX0_makeTypes 169 = .ok (.dup2, 1) := by decide +kernel
theorem dX0_makeTypes_170 : decode cX0_makeTypes 170 = .ok (.laload, 1) := by decide +kernel
theorem dX0_makeTypes_171 : decode cX0_makeTypes 171 = .ok (.aload_n 0, 1) := by decide +kernel
theorem dX0_makeTypes_172 : decode cX0_makeTypes 172 = .ok (.iload 6, 2) := by decide +kernel
theorem dX0_makeTypes_174 : decode cX0_makeTypes 174 = .ok (.iload 5, 2) := by decide +kernel
theorem dX0_makeTypes_176 : decode cX0_makeTypes 176 = .ok (.invokevirtual 122, 3) := by decide +kernel
theorem dX0_makeTypes_179 : decode cX0_makeTypes 179 = .ok (.ldc2_w 87, 3) := by decide +kernel
theorem dX0_makeTypes_182 : decode cX0_makeTypes 182 = .ok (.lxor, 1) := by decide +kernel
theorem dX0_makeTypes_183 : decode cX0_makeTypes 183 = .ok (.aload_n 0, 1) := by decide +kernel
theorem dX0_makeTypes_184 : decode cX0_makeTypes 184 = .ok (.iload 6, 2) := by decide +kernel
theorem dX0_makeTypes_186 : decode cX0_makeTypes 186 = .ok (.iload 5, 2) := by decide +kernel
theorem dX0_makeTypes_188 : decode cX0_makeTypes 188 = .ok (.invokevirtual 125, 3) := by decide +kernel
theorem dX0_makeTypes_191 : decode cX0_makeTypes 191 = .ok (.lor, 1) := by decide +kernel
theorem dX0_makeTypes_192 : decode cX0_makeTypes 192 = .ok (.land, 1) := by decide +kernel
theorem dX0_makeTypes_193 : decode cX0_makeTypes 193 = .ok (.lastore, 1) := by decide +kernel
theorem dX0_makeTypes_194 : decode cX0_makeTypes 194 = .ok (.iinc 6 1, 3) := by decide +kernel
theorem dX0_makeTypes_197 : decode cX0_makeTypes 197 = .ok (.goto (-77), 3) := by decide +kernel
theorem dX0_makeTypes_200 : decode cX0_makeTypes 200 = .ok (.iinc 5 1, 3) := by decide +kernel
theorem dX0_makeTypes_203 : decode cX0_makeTypes 203 = .ok (.goto (-152), 3) := by decide +kernel
theorem dX0_makeTypes_206 : decode cX0_makeTypes 206 = .ok (.return_, 1) := by decide +kernel
def f_X0_makeTypes_120s (F P : Nat) (S : xSt) (rec_51 : Nat → Int32 → Int32 → Int64 → Int32 → xDt → Option (xDt)) (rec_120 : Nat → Int32 → Int32 → Int64 → Int32 → Int32 → xDt → Option (xDt)) (v0 : Nat) (v1 : Int32) (v2 : Int32) (v3 : Int64) (v5 : Int32) (v6 : Int32) (D : xDt) : Option (xDt) :=
  if v2 ≤ v6 then (xlet (v5 + 1) fun v5_1 => rec_51 v0 v1 v2 v3 v5_1 D) else (xgrd (xin v6 (xl S (xr S (xr S v0 1) 4))) (xgrd (xin (D.1 (xr S (xr S v0 1) 4) (v6).toNatClampNeg) (xl S (xr S (xr S v0 1) 1))) (xgrd (xin (D.1 (xr S (xr S v0 1) 1) (D.1 (xr S (xr S v0 1) 4) (v6).toNatClampNeg).toNatClampNeg) (xl S (xr S v0 2))) (xgrd (xin ((v6 * 128) + v5) (xl S (xr S v0 3))) (xlet (D.1, xup D.2 (xr S v0 3) ((v6 * 128) + v5).toNatClampNeg (D.2 (xr S v0 2) (D.1 (xr S (xr S v0 1) 1) (D.1 (xr S (xr S v0 1) 4) (v6).toNatClampNeg).toNatClampNeg).toNatClampNeg)) fun D6 => xgrd (xin v5 (xl S (xr S v0 5))) ((f_X0_telling F P S v0 v6 v5 D6).bind fun q8 => (f_X0_lawful F P S v0 v6 v5 q8.2).bind fun q9 => xgrd (xin v5 (xl S (xr S v0 5))) (xlet (q9.2.1, xup q9.2.2 (xr S v0 5) (v5).toNatClampNeg ((D6.2 (xr S v0 5) (v5).toNatClampNeg) &&& ((q8.1 ^^^ (-1)) ||| q9.1))) fun D11 => xlet (v6 + 1) fun v6_12 => rec_120 v0 v1 v2 v3 v5 v6_12 D11)))))))
def f_X0_makeTypes_120 (F P : Nat) (S : xSt) (rec_51 : Nat → Int32 → Int32 → Int64 → Int32 → xDt → Option (xDt)) : Nat → Nat → Int32 → Int32 → Int64 → Int32 → Int32 → xDt → Option (xDt)
  | 0 => fun _ _ _ _ _ _ _ => none
  | n + 1 => f_X0_makeTypes_120s F P S rec_51 (f_X0_makeTypes_120 F P S rec_51 n)
set_option maxHeartbeats 4000000 in
theorem t_X0_makeTypes_120s {F P : Nat} {S : xSt} (hS : xWF S) {rec_51 : Nat → Int32 → Int32 → Int64 → Int32 → xDt → Option (xDt)} (hrec_51 : ∀ {v0 : Nat} {v1 : Int32} {v2 : Int32} {v3 : Int64} {v5 : Int32} {D : xDt} {r : xDt}, xK S v0 0 → rec_51 v0 v1 v2 v3 v5 D = some r → yEx md_X0_makeTypes 3 51 [(0, .ref v0), (1, .int v1), (2, .int v2), (3, .long v3), (5, .int v5)] [] S D (xQv S r)) {rec_120 : Nat → Int32 → Int32 → Int64 → Int32 → Int32 → xDt → Option (xDt)} (hrec_120 : ∀ {v0 : Nat} {v1 : Int32} {v2 : Int32} {v3 : Int64} {v5 : Int32} {v6 : Int32} {D : xDt} {r : xDt}, xK S v0 0 → rec_120 v0 v1 v2 v3 v5 v6 D = some r → yEx md_X0_makeTypes 3 120 [(0, .ref v0), (1, .int v1), (2, .int v2), (3, .long v3), (5, .int v5), (6, .int v6)] [] S D (xQv S r)) {v0 : Nat} {v1 : Int32} {v2 : Int32} {v3 : Int64} {v5 : Int32} {v6 : Int32} {D : xDt} {r : xDt} (k0 : xK S v0 0) (h : f_X0_makeTypes_120s F P S rec_51 rec_120 v0 v1 v2 v3 v5 v6 D = some r) : yEx md_X0_makeTypes 3 120 [(0, .ref v0), (1, .int v1), (2, .int v2), (3, .long v3), (5, .int v5), (6, .int v6)] [] S D (xQv S r) := by
  unfold f_X0_makeTypes_120s at h
  refine x_iload dX0_makeTypes_120 5 rfl ?_
  refine x_iload_n dX0_makeTypes_122 2 rfl ?_
  refine x_icmp_ge 200 dX0_makeTypes_123 (by decide) (fun c => ?_) (fun c => ?_)
  · rw [if_pos c] at h
    refine xlet_e h (fun v5_1 ev5_1 h => ?_)
    refine y_iinc v5_1 ev5_1 (by decide) [(5, .int v5_1), (0, .ref v0), (1, .int v1), (2, .int v2), (3, .long v3), (6, .int v6)] dX0_makeTypes_200 4 rfl (by show _ < 7; decide) rfl ?_
    refine x_goto 51 dX0_makeTypes_203 (by decide) ?_
    refine x_lv (lv' := [(0, .ref v0), (1, .int v1), (2, .int v2), (3, .long v3), (5, .int v5_1)]) [1, 2, 3, 4, 0] rfl ?_
    exact hrec_51 k0 h
  · rw [if_neg c] at h
    refine x_aload_n dX0_makeTypes_126 0 rfl ?_
    refine y_getr (kd := 101) hS fl_RX0_26 dX0_makeTypes_127 rfl k0 ?_
    refine x_iload dX0_makeTypes_130 5 rfl ?_
    refine x_sipush 128 dX0_makeTypes_132 (by decide) ?_
    refine x_imul dX0_makeTypes_135 ?_
    refine x_iload dX0_makeTypes_136 4 rfl ?_
    refine x_iadd dX0_makeTypes_138 ?_
    refine x_aload_n dX0_makeTypes_139 0 rfl ?_
    refine y_getr (kd := 101) hS fl_RX0_22 dX0_makeTypes_140 rfl k0 ?_
    refine x_aload_n dX0_makeTypes_143 0 rfl ?_
    refine y_getr (kd := 8) hS fl_RX0_18 dX0_makeTypes_144 rfl k0 ?_
    refine y_getr (kd := 100) hS fl_RX0_119 dX0_makeTypes_147 rfl ((hS.f k0 1 8 rfl).2) ?_
    refine x_aload_n dX0_makeTypes_150 0 rfl ?_
    refine y_getr (kd := 8) hS fl_RX0_18 dX0_makeTypes_151 rfl k0 ?_
    refine y_getr (kd := 100) hS fl_RX0_98 dX0_makeTypes_154 rfl ((hS.f k0 1 8 rfl).2) ?_
    refine x_iload dX0_makeTypes_157 5 rfl ?_
    refine xgrd_e h (fun g2 h => ?_)
    refine y_iald dX0_makeTypes_159 ((hS.f ((hS.f k0 1 8 rfl).2) 4 100 rfl).2) g2 ?_
    refine xgrd_e h (fun g3 h => ?_)
    refine y_iald dX0_makeTypes_160 ((hS.f ((hS.f k0 1 8 rfl).2) 1 100 rfl).2) g3 ?_
    refine xgrd_e h (fun g4 h => ?_)
    refine y_lald dX0_makeTypes_161 ((hS.f k0 2 101 rfl).2) g4 ?_
    refine xgrd_e h (fun g5 h => ?_)
    refine xlet_e h (fun D6 eD6 h => ?_)
    refine y_last dX0_makeTypes_162 ((hS.f k0 3 101 rfl).2) g5 eD6 ?_
    refine x_aload_n dX0_makeTypes_163 0 rfl ?_
    refine y_getr (kd := 101) hS fl_RX0_32 dX0_makeTypes_164 rfl k0 ?_
    refine x_iload dX0_makeTypes_167 4 rfl ?_
    refine x_dup2 dX0_makeTypes_169 rfl rfl ?_
    refine xgrd_e h (fun g7 h => ?_)
    refine y_lald dX0_makeTypes_170 ((hS.f k0 5 101 rfl).2) g7 ?_
    refine x_aload_n dX0_makeTypes_171 0 rfl ?_
    refine x_iload dX0_makeTypes_172 5 rfl ?_
    refine x_iload dX0_makeTypes_174 4 rfl ?_
    refine xbnd_e h (fun q8 e8 h => ?_)
    refine y_callVl (As := [.int v6, .int v5]) (q := q8) cv_RX0_122 dX0_makeTypes_176 k0 rfl (Nat.le_of_ble_eq_true rfl) (by omega) (S_X0_telling hS k0 e8) ?_
    refine x_ldc2 (-1) dX0_makeTypes_179 wd_1021 ?_
    refine x_lxor dX0_makeTypes_182 ?_
    refine x_aload_n dX0_makeTypes_183 0 rfl ?_
    refine x_iload dX0_makeTypes_184 5 rfl ?_
    refine x_iload dX0_makeTypes_186 4 rfl ?_
    refine xbnd_e h (fun q9 e9 h => ?_)
    refine y_callVl (As := [.int v6, .int v5]) (q := q9) cv_RX0_125 dX0_makeTypes_188 k0 rfl (Nat.le_of_ble_eq_true rfl) (by omega) (S_X0_lawful hS k0 e9) ?_
    refine x_lor dX0_makeTypes_191 ?_
    refine x_land dX0_makeTypes_192 ?_
    refine xgrd_e h (fun g10 h => ?_)
    refine xlet_e h (fun D11 eD11 h => ?_)
    refine y_last dX0_makeTypes_193 ((hS.f k0 5 101 rfl).2) g10 eD11 ?_
    refine xlet_e h (fun v6_12 ev6_12 h => ?_)
    refine y_iinc v6_12 ev6_12 (by decide) [(6, .int v6_12), (0, .ref v0), (1, .int v1), (2, .int v2), (3, .long v3), (5, .int v5)] dX0_makeTypes_194 5 rfl (by show _ < 7; decide) rfl ?_
    refine x_goto 120 dX0_makeTypes_197 (by decide) ?_
    refine x_lv (lv' := [(0, .ref v0), (1, .int v1), (2, .int v2), (3, .long v3), (5, .int v5), (6, .int v6_12)]) [1, 2, 3, 4, 5, 0] rfl ?_
    exact hrec_120 k0 h
theorem t_X0_makeTypes_120 {F P : Nat} {S : xSt} (hS : xWF S) {rec_51 : Nat → Int32 → Int32 → Int64 → Int32 → xDt → Option (xDt)} (hrec_51 : ∀ {v0 : Nat} {v1 : Int32} {v2 : Int32} {v3 : Int64} {v5 : Int32} {D : xDt} {r : xDt}, xK S v0 0 → rec_51 v0 v1 v2 v3 v5 D = some r → yEx md_X0_makeTypes 3 51 [(0, .ref v0), (1, .int v1), (2, .int v2), (3, .long v3), (5, .int v5)] [] S D (xQv S r)) : ∀ (n : Nat) {v0 : Nat} {v1 : Int32} {v2 : Int32} {v3 : Int64} {v5 : Int32} {v6 : Int32} {D : xDt} {r : xDt}, xK S v0 0 → f_X0_makeTypes_120 F P S rec_51 n v0 v1 v2 v3 v5 v6 D = some r → yEx md_X0_makeTypes 3 120 [(0, .ref v0), (1, .int v1), (2, .int v2), (3, .long v3), (5, .int v5), (6, .int v6)] [] S D (xQv S r) := by
  intro n
  induction n with
  | zero => intros; rename_i h; cases h
  | succ n ih =>
    intro v0 v1 v2 v3 v5 v6 D r k0 h
    exact t_X0_makeTypes_120s hS hrec_51 (fun k0 h => ih k0 h) k0 h

def f_X0_makeTypes_63s (F P : Nat) (S : xSt) (rec_51 : Nat → Int32 → Int32 → Int64 → Int32 → xDt → Option (xDt)) (rec_63 : Nat → Int32 → Int32 → Int64 → Int32 → Int32 → xDt → Option (xDt)) (v0 : Nat) (v1 : Int32) (v2 : Int32) (v3 : Int64) (v5 : Int32) (v6 : Int32) (D : xDt) : Option (xDt) :=
  if (D.1 (xr S v0 1) 7) ≤ v6 then (xgrd (xin v1 (xl S (xr S v0 2))) (xgrd (xin v5 (xl S (xr S v0 4))) (xlet (D.1, xup D.2 (xr S v0 4) (v5).toNatClampNeg (D.2 (xr S v0 2) (v1).toNatClampNeg)) fun D3 => xgrd (xin v5 (xl S (xr S v0 5))) (xlet (D3.1, xup D3.2 (xr S v0 5) (v5).toNatClampNeg v3) fun D5 => f_X0_makeTypes_120 F P S rec_51 F v0 v1 v2 v3 v5 0 D5)))) else ((f_X0_valueOf F P S v0 v6 v5 D).bind fun q6 => xgrd (xin v6 (xl S (xr S v0 2))) (xlet (q6.2.1, xup q6.2.2 (xr S v0 2) (v6).toNatClampNeg q6.1) fun D8 => xlet (v6 + 1) fun v6_9 => rec_63 v0 v1 v2 v3 v5 v6_9 D8))
def f_X0_makeTypes_63 (F P : Nat) (S : xSt) (rec_51 : Nat → Int32 → Int32 → Int64 → Int32 → xDt → Option (xDt)) : Nat → Nat → Int32 → Int32 → Int64 → Int32 → Int32 → xDt → Option (xDt)
  | 0 => fun _ _ _ _ _ _ _ => none
  | n + 1 => f_X0_makeTypes_63s F P S rec_51 (f_X0_makeTypes_63 F P S rec_51 n)
set_option maxHeartbeats 4000000 in
theorem t_X0_makeTypes_63s {F P : Nat} {S : xSt} (hS : xWF S) {rec_51 : Nat → Int32 → Int32 → Int64 → Int32 → xDt → Option (xDt)} (hrec_51 : ∀ {v0 : Nat} {v1 : Int32} {v2 : Int32} {v3 : Int64} {v5 : Int32} {D : xDt} {r : xDt}, xK S v0 0 → rec_51 v0 v1 v2 v3 v5 D = some r → yEx md_X0_makeTypes 3 51 [(0, .ref v0), (1, .int v1), (2, .int v2), (3, .long v3), (5, .int v5)] [] S D (xQv S r)) {rec_63 : Nat → Int32 → Int32 → Int64 → Int32 → Int32 → xDt → Option (xDt)} (hrec_63 : ∀ {v0 : Nat} {v1 : Int32} {v2 : Int32} {v3 : Int64} {v5 : Int32} {v6 : Int32} {D : xDt} {r : xDt}, xK S v0 0 → rec_63 v0 v1 v2 v3 v5 v6 D = some r → yEx md_X0_makeTypes 3 63 [(0, .ref v0), (1, .int v1), (2, .int v2), (3, .long v3), (5, .int v5), (6, .int v6)] [] S D (xQv S r)) {v0 : Nat} {v1 : Int32} {v2 : Int32} {v3 : Int64} {v5 : Int32} {v6 : Int32} {D : xDt} {r : xDt} (k0 : xK S v0 0) (h : f_X0_makeTypes_63s F P S rec_51 rec_63 v0 v1 v2 v3 v5 v6 D = some r) : yEx md_X0_makeTypes 3 63 [(0, .ref v0), (1, .int v1), (2, .int v2), (3, .long v3), (5, .int v5), (6, .int v6)] [] S D (xQv S r) := by
  unfold f_X0_makeTypes_63s at h
  refine x_iload dX0_makeTypes_63 5 rfl ?_
  refine x_aload_n dX0_makeTypes_65 0 rfl ?_
  refine y_getr (kd := 8) hS fl_RX0_18 dX0_makeTypes_66 rfl k0 ?_
  refine y_geti fl_RX0_112 dX0_makeTypes_69 rfl ((hS.f k0 1 8 rfl).2) ?_
  refine x_icmp_ge 96 dX0_makeTypes_72 (by decide) (fun c => ?_) (fun c => ?_)
  · rw [if_pos c] at h
    refine x_aload_n dX0_makeTypes_96 0 rfl ?_
    refine y_getr (kd := 101) hS fl_RX0_29 dX0_makeTypes_97 rfl k0 ?_
    refine x_iload dX0_makeTypes_100 4 rfl ?_
    refine x_aload_n dX0_makeTypes_102 0 rfl ?_
    refine y_getr (kd := 101) hS fl_RX0_22 dX0_makeTypes_103 rfl k0 ?_
    refine x_iload_n dX0_makeTypes_106 1 rfl ?_
    refine xgrd_e h (fun g1 h => ?_)
    refine y_lald dX0_makeTypes_107 ((hS.f k0 2 101 rfl).2) g1 ?_
    refine xgrd_e h (fun g2 h => ?_)
    refine xlet_e h (fun D3 eD3 h => ?_)
    refine y_last dX0_makeTypes_108 ((hS.f k0 4 101 rfl).2) g2 eD3 ?_
    refine x_aload_n dX0_makeTypes_109 0 rfl ?_
    refine y_getr (kd := 101) hS fl_RX0_32 dX0_makeTypes_110 rfl k0 ?_
    refine x_iload dX0_makeTypes_113 4 rfl ?_
    refine x_lload_n dX0_makeTypes_115 3 rfl ?_
    refine xgrd_e h (fun g4 h => ?_)
    refine xlet_e h (fun D5 eD5 h => ?_)
    refine y_last dX0_makeTypes_116 ((hS.f k0 5 101 rfl).2) g4 eD5 ?_
    refine x_iconst 0 dX0_makeTypes_117 (by decide) ?_
    refine y_istore 0 rfl [(6, .int 0), (0, .ref v0), (1, .int v1), (2, .int v2), (3, .long v3), (5, .int v5)] dX0_makeTypes_118 (by show _ < 7; decide) rfl ?_
    refine x_lv (lv' := [(0, .ref v0), (1, .int v1), (2, .int v2), (3, .long v3), (5, .int v5), (6, .int 0)]) [1, 2, 3, 4, 5, 0] rfl ?_
    exact t_X0_makeTypes_120 hS hrec_51 F k0 h
  · rw [if_neg c] at h
    refine x_aload_n dX0_makeTypes_75 0 rfl ?_
    refine y_getr (kd := 101) hS fl_RX0_22 dX0_makeTypes_76 rfl k0 ?_
    refine x_iload dX0_makeTypes_79 5 rfl ?_
    refine x_aload_n dX0_makeTypes_81 0 rfl ?_
    refine x_iload dX0_makeTypes_82 5 rfl ?_
    refine x_iload dX0_makeTypes_84 4 rfl ?_
    refine xbnd_e h (fun q6 e6 h => ?_)
    refine y_callVl (As := [.int v6, .int v5]) (q := q6) cv_RX0_115 dX0_makeTypes_86 k0 rfl (Nat.le_of_ble_eq_true rfl) (by omega) (S_X0_valueOf hS k0 e6) ?_
    refine xgrd_e h (fun g7 h => ?_)
    refine xlet_e h (fun D8 eD8 h => ?_)
    refine y_last dX0_makeTypes_89 ((hS.f k0 2 101 rfl).2) g7 eD8 ?_
    refine xlet_e h (fun v6_9 ev6_9 h => ?_)
    refine y_iinc v6_9 ev6_9 (by decide) [(6, .int v6_9), (0, .ref v0), (1, .int v1), (2, .int v2), (3, .long v3), (5, .int v5)] dX0_makeTypes_90 5 rfl (by show _ < 7; decide) rfl ?_
    refine x_goto 63 dX0_makeTypes_93 (by decide) ?_
    refine x_lv (lv' := [(0, .ref v0), (1, .int v1), (2, .int v2), (3, .long v3), (5, .int v5), (6, .int v6_9)]) [1, 2, 3, 4, 5, 0] rfl ?_
    exact hrec_63 k0 h
theorem t_X0_makeTypes_63 {F P : Nat} {S : xSt} (hS : xWF S) {rec_51 : Nat → Int32 → Int32 → Int64 → Int32 → xDt → Option (xDt)} (hrec_51 : ∀ {v0 : Nat} {v1 : Int32} {v2 : Int32} {v3 : Int64} {v5 : Int32} {D : xDt} {r : xDt}, xK S v0 0 → rec_51 v0 v1 v2 v3 v5 D = some r → yEx md_X0_makeTypes 3 51 [(0, .ref v0), (1, .int v1), (2, .int v2), (3, .long v3), (5, .int v5)] [] S D (xQv S r)) : ∀ (n : Nat) {v0 : Nat} {v1 : Int32} {v2 : Int32} {v3 : Int64} {v5 : Int32} {v6 : Int32} {D : xDt} {r : xDt}, xK S v0 0 → f_X0_makeTypes_63 F P S rec_51 n v0 v1 v2 v3 v5 v6 D = some r → yEx md_X0_makeTypes 3 63 [(0, .ref v0), (1, .int v1), (2, .int v2), (3, .long v3), (5, .int v5), (6, .int v6)] [] S D (xQv S r) := by
  intro n
  induction n with
  | zero => intros; rename_i h; cases h
  | succ n ih =>
    intro v0 v1 v2 v3 v5 v6 D r k0 h
    exact t_X0_makeTypes_63s hS hrec_51 (fun k0 h => ih k0 h) k0 h

def f_X0_makeTypes_51s (F P : Nat) (S : xSt) (rec_51 : Nat → Int32 → Int32 → Int64 → Int32 → xDt → Option (xDt)) (v0 : Nat) (v1 : Int32) (v2 : Int32) (v3 : Int64) (v5 : Int32) (D : xDt) : Option (xDt) :=
  if (D.1 v0 9) ≤ v5 then (some D) else (f_X0_makeTypes_63 F P S rec_51 F v0 v1 v2 v3 v5 0 D)
def f_X0_makeTypes_51 (F P : Nat) (S : xSt) : Nat → Nat → Int32 → Int32 → Int64 → Int32 → xDt → Option (xDt)
  | 0 => fun _ _ _ _ _ _ => none
  | n + 1 => f_X0_makeTypes_51s F P S (f_X0_makeTypes_51 F P S n)
set_option maxHeartbeats 4000000 in
theorem t_X0_makeTypes_51s {F P : Nat} {S : xSt} (hS : xWF S) {rec_51 : Nat → Int32 → Int32 → Int64 → Int32 → xDt → Option (xDt)} (hrec_51 : ∀ {v0 : Nat} {v1 : Int32} {v2 : Int32} {v3 : Int64} {v5 : Int32} {D : xDt} {r : xDt}, xK S v0 0 → rec_51 v0 v1 v2 v3 v5 D = some r → yEx md_X0_makeTypes 3 51 [(0, .ref v0), (1, .int v1), (2, .int v2), (3, .long v3), (5, .int v5)] [] S D (xQv S r)) {v0 : Nat} {v1 : Int32} {v2 : Int32} {v3 : Int64} {v5 : Int32} {D : xDt} {r : xDt} (k0 : xK S v0 0) (h : f_X0_makeTypes_51s F P S rec_51 v0 v1 v2 v3 v5 D = some r) : yEx md_X0_makeTypes 3 51 [(0, .ref v0), (1, .int v1), (2, .int v2), (3, .long v3), (5, .int v5)] [] S D (xQv S r) := by
  unfold f_X0_makeTypes_51s at h
  refine x_iload dX0_makeTypes_51 4 rfl ?_
  refine x_aload_n dX0_makeTypes_53 0 rfl ?_
  refine y_geti fl_RX0_84 dX0_makeTypes_54 rfl k0 ?_
  refine x_icmp_ge 206 dX0_makeTypes_57 (by decide) (fun c => ?_) (fun c => ?_)
  · rw [if_pos c] at h
    obtain rfl := Option.some.inj h
    exact y_vret rfl dX0_makeTypes_206
  · rw [if_neg c] at h
    refine x_iconst 0 dX0_makeTypes_60 (by decide) ?_
    refine y_istore 0 rfl [(6, .int 0), (0, .ref v0), (1, .int v1), (2, .int v2), (3, .long v3), (5, .int v5)] dX0_makeTypes_61 (by show _ < 7; decide) rfl ?_
    refine x_lv (lv' := [(0, .ref v0), (1, .int v1), (2, .int v2), (3, .long v3), (5, .int v5), (6, .int 0)]) [1, 2, 3, 4, 5, 0] rfl ?_
    exact t_X0_makeTypes_63 hS hrec_51 F k0 h
theorem t_X0_makeTypes_51 {F P : Nat} {S : xSt} (hS : xWF S) : ∀ (n : Nat) {v0 : Nat} {v1 : Int32} {v2 : Int32} {v3 : Int64} {v5 : Int32} {D : xDt} {r : xDt}, xK S v0 0 → f_X0_makeTypes_51 F P S n v0 v1 v2 v3 v5 D = some r → yEx md_X0_makeTypes 3 51 [(0, .ref v0), (1, .int v1), (2, .int v2), (3, .long v3), (5, .int v5)] [] S D (xQv S r) := by
  intro n
  induction n with
  | zero => intros; rename_i h; cases h
  | succ n ih =>
    intro v0 v1 v2 v3 v5 D r k0 h
    exact t_X0_makeTypes_51s hS (fun k0 h => ih k0 h) k0 h

def f_X0_makeTypes_47 (F P : Nat) (S : xSt) (v0 : Nat) (v1 : Int32) (v2 : Int32) (s0 : Int64) (D : xDt) : Option (xDt) :=
  f_X0_makeTypes_51 F P S F v0 v1 v2 s0 0 D
set_option maxHeartbeats 4000000 in
theorem t_X0_makeTypes_47 {F P : Nat} {S : xSt} (hS : xWF S) {v0 : Nat} {v1 : Int32} {v2 : Int32} {s0 : Int64} {D : xDt} {r : xDt} (k0 : xK S v0 0) (h : f_X0_makeTypes_47 F P S v0 v1 v2 s0 D = some r) : yEx md_X0_makeTypes 3 47 [(0, .ref v0), (1, .int v1), (2, .int v2)] [.long s0] S D (xQv S r) := by
  unfold f_X0_makeTypes_47 at h
  refine y_lstore_n s0 rfl [(3, .long s0), (0, .ref v0), (1, .int v1), (2, .int v2)] dX0_makeTypes_47 (by show _ < 7; decide) rfl ?_
  refine x_iconst 0 dX0_makeTypes_48 (by decide) ?_
  refine y_istore 0 rfl [(5, .int 0), (3, .long s0), (0, .ref v0), (1, .int v1), (2, .int v2)] dX0_makeTypes_49 (by show _ < 7; decide) rfl ?_
  refine x_lv (lv' := [(0, .ref v0), (1, .int v1), (2, .int v2), (3, .long s0), (5, .int 0)]) [2, 3, 4, 1, 0] rfl ?_
  exact t_X0_makeTypes_51 hS F k0 h

def f_X0_makeTypes_25 (F P : Nat) (S : xSt) (v0 : Nat) (v1 : Int32) (v2 : Int32) (s0 : Int32) (s1 : Nat) (D : xDt) : Option (xDt) :=
  xlet (xup D.1 s1 9 s0, D.2) fun D1 => if v2 < 6 then (f_X0_makeTypes_47 F P S v0 v1 v2 ((jlshl 1 (jishl 1 v2)) - 1) D1) else (f_X0_makeTypes_47 F P S v0 v1 v2 (-1) D1)
set_option maxHeartbeats 4000000 in
theorem t_X0_makeTypes_25 {F P : Nat} {S : xSt} (hS : xWF S) {v0 : Nat} {v1 : Int32} {v2 : Int32} {s0 : Int32} {s1 : Nat} {D : xDt} {r : xDt} (k0 : xK S v0 0) (ks1 : xK S s1 0) (h : f_X0_makeTypes_25 F P S v0 v1 v2 s0 s1 D = some r) : yEx md_X0_makeTypes 3 25 [(0, .ref v0), (1, .int v1), (2, .int v2)] [.int s0, .ref s1] S D (xQv S r) := by
  unfold f_X0_makeTypes_25 at h
  refine xlet_e h (fun D1 eD1 h => ?_)
  refine y_puti fp_RX0_84 dX0_makeTypes_25 rfl ks1 eD1 ?_
  refine x_iload_n dX0_makeTypes_28 2 rfl ?_
  refine x_bipush 6 dX0_makeTypes_29 (by decide) ?_
  refine x_icmp_lt 40 dX0_makeTypes_31 (by decide) (fun c => ?_) (fun c => ?_)
  · rw [if_pos c] at h
    refine x_lconst 1 dX0_makeTypes_40 (by decide) ?_
    refine x_iconst 1 dX0_makeTypes_41 (by decide) ?_
    refine x_iload_n dX0_makeTypes_42 2 rfl ?_
    refine x_ishl dX0_makeTypes_43 ?_
    refine x_lshl dX0_makeTypes_44 ?_
    refine x_lconst 1 dX0_makeTypes_45 (by decide) ?_
    refine x_lsub dX0_makeTypes_46 ?_
    exact t_X0_makeTypes_47 hS k0 h
  · rw [if_neg c] at h
    refine x_ldc2 (-1) dX0_makeTypes_34 wd_1021 ?_
    refine x_goto 47 dX0_makeTypes_37 (by decide) ?_
    exact t_X0_makeTypes_47 hS k0 h

def f_X0_makeTypes (F P : Nat) (S : xSt) (v0 : Nat) (v1 : Int32) (D : xDt) : Option (xDt) :=
  xlet (D.1 (xr S v0 1) 8) fun v2_1 => if v2_1 ≤ 6 then (f_X0_makeTypes_25 F P S v0 v1 v2_1 1 v0 D) else (f_X0_makeTypes_25 F P S v0 v1 v2_1 (jishl 1 (v2_1 - 6)) v0 D)
set_option maxHeartbeats 4000000 in
theorem S_X0_makeTypes {F P : Nat} {S : xSt} (hS : xWF S) {v0 : Nat} {v1 : Int32} {D : xDt} {r : xDt} (k0 : xK S v0 0) (h : f_X0_makeTypes F P S v0 v1 D = some r) : xSp md_X0_makeTypes (3, 0, 0) [.ref v0, .int v1] (S, D) (xQv S r) := by
  unfold f_X0_makeTypes at h
  refine xEntry (by decide) (Nat.le_of_ble_eq_true rfl) ?_
  refine x_lv (lv' := [(0, .ref v0), (1, .int v1)]) [0, 1] rfl ?_
  refine x_aload_n dX0_makeTypes_0 0 rfl ?_
  refine y_getr (kd := 8) hS fl_RX0_18 dX0_makeTypes_1 rfl k0 ?_
  refine y_geti fl_RX0_73 dX0_makeTypes_4 rfl ((hS.f k0 1 8 rfl).2) ?_
  refine xlet_e h (fun v2_1 ev2_1 h => ?_)
  refine y_istore_n v2_1 ev2_1 [(2, .int v2_1), (0, .ref v0), (1, .int v1)] dX0_makeTypes_7 (by show _ < 7; decide) rfl ?_
  refine x_aload_n dX0_makeTypes_8 1 rfl ?_
  refine x_iload_n dX0_makeTypes_9 0 rfl ?_
  refine x_bipush 6 dX0_makeTypes_10 (by decide) ?_
  refine x_icmp_le 24 dX0_makeTypes_12 (by decide) (fun c => ?_) (fun c => ?_)
  · rw [if_pos c] at h
    refine x_iconst 1 dX0_makeTypes_24 (by decide) ?_
    refine x_lv (lv' := [(0, .ref v0), (1, .int v1), (2, .int v2_1)]) [1, 2, 0] rfl ?_
    exact t_X0_makeTypes_25 hS k0 k0 h
  · rw [if_neg c] at h
    refine x_iconst 1 dX0_makeTypes_15 (by decide) ?_
    refine x_iload_n dX0_makeTypes_16 0 rfl ?_
    refine x_bipush 6 dX0_makeTypes_17 (by decide) ?_
    refine x_isub dX0_makeTypes_19 ?_
    refine x_ishl dX0_makeTypes_20 ?_
    refine x_goto 25 dX0_makeTypes_21 (by decide) ?_
    refine x_lv (lv' := [(0, .ref v0), (1, .int v1), (2, .int v2_1)]) [1, 2, 0] rfl ?_
    exact t_X0_makeTypes_25 hS k0 k0 h

theorem dJ13_bitCount_95d88_0 : decode cJ13_bitCount_95d88 0 = .ok (.lload_n 0, 1) := by decide +kernel
theorem dJ13_bitCount_95d88_1 : decode cJ13_bitCount_95d88 1 = .ok (.lload_n 0, 1) := by decide +kernel
theorem dJ13_bitCount_95d88_2 : decode cJ13_bitCount_95d88 2 = .ok (.iconst 1, 1) := by decide +kernel
theorem dJ13_bitCount_95d88_3 : decode cJ13_bitCount_95d88 3 = .ok (.lushr, 1) := by decide +kernel
theorem dJ13_bitCount_95d88_4 : decode cJ13_bitCount_95d88 4 = .ok (.ldc2_w 314, 3) := by decide +kernel
theorem dJ13_bitCount_95d88_7 : decode cJ13_bitCount_95d88 7 = .ok (.land, 1) := by decide +kernel
theorem dJ13_bitCount_95d88_8 : decode cJ13_bitCount_95d88 8 = .ok (.lsub, 1) := by decide +kernel
theorem dJ13_bitCount_95d88_9 : decode cJ13_bitCount_95d88 9 = .ok (.lstore_n 0, 1) := by decide +kernel
theorem dJ13_bitCount_95d88_10 : decode cJ13_bitCount_95d88 10 = .ok (.lload_n 0, 1) := by decide +kernel
theorem dJ13_bitCount_95d88_11 : decode cJ13_bitCount_95d88 11 = .ok (.ldc2_w 316, 3) := by decide +kernel
theorem dJ13_bitCount_95d88_14 : decode cJ13_bitCount_95d88 14 = .ok (.land, 1) := by decide +kernel
theorem dJ13_bitCount_95d88_15 : decode cJ13_bitCount_95d88 15 = .ok (.lload_n 0, 1) := by decide +kernel
theorem dJ13_bitCount_95d88_16 : decode cJ13_bitCount_95d88 16 = .ok (.iconst 2, 1) := by decide +kernel
theorem dJ13_bitCount_95d88_17 : decode cJ13_bitCount_95d88 17 = .ok (.lushr, 1) := by decide +kernel
theorem dJ13_bitCount_95d88_18 : decode cJ13_bitCount_95d88 18 = .ok (.ldc2_w 316, 3) := by decide +kernel
theorem dJ13_bitCount_95d88_21 : decode cJ13_bitCount_95d88 21 = .ok (.land, 1) := by decide +kernel
theorem dJ13_bitCount_95d88_22 : decode cJ13_bitCount_95d88 22 = .ok (.ladd, 1) := by decide +kernel
theorem dJ13_bitCount_95d88_23 : decode cJ13_bitCount_95d88 23 = .ok (.lstore_n 0, 1) := by decide +kernel
theorem dJ13_bitCount_95d88_24 : decode cJ13_bitCount_95d88 24 = .ok (.lload_n 0, 1) := by decide +kernel
theorem dJ13_bitCount_95d88_25 : decode cJ13_bitCount_95d88 25 = .ok (.lload_n 0, 1) := by decide +kernel
theorem dJ13_bitCount_95d88_26 : decode cJ13_bitCount_95d88 26 = .ok (.iconst 4, 1) := by decide +kernel
theorem dJ13_bitCount_95d88_27 : decode cJ13_bitCount_95d88 27 = .ok (.lushr, 1) := by decide +kernel
theorem dJ13_bitCount_95d88_28 : decode cJ13_bitCount_95d88 28 = .ok (.ladd, 1) := by decide +kernel
theorem dJ13_bitCount_95d88_29 : decode cJ13_bitCount_95d88 29 = .ok (.ldc2_w 318, 3) := by decide +kernel
theorem dJ13_bitCount_95d88_32 : decode cJ13_bitCount_95d88 32 = .ok (.land, 1) := by decide +kernel
theorem dJ13_bitCount_95d88_33 : decode cJ13_bitCount_95d88 33 = .ok (.lstore_n 0, 1) := by decide +kernel
theorem dJ13_bitCount_95d88_34 : decode cJ13_bitCount_95d88 34 = .ok (.lload_n 0, 1) := by decide +kernel
theorem dJ13_bitCount_95d88_35 : decode cJ13_bitCount_95d88 35 = .ok (.lload_n 0, 1) := by decide +kernel
theorem dJ13_bitCount_95d88_36 : decode cJ13_bitCount_95d88 36 = .ok (.bipush 8, 2) := by decide +kernel
theorem dJ13_bitCount_95d88_38 : decode cJ13_bitCount_95d88 38 = .ok (.lushr, 1) := by decide +kernel
theorem dJ13_bitCount_95d88_39 : decode cJ13_bitCount_95d88 39 = .ok (.ladd, 1) := by decide +kernel
theorem dJ13_bitCount_95d88_40 : decode cJ13_bitCount_95d88 40 = .ok (.lstore_n 0, 1) := by decide +kernel
theorem dJ13_bitCount_95d88_41 : decode cJ13_bitCount_95d88 41 = .ok (.lload_n 0, 1) := by decide +kernel
theorem dJ13_bitCount_95d88_42 : decode cJ13_bitCount_95d88 42 = .ok (.lload_n 0, 1) := by decide +kernel
theorem dJ13_bitCount_95d88_43 : decode cJ13_bitCount_95d88 43 = .ok (.bipush 16, 2) := by decide +kernel
theorem dJ13_bitCount_95d88_45 : decode cJ13_bitCount_95d88 45 = .ok (.lushr, 1) := by decide +kernel
theorem dJ13_bitCount_95d88_46 : decode cJ13_bitCount_95d88 46 = .ok (.ladd, 1) := by decide +kernel
theorem dJ13_bitCount_95d88_47 : decode cJ13_bitCount_95d88 47 = .ok (.lstore_n 0, 1) := by decide +kernel
theorem dJ13_bitCount_95d88_48 : decode cJ13_bitCount_95d88 48 = .ok (.lload_n 0, 1) := by decide +kernel
theorem dJ13_bitCount_95d88_49 : decode cJ13_bitCount_95d88 49 = .ok (.lload_n 0, 1) := by decide +kernel
theorem dJ13_bitCount_95d88_50 : decode cJ13_bitCount_95d88 50 = .ok (.bipush 32, 2) := by decide +kernel
theorem dJ13_bitCount_95d88_52 : decode cJ13_bitCount_95d88 52 = .ok (.lushr, 1) := by decide +kernel
theorem dJ13_bitCount_95d88_53 : decode cJ13_bitCount_95d88 53 = .ok (.ladd, 1) := by decide +kernel
theorem dJ13_bitCount_95d88_54 : decode cJ13_bitCount_95d88 54 = .ok (.lstore_n 0, 1) := by decide +kernel
theorem dJ13_bitCount_95d88_55 : decode cJ13_bitCount_95d88 55 = .ok (.lload_n 0, 1) := by decide +kernel
theorem dJ13_bitCount_95d88_56 : decode cJ13_bitCount_95d88 56 = .ok (.l2i, 1) := by decide +kernel
theorem dJ13_bitCount_95d88_57 : decode cJ13_bitCount_95d88 57 = .ok (.bipush 127, 2) := by decide +kernel
theorem dJ13_bitCount_95d88_59 : decode cJ13_bitCount_95d88 59 = .ok (.iand, 1) := by decide +kernel
theorem dJ13_bitCount_95d88_60 : decode cJ13_bitCount_95d88 60 = .ok (.ireturn, 1) := by decide +kernel
def f_J13_bitCount_95d88 (F P : Nat) (S : xSt) (v0 : Int64) (D : xDt) : Option (Int32 × xDt) :=
  xlet (v0 - ((jlushr v0 1) &&& 6148914691236517205)) fun v0_1 => xlet ((v0_1 &&& 3689348814741910323) + ((jlushr v0_1 2) &&& 3689348814741910323)) fun v0_2 => xlet ((v0_2 + (jlushr v0_2 4)) &&& 1085102592571150095) fun v0_3 => xlet (v0_3 + (jlushr v0_3 8)) fun v0_4 => xlet (v0_4 + (jlushr v0_4 16)) fun v0_5 => xlet (v0_5 + (jlushr v0_5 32)) fun v0_6 => some (v0_6.toInt32 &&& 127, D)
set_option maxHeartbeats 4000000 in
theorem S_J13_bitCount_95d88 {F P : Nat} {S : xSt} (hS : xWF S) {v0 : Int64} {D : xDt} {r : Int32 × xDt} (h : f_J13_bitCount_95d88 F P S v0 D = some r) : xSp md_J13_bitCount_95d88 (0, 0, 0) [.long v0] (S, D) (xQi S r) := by
  unfold f_J13_bitCount_95d88 at h
  refine xEntry (by decide) (Nat.le_of_ble_eq_true rfl) ?_
  refine x_lv (lv' := [(0, .long v0)]) [0] rfl ?_
  refine x_lload_n dJ13_bitCount_95d88_0 0 rfl ?_
  refine x_lload_n dJ13_bitCount_95d88_1 0 rfl ?_
  refine x_iconst 1 dJ13_bitCount_95d88_2 (by decide) ?_
  refine x_lushr dJ13_bitCount_95d88_3 ?_
  refine x_ldc2 6148914691236517205 dJ13_bitCount_95d88_4 wd_452 ?_
  refine x_land dJ13_bitCount_95d88_7 ?_
  refine x_lsub dJ13_bitCount_95d88_8 ?_
  refine xlet_e h (fun v0_1 ev0_1 h => ?_)
  refine y_lstore_n v0_1 ev0_1 [(0, .long v0_1)] dJ13_bitCount_95d88_9 (by show _ < 2; decide) rfl ?_
  refine x_lload_n dJ13_bitCount_95d88_10 0 rfl ?_
  refine x_ldc2 3689348814741910323 dJ13_bitCount_95d88_11 wd_453 ?_
  refine x_land dJ13_bitCount_95d88_14 ?_
  refine x_lload_n dJ13_bitCount_95d88_15 0 rfl ?_
  refine x_iconst 2 dJ13_bitCount_95d88_16 (by decide) ?_
  refine x_lushr dJ13_bitCount_95d88_17 ?_
  refine x_ldc2 3689348814741910323 dJ13_bitCount_95d88_18 wd_453 ?_
  refine x_land dJ13_bitCount_95d88_21 ?_
  refine x_ladd dJ13_bitCount_95d88_22 ?_
  refine xlet_e h (fun v0_2 ev0_2 h => ?_)
  refine y_lstore_n v0_2 ev0_2 [(0, .long v0_2)] dJ13_bitCount_95d88_23 (by show _ < 2; decide) rfl ?_
  refine x_lload_n dJ13_bitCount_95d88_24 0 rfl ?_
  refine x_lload_n dJ13_bitCount_95d88_25 0 rfl ?_
  refine x_iconst 4 dJ13_bitCount_95d88_26 (by decide) ?_
  refine x_lushr dJ13_bitCount_95d88_27 ?_
  refine x_ladd dJ13_bitCount_95d88_28 ?_
  refine x_ldc2 1085102592571150095 dJ13_bitCount_95d88_29 wd_454 ?_
  refine x_land dJ13_bitCount_95d88_32 ?_
  refine xlet_e h (fun v0_3 ev0_3 h => ?_)
  refine y_lstore_n v0_3 ev0_3 [(0, .long v0_3)] dJ13_bitCount_95d88_33 (by show _ < 2; decide) rfl ?_
  refine x_lload_n dJ13_bitCount_95d88_34 0 rfl ?_
  refine x_lload_n dJ13_bitCount_95d88_35 0 rfl ?_
  refine x_bipush 8 dJ13_bitCount_95d88_36 (by decide) ?_
  refine x_lushr dJ13_bitCount_95d88_38 ?_
  refine x_ladd dJ13_bitCount_95d88_39 ?_
  refine xlet_e h (fun v0_4 ev0_4 h => ?_)
  refine y_lstore_n v0_4 ev0_4 [(0, .long v0_4)] dJ13_bitCount_95d88_40 (by show _ < 2; decide) rfl ?_
  refine x_lload_n dJ13_bitCount_95d88_41 0 rfl ?_
  refine x_lload_n dJ13_bitCount_95d88_42 0 rfl ?_
  refine x_bipush 16 dJ13_bitCount_95d88_43 (by decide) ?_
  refine x_lushr dJ13_bitCount_95d88_45 ?_
  refine x_ladd dJ13_bitCount_95d88_46 ?_
  refine xlet_e h (fun v0_5 ev0_5 h => ?_)
  refine y_lstore_n v0_5 ev0_5 [(0, .long v0_5)] dJ13_bitCount_95d88_47 (by show _ < 2; decide) rfl ?_
  refine x_lload_n dJ13_bitCount_95d88_48 0 rfl ?_
  refine x_lload_n dJ13_bitCount_95d88_49 0 rfl ?_
  refine x_bipush 32 dJ13_bitCount_95d88_50 (by decide) ?_
  refine x_lushr dJ13_bitCount_95d88_52 ?_
  refine x_ladd dJ13_bitCount_95d88_53 ?_
  refine xlet_e h (fun v0_6 ev0_6 h => ?_)
  refine y_lstore_n v0_6 ev0_6 [(0, .long v0_6)] dJ13_bitCount_95d88_54 (by show _ < 2; decide) rfl ?_
  refine x_lload_n dJ13_bitCount_95d88_55 0 rfl ?_
  refine x_l2i dJ13_bitCount_95d88_56 ?_
  refine x_bipush 127 dJ13_bitCount_95d88_57 (by decide) ?_
  refine x_iand dJ13_bitCount_95d88_59 ?_
  obtain rfl := Option.some.inj h
  exact y_iret rfl dJ13_bitCount_95d88_60

theorem dX0_sizeOf_0 : decode cX0_sizeOf 0 = .ok (.iconst 0, 1) := by decide +kernel
theorem dX0_sizeOf_1 : decode cX0_sizeOf 1 = .ok (.istore_n 2, 1) := by decide +kernel
theorem dX0_sizeOf_2 : decode cX0_sizeOf 2 = .ok (.iconst 0, 1) := by decide +kernel
theorem dX0_sizeOf_3 : decode cX0_sizeOf 3 = .ok (.istore_n 3, 1) := by decide +kernel
theorem dX0_sizeOf_4 : decode cX0_sizeOf 4 = .ok (.iload_n 3, 1) := by decide +kernel
theorem dX0_sizeOf_5 : decode cX0_sizeOf 5 = .ok (.aload_n 0, 1) := by decide +kernel
theorem dX0_sizeOf_6 : decode cX0_sizeOf 6 = .ok (.getfield 84, 3) := by decide +kernel
theorem dX0_sizeOf_9 : decode cX0_sizeOf 9 = .ok (.if_icmp .ge 38, 3) := by decide +kernel
theorem dX0_sizeOf_12 : decode cX0_sizeOf 12 = .ok (.iload_n 2, 1) := by decide +kernel
theorem dX0_sizeOf_13 : decode cX0_sizeOf 13 = .ok (.aload_n 0, 1) := by decide +kernel
theorem dX0_sizeOf_14 : decode cX0_sizeOf 14 = .ok (.getfield 32, 3) := by decide +kernel
theorem dX0_sizeOf_17 : decode cX0_sizeOf 17 = .ok (.iload_n 3, 1) := by decide +kernel
theorem dX0_sizeOf_18 : decode cX0_sizeOf 18 = .ok (.laload, 1) := by decide +kernel
theorem dX0_sizeOf_19 : decode cX0_sizeOf 19 = .ok (.iload_n 1, 1) := by decide +kernel
theorem dX0_sizeOf_20 : decode cX0_sizeOf 20 = .ok (.ifCond .eq 12, 3) := by decide +kernel
theorem dX0_sizeOf_23 : decode cX0_sizeOf 23 = .ok (.aload_n 0, 1) := by decide +kernel
theorem dX0_sizeOf_24 : decode cX0_sizeOf 24 = .ok (.getfield 29, 3) := by decide +kernel
theorem dX0_sizeOf_27 : decode cX0_sizeOf 27 = .ok (.iload_n 3, 1) := by decide +kernel
theorem dX0_sizeOf_28 : decode cX0_sizeOf 28 = .ok (.laload, 1) := by decide +kernel
theorem dX0_sizeOf_29 : decode cX0_sizeOf 29 = .ok (.goto 6, 3) := by decide +kernel
theorem dX0_sizeOf_32 : decode cX0_sizeOf 32 = .ok (.ldc2_w 87, 3) := by decide +kernel
theorem dX0_sizeOf_35 : decode cX0_sizeOf 35 = .ok (.land, 1) := by decide +kernel
theorem dX0_sizeOf_36 : decode cX0_sizeOf 36 = .ok (.invokestatic 89, 3) := by decide +kernel
theorem dX0_sizeOf_39 : decode cX0_sizeOf 39 = .ok (.iadd, 1) := by decide +kernel
theorem dX0_sizeOf_40 : decode cX0_sizeOf 40 = .ok (.istore_n 2, 1) := by decide +kernel
theorem dX0_sizeOf_41 : decode cX0_sizeOf 41 = .ok (.iinc 3 1, 3) := by decide +kernel
theorem dX0_sizeOf_44 : decode cX0_sizeOf 44 = .ok (.goto (-40), 3) := by decide +kernel
theorem dX0_sizeOf_47 : decode cX0_sizeOf 47 = .ok (.iload_n 2, 1) := by decide +kernel
theorem dX0_sizeOf_48 : decode cX0_sizeOf 48 = .ok (.ireturn, 1) := by decide +kernel
def f_X0_sizeOf_35 (F P : Nat) (S : xSt) (rec_4 : Nat → Int32 → Int32 → Int32 → xDt → Option (Int32 × xDt)) (v0 : Nat) (v1 : Int32) (v3 : Int32) (s0 : Int64) (s1 : Int64) (s2 : Int32) (D : xDt) : Option (Int32 × xDt) :=
  (f_J13_bitCount_95d88 F P S (s1 &&& s0) D).bind fun q1 => xlet (s2 + q1.1) fun v2_2 => xlet (v3 + 1) fun v3_3 => rec_4 v0 v1 v2_2 v3_3 q1.2
set_option maxHeartbeats 4000000 in
theorem t_X0_sizeOf_35 {F P : Nat} {S : xSt} (hS : xWF S) {rec_4 : Nat → Int32 → Int32 → Int32 → xDt → Option (Int32 × xDt)} (hrec_4 : ∀ {v0 : Nat} {v1 : Int32} {v2 : Int32} {v3 : Int32} {D : xDt} {r : Int32 × xDt}, xK S v0 0 → rec_4 v0 v1 v2 v3 D = some r → yEx md_X0_sizeOf 1 4 [(0, .ref v0), (1, .int v1), (2, .int v2), (3, .int v3)] [] S D (xQi S r)) {v0 : Nat} {v1 : Int32} {v3 : Int32} {s0 : Int64} {s1 : Int64} {s2 : Int32} {D : xDt} {r : Int32 × xDt} (k0 : xK S v0 0) (h : f_X0_sizeOf_35 F P S rec_4 v0 v1 v3 s0 s1 s2 D = some r) : yEx md_X0_sizeOf 1 35 [(0, .ref v0), (1, .int v1), (3, .int v3)] [.long s0, .long s1, .int s2] S D (xQi S r) := by
  unfold f_X0_sizeOf_35 at h
  refine x_land dX0_sizeOf_35 ?_
  refine xbnd_e h (fun q1 e1 h => ?_)
  refine y_callSi (As := [.long (s1 &&& s0)]) (q := q1) cs_RX0_89 dX0_sizeOf_36 rfl (Nat.le_of_ble_eq_true rfl) (by omega) (S_J13_bitCount_95d88 hS e1) ?_
  refine x_iadd dX0_sizeOf_39 ?_
  refine xlet_e h (fun v2_2 ev2_2 h => ?_)
  refine y_istore_n v2_2 ev2_2 [(2, .int v2_2), (0, .ref v0), (1, .int v1), (3, .int v3)] dX0_sizeOf_40 (by show _ < 4; decide) rfl ?_
  refine xlet_e h (fun v3_3 ev3_3 h => ?_)
  refine y_iinc v3_3 ev3_3 (by decide) [(3, .int v3_3), (2, .int v2_2), (0, .ref v0), (1, .int v1)] dX0_sizeOf_41 3 rfl (by show _ < 4; decide) rfl ?_
  refine x_goto 4 dX0_sizeOf_44 (by decide) ?_
  refine x_lv (lv' := [(0, .ref v0), (1, .int v1), (2, .int v2_2), (3, .int v3_3)]) [2, 3, 1, 0] rfl ?_
  exact hrec_4 k0 h

def f_X0_sizeOf_4s (F P : Nat) (S : xSt) (rec_4 : Nat → Int32 → Int32 → Int32 → xDt → Option (Int32 × xDt)) (v0 : Nat) (v1 : Int32) (v2 : Int32) (v3 : Int32) (D : xDt) : Option (Int32 × xDt) :=
  if (D.1 v0 9) ≤ v3 then (some (v2, D)) else (xgrd (xin v3 (xl S (xr S v0 5))) (if v1 = 0 then (f_X0_sizeOf_35 F P S rec_4 v0 v1 v3 (-1) (D.2 (xr S v0 5) (v3).toNatClampNeg) v2 D) else (xgrd (xin v3 (xl S (xr S v0 4))) (f_X0_sizeOf_35 F P S rec_4 v0 v1 v3 (D.2 (xr S v0 4) (v3).toNatClampNeg) (D.2 (xr S v0 5) (v3).toNatClampNeg) v2 D))))
def f_X0_sizeOf_4 (F P : Nat) (S : xSt) : Nat → Nat → Int32 → Int32 → Int32 → xDt → Option (Int32 × xDt)
  | 0 => fun _ _ _ _ _ => none
  | n + 1 => f_X0_sizeOf_4s F P S (f_X0_sizeOf_4 F P S n)
set_option maxHeartbeats 4000000 in
theorem t_X0_sizeOf_4s {F P : Nat} {S : xSt} (hS : xWF S) {rec_4 : Nat → Int32 → Int32 → Int32 → xDt → Option (Int32 × xDt)} (hrec_4 : ∀ {v0 : Nat} {v1 : Int32} {v2 : Int32} {v3 : Int32} {D : xDt} {r : Int32 × xDt}, xK S v0 0 → rec_4 v0 v1 v2 v3 D = some r → yEx md_X0_sizeOf 1 4 [(0, .ref v0), (1, .int v1), (2, .int v2), (3, .int v3)] [] S D (xQi S r)) {v0 : Nat} {v1 : Int32} {v2 : Int32} {v3 : Int32} {D : xDt} {r : Int32 × xDt} (k0 : xK S v0 0) (h : f_X0_sizeOf_4s F P S rec_4 v0 v1 v2 v3 D = some r) : yEx md_X0_sizeOf 1 4 [(0, .ref v0), (1, .int v1), (2, .int v2), (3, .int v3)] [] S D (xQi S r) := by
  unfold f_X0_sizeOf_4s at h
  refine x_iload_n dX0_sizeOf_4 3 rfl ?_
  refine x_aload_n dX0_sizeOf_5 0 rfl ?_
  refine y_geti fl_RX0_84 dX0_sizeOf_6 rfl k0 ?_
  refine x_icmp_ge 47 dX0_sizeOf_9 (by decide) (fun c => ?_) (fun c => ?_)
  · rw [if_pos c] at h
    refine x_iload_n dX0_sizeOf_47 2 rfl ?_
    obtain rfl := Option.some.inj h
    exact y_iret rfl dX0_sizeOf_48
  · rw [if_neg c] at h
    refine x_iload_n dX0_sizeOf_12 2 rfl ?_
    refine x_aload_n dX0_sizeOf_13 0 rfl ?_
    refine y_getr (kd := 101) hS fl_RX0_32 dX0_sizeOf_14 rfl k0 ?_
    refine x_iload_n dX0_sizeOf_17 3 rfl ?_
    refine xgrd_e h (fun g1 h => ?_)
    refine y_lald dX0_sizeOf_18 ((hS.f k0 5 101 rfl).2) g1 ?_
    refine x_iload_n dX0_sizeOf_19 1 rfl ?_
    refine x_if_eq 32 dX0_sizeOf_20 (by decide) (fun c => ?_) (fun c => ?_)
    · rw [if_pos c] at h
      refine x_ldc2 (-1) dX0_sizeOf_32 wd_1021 ?_
      refine x_lv (lv' := [(0, .ref v0), (1, .int v1), (3, .int v3)]) [0, 1, 3] rfl ?_
      exact t_X0_sizeOf_35 hS hrec_4 k0 h
    · rw [if_neg c] at h
      refine x_aload_n dX0_sizeOf_23 0 rfl ?_
      refine y_getr (kd := 101) hS fl_RX0_29 dX0_sizeOf_24 rfl k0 ?_
      refine x_iload_n dX0_sizeOf_27 3 rfl ?_
      refine xgrd_e h (fun g2 h => ?_)
      refine y_lald dX0_sizeOf_28 ((hS.f k0 4 101 rfl).2) g2 ?_
      refine x_goto 35 dX0_sizeOf_29 (by decide) ?_
      refine x_lv (lv' := [(0, .ref v0), (1, .int v1), (3, .int v3)]) [0, 1, 3] rfl ?_
      exact t_X0_sizeOf_35 hS hrec_4 k0 h
theorem t_X0_sizeOf_4 {F P : Nat} {S : xSt} (hS : xWF S) : ∀ (n : Nat) {v0 : Nat} {v1 : Int32} {v2 : Int32} {v3 : Int32} {D : xDt} {r : Int32 × xDt}, xK S v0 0 → f_X0_sizeOf_4 F P S n v0 v1 v2 v3 D = some r → yEx md_X0_sizeOf 1 4 [(0, .ref v0), (1, .int v1), (2, .int v2), (3, .int v3)] [] S D (xQi S r) := by
  intro n
  induction n with
  | zero => intros; rename_i h; cases h
  | succ n ih =>
    intro v0 v1 v2 v3 D r k0 h
    exact t_X0_sizeOf_4s hS (fun k0 h => ih k0 h) k0 h

def f_X0_sizeOf (F P : Nat) (S : xSt) (v0 : Nat) (v1 : Int32) (D : xDt) : Option (Int32 × xDt) :=
  f_X0_sizeOf_4 F P S F v0 v1 0 0 D
set_option maxHeartbeats 4000000 in
theorem S_X0_sizeOf {F P : Nat} {S : xSt} (hS : xWF S) {v0 : Nat} {v1 : Int32} {D : xDt} {r : Int32 × xDt} (k0 : xK S v0 0) (h : f_X0_sizeOf F P S v0 v1 D = some r) : xSp md_X0_sizeOf (1, 0, 0) [.ref v0, .int v1] (S, D) (xQi S r) := by
  unfold f_X0_sizeOf at h
  refine xEntry (by decide) (Nat.le_of_ble_eq_true rfl) ?_
  refine x_lv (lv' := [(0, .ref v0), (1, .int v1)]) [0, 1] rfl ?_
  refine x_iconst 0 dX0_sizeOf_0 (by decide) ?_
  refine y_istore_n 0 rfl [(2, .int 0), (0, .ref v0), (1, .int v1)] dX0_sizeOf_1 (by show _ < 4; decide) rfl ?_
  refine x_iconst 0 dX0_sizeOf_2 (by decide) ?_
  refine y_istore_n 0 rfl [(3, .int 0), (2, .int 0), (0, .ref v0), (1, .int v1)] dX0_sizeOf_3 (by show _ < 4; decide) rfl ?_
  refine x_lv (lv' := [(0, .ref v0), (1, .int v1), (2, .int 0), (3, .int 0)]) [2, 3, 1, 0] rfl ?_
  exact t_X0_sizeOf_4 hS F k0 h

theorem dX0_startDoubt_0 : decode cX0_startDoubt 0 = .ok (.iconst 0, 1) := by decide +kernel
theorem dX0_startDoubt_1 : decode cX0_startDoubt 1 = .ok (.istore_n 2, 1) := by decide +kernel
theorem dX0_startDoubt_2 : decode cX0_startDoubt 2 = .ok (.iload_n 2, 1) := by decide +kernel
theorem dX0_startDoubt_3 : decode cX0_startDoubt 3 = .ok (.aload_n 0, 1) := by decide +kernel
theorem dX0_startDoubt_4 : decode cX0_startDoubt 4 = .ok (.getfield 84, 3) := by decide +kernel
theorem dX0_startDoubt_7 : decode cX0_startDoubt 7 = .ok (.if_icmp .ge 38, 3) := by decide +kernel
theorem dX0_startDoubt_10 : decode cX0_startDoubt 10 = .ok (.aload_n 0, 1) := by decide +kernel
theorem dX0_startDoubt_11 : decode cX0_startDoubt 11 = .ok (.getfield 38, 3) := by decide +kernel
theorem dX0_startDoubt_14 : decode cX0_startDoubt 14 = .ok (.iload_n 2, 1) := by decide +kernel
theorem dX0_startDoubt_15 : decode cX0_startDoubt 15 = .ok (.aload_n 0, 1) := by decide +kernel
theorem dX0_startDoubt_16 : decode cX0_startDoubt 16 = .ok (.getfield 32, 3) := by decide +kernel
theorem dX0_startDoubt_19 : decode cX0_startDoubt 19 = .ok (.iload_n 2, 1) := by decide +kernel
theorem dX0_startDoubt_20 : decode cX0_startDoubt 20 = .ok (.laload, 1) := by decide +kernel
theorem dX0_startDoubt_21 : decode cX0_startDoubt 21 = .ok (.aload_n 0, 1) := by decide +kernel
theorem dX0_startDoubt_22 : decode cX0_startDoubt 22 = .ok (.getfield 26, 3) := by decide +kernel
theorem dX0_startDoubt_25 : decode cX0_startDoubt 25 = .ok (.iload_n 1, 1) := by decide +kernel
theorem dX0_startDoubt_26 : decode cX0_startDoubt 26 = .ok (.sipush 128, 3) := by decide +kernel
theorem dX0_startDoubt_29 : decode cX0_startDoubt 29 = .ok (.imul, 1) := by decide +kernel
theorem dX0_startDoubt_30 : decode cX0_startDoubt 30 = .ok (.iload_n 2, 1) := by decide +kernel
theorem dX0_startDoubt_31 : decode cX0_startDoubt 31 = .ok (.iadd, 1) := by decide +kernel
theorem dX0_startDoubt_32 : decode cX0_startDoubt 32 = .ok (.laload, 1) := by decide +kernel
theorem dX0_startDoubt_33 : decode cX0_startDoubt 33 = .ok (.ldc2_w 87, 3) := by decide +kernel
theorem dX0_startDoubt_36 : decode cX0_startDoubt 36 = .ok (.lxor, 1) := by decide +kernel
theorem dX0_startDoubt_37 : decode cX0_startDoubt 37 = .ok (.land, 1) := by decide +kernel
theorem dX0_startDoubt_38 : decode cX0_startDoubt 38 = .ok (.lastore, 1) := by decide +kernel
theorem dX0_startDoubt_39 : decode cX0_startDoubt 39 = .ok (.iinc 2 1, 3) := by decide +kernel
theorem dX0_startDoubt_42 : decode cX0_startDoubt 42 = .ok (.goto (-40), 3) := by decide +kernel
theorem dX0_startDoubt_45 : decode cX0_startDoubt 45 = .ok (.return_, 1) := by decide +kernel
def f_X0_startDoubt_2s (F P : Nat) (S : xSt) (rec_2 : Nat → Int32 → Int32 → xDt → Option (xDt)) (v0 : Nat) (v1 : Int32) (v2 : Int32) (D : xDt) : Option (xDt) :=
  if (D.1 v0 9) ≤ v2 then (some D) else (xgrd (xin v2 (xl S (xr S v0 5))) (xgrd (xin ((v1 * 128) + v2) (xl S (xr S v0 3))) (xgrd (xin v2 (xl S (xr S v0 7))) (xlet (D.1, xup D.2 (xr S v0 7) (v2).toNatClampNeg ((D.2 (xr S v0 5) (v2).toNatClampNeg) &&& ((D.2 (xr S v0 3) ((v1 * 128) + v2).toNatClampNeg) ^^^ (-1)))) fun D4 => xlet (v2 + 1) fun v2_5 => rec_2 v0 v1 v2_5 D4))))
def f_X0_startDoubt_2 (F P : Nat) (S : xSt) : Nat → Nat → Int32 → Int32 → xDt → Option (xDt)
  | 0 => fun _ _ _ _ => none
  | n + 1 => f_X0_startDoubt_2s F P S (f_X0_startDoubt_2 F P S n)
set_option maxHeartbeats 4000000 in
theorem t_X0_startDoubt_2s {F P : Nat} {S : xSt} (hS : xWF S) {rec_2 : Nat → Int32 → Int32 → xDt → Option (xDt)} (hrec_2 : ∀ {v0 : Nat} {v1 : Int32} {v2 : Int32} {D : xDt} {r : xDt}, xK S v0 0 → rec_2 v0 v1 v2 D = some r → yEx md_X0_startDoubt 0 2 [(0, .ref v0), (1, .int v1), (2, .int v2)] [] S D (xQv S r)) {v0 : Nat} {v1 : Int32} {v2 : Int32} {D : xDt} {r : xDt} (k0 : xK S v0 0) (h : f_X0_startDoubt_2s F P S rec_2 v0 v1 v2 D = some r) : yEx md_X0_startDoubt 0 2 [(0, .ref v0), (1, .int v1), (2, .int v2)] [] S D (xQv S r) := by
  unfold f_X0_startDoubt_2s at h
  refine x_iload_n dX0_startDoubt_2 2 rfl ?_
  refine x_aload_n dX0_startDoubt_3 0 rfl ?_
  refine y_geti fl_RX0_84 dX0_startDoubt_4 rfl k0 ?_
  refine x_icmp_ge 45 dX0_startDoubt_7 (by decide) (fun c => ?_) (fun c => ?_)
  · rw [if_pos c] at h
    obtain rfl := Option.some.inj h
    exact y_vret rfl dX0_startDoubt_45
  · rw [if_neg c] at h
    refine x_aload_n dX0_startDoubt_10 0 rfl ?_
    refine y_getr (kd := 101) hS fl_RX0_38 dX0_startDoubt_11 rfl k0 ?_
    refine x_iload_n dX0_startDoubt_14 2 rfl ?_
    refine x_aload_n dX0_startDoubt_15 0 rfl ?_
    refine y_getr (kd := 101) hS fl_RX0_32 dX0_startDoubt_16 rfl k0 ?_
    refine x_iload_n dX0_startDoubt_19 2 rfl ?_
    refine xgrd_e h (fun g1 h => ?_)
    refine y_lald dX0_startDoubt_20 ((hS.f k0 5 101 rfl).2) g1 ?_
    refine x_aload_n dX0_startDoubt_21 0 rfl ?_
    refine y_getr (kd := 101) hS fl_RX0_26 dX0_startDoubt_22 rfl k0 ?_
    refine x_iload_n dX0_startDoubt_25 1 rfl ?_
    refine x_sipush 128 dX0_startDoubt_26 (by decide) ?_
    refine x_imul dX0_startDoubt_29 ?_
    refine x_iload_n dX0_startDoubt_30 2 rfl ?_
    refine x_iadd dX0_startDoubt_31 ?_
    refine xgrd_e h (fun g2 h => ?_)
    refine y_lald dX0_startDoubt_32 ((hS.f k0 3 101 rfl).2) g2 ?_
    refine x_ldc2 (-1) dX0_startDoubt_33 wd_1021 ?_
    refine x_lxor dX0_startDoubt_36 ?_
    refine x_land dX0_startDoubt_37 ?_
    refine xgrd_e h (fun g3 h => ?_)
    refine xlet_e h (fun D4 eD4 h => ?_)
    refine y_last dX0_startDoubt_38 ((hS.f k0 7 101 rfl).2) g3 eD4 ?_
    refine xlet_e h (fun v2_5 ev2_5 h => ?_)
    refine y_iinc v2_5 ev2_5 (by decide) [(2, .int v2_5), (0, .ref v0), (1, .int v1)] dX0_startDoubt_39 2 rfl (by show _ < 3; decide) rfl ?_
    refine x_goto 2 dX0_startDoubt_42 (by decide) ?_
    refine x_lv (lv' := [(0, .ref v0), (1, .int v1), (2, .int v2_5)]) [1, 2, 0] rfl ?_
    exact hrec_2 k0 h
theorem t_X0_startDoubt_2 {F P : Nat} {S : xSt} (hS : xWF S) : ∀ (n : Nat) {v0 : Nat} {v1 : Int32} {v2 : Int32} {D : xDt} {r : xDt}, xK S v0 0 → f_X0_startDoubt_2 F P S n v0 v1 v2 D = some r → yEx md_X0_startDoubt 0 2 [(0, .ref v0), (1, .int v1), (2, .int v2)] [] S D (xQv S r) := by
  intro n
  induction n with
  | zero => intros; rename_i h; cases h
  | succ n ih =>
    intro v0 v1 v2 D r k0 h
    exact t_X0_startDoubt_2s hS (fun k0 h => ih k0 h) k0 h

def f_X0_startDoubt (F P : Nat) (S : xSt) (v0 : Nat) (v1 : Int32) (D : xDt) : Option (xDt) :=
  f_X0_startDoubt_2 F P S F v0 v1 0 D
set_option maxHeartbeats 4000000 in
theorem S_X0_startDoubt {F P : Nat} {S : xSt} (hS : xWF S) {v0 : Nat} {v1 : Int32} {D : xDt} {r : xDt} (k0 : xK S v0 0) (h : f_X0_startDoubt F P S v0 v1 D = some r) : xSp md_X0_startDoubt (0, 0, 0) [.ref v0, .int v1] (S, D) (xQv S r) := by
  unfold f_X0_startDoubt at h
  refine xEntry (by decide) (Nat.le_of_ble_eq_true rfl) ?_
  refine x_lv (lv' := [(0, .ref v0), (1, .int v1)]) [0, 1] rfl ?_
  refine x_iconst 0 dX0_startDoubt_0 (by decide) ?_
  refine y_istore_n 0 rfl [(2, .int 0), (0, .ref v0), (1, .int v1)] dX0_startDoubt_1 (by show _ < 3; decide) rfl ?_
  refine x_lv (lv' := [(0, .ref v0), (1, .int v1), (2, .int 0)]) [1, 2, 0] rfl ?_
  exact t_X0_startDoubt_2 hS F k0 h

theorem dX0_leaveOpen_0 : decode cX0_leaveOpen 0 = .ok (.iload_n 1, 1) := by decide +kernel
theorem dX0_leaveOpen_1 : decode cX0_leaveOpen 1 = .ok (.bipush 6, 2) := by decide +kernel
theorem dX0_leaveOpen_3 : decode cX0_leaveOpen 3 = .ok (.if_icmp .ge 62, 3) := by decide +kernel
theorem dX0_leaveOpen_6 : decode cX0_leaveOpen 6 = .ok (.iconst 1, 1) := by decide +kernel
theorem dX0_leaveOpen_7 : decode cX0_leaveOpen 7 = .ok (.iload_n 1, 1) := by decide +kernel
theorem dX0_leaveOpen_8 : decode cX0_leaveOpen 8 = .ok (.ishl, 1) := by decide +kernel
theorem dX0_leaveOpen_9 : decode cX0_leaveOpen 9 = .ok (.istore_n 2, 1) := by decide +kernel
theorem dX0_leaveOpen_10 : decode cX0_leaveOpen 10 = .ok (.iconst 0, 1) := by decide +kernel
theorem dX0_leaveOpen_11 : decode cX0_leaveOpen 11 = .ok (.istore_n 3, 1) := by decide +kernel
theorem dX0_leaveOpen_12 : decode cX0_leaveOpen 12 = .ok (.iload_n 3, 1) := by decide +kernel
theorem dX0_leaveOpen_13 : decode cX0_leaveOpen 13 = .ok (.aload_n 0, 1) := by decide +kernel
theorem dX0_leaveOpen_14 : decode cX0_leaveOpen 14 = .ok (.getfield 84, 3) := by decide +kernel
theorem dX0_leaveOpen_17 : decode cX0_leaveOpen 17 = .ok (.if_icmp .ge 47, 3) := by decide +kernel
theorem dX0_leaveOpen_20 : decode cX0_leaveOpen 20 = .ok (.aload_n 0, 1) := by decide +kernel
theorem dX0_leaveOpen_21 : decode cX0_leaveOpen 21 = .ok (.getfield 35, 3) := by decide +kernel
theorem dX0_leaveOpen_24 : decode cX0_leaveOpen 24 = .ok (.iload_n 3, 1) := by decide +kernel
theorem dX0_leaveOpen_25 : decode cX0_leaveOpen 25 = .ok (.laload, 1) := by decide +kernel
theorem dX0_leaveOpen_26 : decode cX0_leaveOpen 26 = .ok (.lstore 4, 2) := by decide +kernel
theorem dX0_leaveOpen_28 : decode cX0_leaveOpen 28 = .ok (.aload_n 0, 1) := by decide +kernel
theorem dX0_leaveOpen_29 : decode cX0_leaveOpen 29 = .ok (.getfield 35, 3) := by decide +kernel
theorem dX0_leaveOpen_32 : decode cX0_leaveOpen 32 = .ok (.iload_n 3, 1) := by decide +kernel
theorem dX0_leaveOpen_33 : decode cX0_leaveOpen 33 = .ok (.lload 4, 2) := by decide +kernel
theorem dX0_leaveOpen_35 : decode cX0_leaveOpen 35 = .ok (.lload 4, 2) := by decide +kernel
theorem dX0_leaveOpen_37 : decode cX0_leaveOpen 37 = .ok (.getstatic 101, 3) := by decide +kernel
theorem dX0_leaveOpen_40 : decode cX0_leaveOpen 40 = .ok (.iload_n 1, 1) := by decide +kernel
theorem dX0_leaveOpen_41 : decode cX0_leaveOpen 41 = .ok (.laload, 1) := by decide +kernel
theorem dX0_leaveOpen_42 : decode cX0_leaveOpen 42 = .ok (.land, 1) := by decide +kernel
theorem dX0_leaveOpen_43 : decode cX0_leaveOpen 43 = .ok (.iload_n 2, 1) := by decide +kernel
theorem dX0_leaveOpen_44 : decode cX0_leaveOpen 44 = .ok (.lushr, 1) := by decide +kernel
theorem dX0_leaveOpen_45 : decode cX0_leaveOpen 45 = .ok (.lor, 1) := by decide +kernel
theorem dX0_leaveOpen_46 : decode cX0_leaveOpen 46 = .ok (.lload 4, 2) := by decide +kernel
theorem dX0_leaveOpen_48 : decode cX0_leaveOpen 48 = .ok (.iload_n 2, 1) := by decide +kernel
theorem dX0_leaveOpen_49 : decode cX0_leaveOpen 49 = .ok (.lshl, 1) := by decide +kernel
theorem dX0_leaveOpen_50 : decode cX0_leaveOpen 50 = .ok (.getstatic 101, 3) := by decide +kernel
theorem dX0_leaveOpen_53 : decode cX0_leaveOpen 53 = .ok (.iload_n 1, 1) := by decide +kernel
theorem dX0_leaveOpen_54 : decode cX0_leaveOpen 54 = .ok (.laload, 1) := by decide +kernel
theorem dX0_leaveOpen_55 : decode cX0_leaveOpen 55 = .ok (.land, 1) := by decide +kernel
theorem dX0_leaveOpen_56 : decode cX0_leaveOpen 56 = .ok (.lor, 1) := by decide +kernel
theorem dX0_leaveOpen_57 : decode cX0_leaveOpen 57 = .ok (.lastore, 1) := by decide +kernel
theorem dX0_leaveOpen_58 : decode cX0_leaveOpen 58 = .ok (.iinc 3 1, 3) := by decide +kernel
theorem dX0_leaveOpen_61 : decode cX0_leaveOpen 61 = .ok (.goto (-49), 3) := by decide +kernel
theorem dX0_leaveOpen_64 : decode cX0_leaveOpen 64 = .ok (.return_, 1) := by decide +kernel
theorem dX0_leaveOpen_65 : decode cX0_leaveOpen 65 = .ok (.iconst 1, 1) := by decide +kernel
theorem dX0_leaveOpen_66 : decode cX0_leaveOpen 66 = .ok (.iload_n 1, 1) := by decide +kernel
theorem dX0_leaveOpen_67 : decode cX0_leaveOpen 67 = .ok (.bipush 6, 2) := by decide +kernel
theorem dX0_leaveOpen_69 : decode cX0_leaveOpen 69 = .ok (.isub, 1) := by decide +kernel
theorem dX0_leaveOpen_70 : decode cX0_leaveOpen 70 = .ok (.ishl, 1) := by decide +kernel
theorem dX0_leaveOpen_71 : decode cX0_leaveOpen 71 = .ok (.istore_n 2, 1) := by decide +kernel
theorem dX0_leaveOpen_72 : decode cX0_leaveOpen 72 = .ok (.iconst 0, 1) := by decide +kernel
theorem dX0_leaveOpen_73 : decode cX0_leaveOpen 73 = .ok (.istore_n 3, 1) := by decide +kernel
theorem dX0_leaveOpen_74 : decode cX0_leaveOpen 74 = .ok (.iload_n 3, 1) := by decide +kernel
theorem dX0_leaveOpen_75 : decode cX0_leaveOpen 75 = .ok (.iload_n 2, 1) := by decide +kernel
theorem dX0_leaveOpen_76 : decode cX0_leaveOpen 76 = .ok (.iadd, 1) := by decide +kernel
theorem dX0_leaveOpen_77 : decode cX0_leaveOpen 77 = .ok (.aload_n 0, 1) := by decide +kernel
theorem dX0_leaveOpen_78 : decode cX0_leaveOpen 78 = .ok (.getfield 84, 3) := by decide +kernel
theorem dX0_leaveOpen_81 : decode cX0_leaveOpen 81 = .ok (.if_icmp .ge 50, 3) := by decide +kernel
theorem dX0_leaveOpen_84 : decode cX0_leaveOpen 84 = .ok (.iload_n 3, 1) := by decide +kernel
theorem dX0_leaveOpen_85 : decode cX0_leaveOpen 85 = .ok (.iload_n 2, 1) := by decide +kernel
theorem dX0_leaveOpen_86 : decode cX0_leaveOpen 86 = .ok (.iand, 1) := by decide +kernel
theorem dX0_leaveOpen_87 : decode cX0_leaveOpen 87 = .ok (.ifCond .ne 38, 3) := by decide +kernel
theorem dX0_leaveOpen_90 : decode cX0_leaveOpen 90 = .ok (.aload_n 0, 1) := by decide +kernel
theorem dX0_leaveOpen_91 : decode cX0_leaveOpen 91 = .ok (.getfield 35, 3) := by decide +kernel
theorem dX0_leaveOpen_94 : decode cX0_leaveOpen 94 = .ok (.iload_n 3, 1) := by decide +kernel
theorem dX0_leaveOpen_95 : decode cX0_leaveOpen 95 = .ok (.laload, 1) := by decide +kernel
theorem dX0_leaveOpen_96 : decode cX0_leaveOpen 96 = .ok (.aload_n 0, 1) := by decide +kernel
theorem dX0_leaveOpen_97 : decode cX0_leaveOpen 97 = .ok (.getfield 35, 3) := by decide +kernel
theorem dX0_leaveOpen_100 : decode cX0_leaveOpen 100 = .ok (.iload_n 3, 1) := by decide +kernel
theorem dX0_leaveOpen_101 : decode cX0_leaveOpen 101 = .ok (.iload_n 2, 1) := by decide +kernel
theorem dX0_leaveOpen_102 : decode cX0_leaveOpen 102 = .ok (.iadd, 1) := by decide +kernel
theorem dX0_leaveOpen_103 : decode cX0_leaveOpen 103 = .ok (.laload, 1) := by decide +kernel
theorem dX0_leaveOpen_104 : decode cX0_leaveOpen 104 = .ok (.lor, 1) := by decide +kernel
theorem dX0_leaveOpen_105 : decode cX0_leaveOpen 105 = .ok (.lstore 4, 2) := by decide +kernel
theorem dX0_leaveOpen_107 : decode cX0_leaveOpen 107 = .ok (.aload_n 0, 1) := by decide +kernel
theorem dX0_leaveOpen_108 : decode cX0_leaveOpen 108 = .ok (.getfield 35, 3) := by decide +kernel
theorem dX0_leaveOpen_111 : decode cX0_leaveOpen 111 = .ok (.iload_n 3, 1) := by decide +kernel
theorem dX0_leaveOpen_112 : decode cX0_leaveOpen 112 = .ok (.lload 4, 2) := by decide +kernel
theorem dX0_leaveOpen_114 : decode cX0_leaveOpen 114 = .ok (.lastore, 1) := by decide +kernel
theorem dX0_leaveOpen_115 : decode cX0_leaveOpen 115 = .ok (.aload_n 0, 1) := by decide +kernel
theorem dX0_leaveOpen_116 : decode cX0_leaveOpen 116 = .ok (.getfield 35, 3) := by decide +kernel
theorem dX0_leaveOpen_119 : decode cX0_leaveOpen 119 = .ok (.iload_n 3, 1) := by decide +kernel
theorem dX0_leaveOpen_120 : decode cX0_leaveOpen 120 = .ok (.iload_n 2, 1) := by decide +kernel
theorem dX0_leaveOpen_121 : decode cX0_leaveOpen 121 = .ok (.iadd, 1) := by decide +kernel
theorem dX0_leaveOpen_122 : decode cX0_leaveOpen 122 = .ok (.lload 4, 2) := by decide +kernel
theorem dX0_leaveOpen_124 : decode cX0_leaveOpen 124 = .ok (.lastore, 1) := by decide +kernel
theorem dX0_leaveOpen_125 : decode cX0_leaveOpen 125 = .ok (.iinc 3 1, 3) := by decide +kernel
theorem dX0_leaveOpen_128 : decode cX0_leaveOpen 128 = .ok (.goto (-54), 3) := by decide +kernel
theorem dX0_leaveOpen_131 : decode cX0_leaveOpen 131 = .ok (.return_, 1) := by decide +kernel
def f_X0_leaveOpen_12s (F P : Nat) (S : xSt) (rec_12 : Nat → Int32 → Int32 → Int32 → xDt → Option (xDt)) (v0 : Nat) (v1 : Int32) (v2 : Int32) (v3 : Int32) (D : xDt) : Option (xDt) :=
  if (D.1 v0 9) ≤ v3 then (some D) else (xgrd (xin v3 (xl S (xr S v0 6))) (xlet (D.2 (xr S v0 6) (v3).toNatClampNeg) fun v4_2 => xgrd (xin v1 6) (xgrd (xin v1 6) (xgrd (xin v3 (xl S (xr S v0 6))) (xlet (D.1, xup D.2 (xr S v0 6) (v3).toNatClampNeg ((v4_2 ||| (jlushr (v4_2 &&& (xSETv (v1).toNatClampNeg)) v2)) ||| ((jlshl v4_2 v2) &&& (xSETv (v1).toNatClampNeg)))) fun D6 => xlet (v3 + 1) fun v3_7 => rec_12 v0 v1 v2 v3_7 D6)))))
def f_X0_leaveOpen_12 (F P : Nat) (S : xSt) : Nat → Nat → Int32 → Int32 → Int32 → xDt → Option (xDt)
  | 0 => fun _ _ _ _ _ => none
  | n + 1 => f_X0_leaveOpen_12s F P S (f_X0_leaveOpen_12 F P S n)
set_option maxHeartbeats 4000000 in
theorem t_X0_leaveOpen_12s {F P : Nat} {S : xSt} (hS : xWF S) {rec_12 : Nat → Int32 → Int32 → Int32 → xDt → Option (xDt)} (hrec_12 : ∀ {v0 : Nat} {v1 : Int32} {v2 : Int32} {v3 : Int32} {D : xDt} {r : xDt}, xK S v0 0 → rec_12 v0 v1 v2 v3 D = some r → yEx md_X0_leaveOpen 0 12 [(0, .ref v0), (1, .int v1), (2, .int v2), (3, .int v3)] [] S D (xQv S r)) {v0 : Nat} {v1 : Int32} {v2 : Int32} {v3 : Int32} {D : xDt} {r : xDt} (k0 : xK S v0 0) (h : f_X0_leaveOpen_12s F P S rec_12 v0 v1 v2 v3 D = some r) : yEx md_X0_leaveOpen 0 12 [(0, .ref v0), (1, .int v1), (2, .int v2), (3, .int v3)] [] S D (xQv S r) := by
  unfold f_X0_leaveOpen_12s at h
  refine x_iload_n dX0_leaveOpen_12 3 rfl ?_
  refine x_aload_n dX0_leaveOpen_13 0 rfl ?_
  refine y_geti fl_RX0_84 dX0_leaveOpen_14 rfl k0 ?_
  refine x_icmp_ge 64 dX0_leaveOpen_17 (by decide) (fun c => ?_) (fun c => ?_)
  · rw [if_pos c] at h
    obtain rfl := Option.some.inj h
    exact y_vret rfl dX0_leaveOpen_64
  · rw [if_neg c] at h
    refine x_aload_n dX0_leaveOpen_20 0 rfl ?_
    refine y_getr (kd := 101) hS fl_RX0_35 dX0_leaveOpen_21 rfl k0 ?_
    refine x_iload_n dX0_leaveOpen_24 3 rfl ?_
    refine xgrd_e h (fun g1 h => ?_)
    refine y_lald dX0_leaveOpen_25 ((hS.f k0 6 101 rfl).2) g1 ?_
    refine xlet_e h (fun v4_2 ev4_2 h => ?_)
    refine y_lstore v4_2 ev4_2 [(4, .long v4_2), (0, .ref v0), (1, .int v1), (2, .int v2), (3, .int v3)] dX0_leaveOpen_26 (by show _ < 6; decide) rfl ?_
    refine x_aload_n dX0_leaveOpen_28 1 rfl ?_
    refine y_getr (kd := 101) hS fl_RX0_35 dX0_leaveOpen_29 rfl k0 ?_
    refine x_iload_n dX0_leaveOpen_32 4 rfl ?_
    refine x_lload dX0_leaveOpen_33 0 rfl ?_
    refine x_lload dX0_leaveOpen_35 0 rfl ?_
    refine x_getSET dX0_leaveOpen_37 wd_1030 ?_
    refine x_iload_n dX0_leaveOpen_40 2 rfl ?_
    refine xgrd_e h (fun g3 h => ?_)
    refine x_SETld dX0_leaveOpen_41 g3 ?_
    refine x_land dX0_leaveOpen_42 ?_
    refine x_iload_n dX0_leaveOpen_43 3 rfl ?_
    refine x_lushr dX0_leaveOpen_44 ?_
    refine x_lor dX0_leaveOpen_45 ?_
    refine x_lload dX0_leaveOpen_46 0 rfl ?_
    refine x_iload_n dX0_leaveOpen_48 3 rfl ?_
    refine x_lshl dX0_leaveOpen_49 ?_
    refine x_getSET dX0_leaveOpen_50 wd_1030 ?_
    refine x_iload_n dX0_leaveOpen_53 2 rfl ?_
    refine xgrd_e h (fun g4 h => ?_)
    refine x_SETld dX0_leaveOpen_54 g4 ?_
    refine x_land dX0_leaveOpen_55 ?_
    refine x_lor dX0_leaveOpen_56 ?_
    refine xgrd_e h (fun g5 h => ?_)
    refine xlet_e h (fun D6 eD6 h => ?_)
    refine y_last dX0_leaveOpen_57 ((hS.f k0 6 101 rfl).2) g5 eD6 ?_
    refine xlet_e h (fun v3_7 ev3_7 h => ?_)
    refine y_iinc v3_7 ev3_7 (by decide) [(3, .int v3_7), (4, .long v4_2), (0, .ref v0), (1, .int v1), (2, .int v2)] dX0_leaveOpen_58 4 rfl (by show _ < 6; decide) rfl ?_
    refine x_goto 12 dX0_leaveOpen_61 (by decide) ?_
    refine x_lv (lv' := [(0, .ref v0), (1, .int v1), (2, .int v2), (3, .int v3_7)]) [2, 3, 4, 0] rfl ?_
    exact hrec_12 k0 h
theorem t_X0_leaveOpen_12 {F P : Nat} {S : xSt} (hS : xWF S) : ∀ (n : Nat) {v0 : Nat} {v1 : Int32} {v2 : Int32} {v3 : Int32} {D : xDt} {r : xDt}, xK S v0 0 → f_X0_leaveOpen_12 F P S n v0 v1 v2 v3 D = some r → yEx md_X0_leaveOpen 0 12 [(0, .ref v0), (1, .int v1), (2, .int v2), (3, .int v3)] [] S D (xQv S r) := by
  intro n
  induction n with
  | zero => intros; rename_i h; cases h
  | succ n ih =>
    intro v0 v1 v2 v3 D r k0 h
    exact t_X0_leaveOpen_12s hS (fun k0 h => ih k0 h) k0 h

def f_X0_leaveOpen_125 (F P : Nat) (S : xSt) (rec_74 : Nat → Int32 → Int32 → xDt → Option (xDt)) (v0 : Nat) (v2 : Int32) (v3 : Int32) (D : xDt) : Option (xDt) :=
  xlet (v3 + 1) fun v3_1 => rec_74 v0 v2 v3_1 D
set_option maxHeartbeats 4000000 in
theorem t_X0_leaveOpen_125 {F P : Nat} {S : xSt} (hS : xWF S) {rec_74 : Nat → Int32 → Int32 → xDt → Option (xDt)} (hrec_74 : ∀ {v0 : Nat} {v2 : Int32} {v3 : Int32} {D : xDt} {r : xDt}, xK S v0 0 → rec_74 v0 v2 v3 D = some r → yEx md_X0_leaveOpen 0 74 [(0, .ref v0), (2, .int v2), (3, .int v3)] [] S D (xQv S r)) {v0 : Nat} {v2 : Int32} {v3 : Int32} {D : xDt} {r : xDt} (k0 : xK S v0 0) (h : f_X0_leaveOpen_125 F P S rec_74 v0 v2 v3 D = some r) : yEx md_X0_leaveOpen 0 125 [(0, .ref v0), (2, .int v2), (3, .int v3)] [] S D (xQv S r) := by
  unfold f_X0_leaveOpen_125 at h
  refine xlet_e h (fun v3_1 ev3_1 h => ?_)
  refine y_iinc v3_1 ev3_1 (by decide) [(3, .int v3_1), (0, .ref v0), (2, .int v2)] dX0_leaveOpen_125 2 rfl (by show _ < 6; decide) rfl ?_
  refine x_goto 74 dX0_leaveOpen_128 (by decide) ?_
  refine x_lv (lv' := [(0, .ref v0), (2, .int v2), (3, .int v3_1)]) [1, 2, 0] rfl ?_
  exact hrec_74 k0 h

def f_X0_leaveOpen_74s (F P : Nat) (S : xSt) (rec_74 : Nat → Int32 → Int32 → xDt → Option (xDt)) (v0 : Nat) (v2 : Int32) (v3 : Int32) (D : xDt) : Option (xDt) :=
  if (D.1 v0 9) ≤ (v3 + v2) then (some D) else (if (v3 &&& v2) = 0 then (xgrd (xin v3 (xl S (xr S v0 6))) (xgrd (xin (v3 + v2) (xl S (xr S v0 6))) (xlet ((D.2 (xr S v0 6) (v3).toNatClampNeg) ||| (D.2 (xr S v0 6) (v3 + v2).toNatClampNeg)) fun v4_3 => xgrd (xin v3 (xl S (xr S v0 6))) (xlet (D.1, xup D.2 (xr S v0 6) (v3).toNatClampNeg v4_3) fun D5 => xgrd (xin (v3 + v2) (xl S (xr S v0 6))) (xlet (D5.1, xup D5.2 (xr S v0 6) (v3 + v2).toNatClampNeg v4_3) fun D7 => f_X0_leaveOpen_125 F P S rec_74 v0 v2 v3 D7))))) else (f_X0_leaveOpen_125 F P S rec_74 v0 v2 v3 D))
def f_X0_leaveOpen_74 (F P : Nat) (S : xSt) : Nat → Nat → Int32 → Int32 → xDt → Option (xDt)
  | 0 => fun _ _ _ _ => none
  | n + 1 => f_X0_leaveOpen_74s F P S (f_X0_leaveOpen_74 F P S n)
set_option maxHeartbeats 4000000 in
theorem t_X0_leaveOpen_74s {F P : Nat} {S : xSt} (hS : xWF S) {rec_74 : Nat → Int32 → Int32 → xDt → Option (xDt)} (hrec_74 : ∀ {v0 : Nat} {v2 : Int32} {v3 : Int32} {D : xDt} {r : xDt}, xK S v0 0 → rec_74 v0 v2 v3 D = some r → yEx md_X0_leaveOpen 0 74 [(0, .ref v0), (2, .int v2), (3, .int v3)] [] S D (xQv S r)) {v0 : Nat} {v2 : Int32} {v3 : Int32} {D : xDt} {r : xDt} (k0 : xK S v0 0) (h : f_X0_leaveOpen_74s F P S rec_74 v0 v2 v3 D = some r) : yEx md_X0_leaveOpen 0 74 [(0, .ref v0), (2, .int v2), (3, .int v3)] [] S D (xQv S r) := by
  unfold f_X0_leaveOpen_74s at h
  refine x_iload_n dX0_leaveOpen_74 2 rfl ?_
  refine x_iload_n dX0_leaveOpen_75 1 rfl ?_
  refine x_iadd dX0_leaveOpen_76 ?_
  refine x_aload_n dX0_leaveOpen_77 0 rfl ?_
  refine y_geti fl_RX0_84 dX0_leaveOpen_78 rfl k0 ?_
  refine x_icmp_ge 131 dX0_leaveOpen_81 (by decide) (fun c => ?_) (fun c => ?_)
  · rw [if_pos c] at h
    obtain rfl := Option.some.inj h
    exact y_vret rfl dX0_leaveOpen_131
  · rw [if_neg c] at h
    refine x_iload_n dX0_leaveOpen_84 2 rfl ?_
    refine x_iload_n dX0_leaveOpen_85 1 rfl ?_
    refine x_iand dX0_leaveOpen_86 ?_
    refine x_if_ne 125 dX0_leaveOpen_87 (by decide) (fun c => ?_) (fun c => ?_)
    · rw [if_neg c] at h
      exact t_X0_leaveOpen_125 hS hrec_74 k0 h
    · rw [if_pos c] at h
      refine x_aload_n dX0_leaveOpen_90 0 rfl ?_
      refine y_getr (kd := 101) hS fl_RX0_35 dX0_leaveOpen_91 rfl k0 ?_
      refine x_iload_n dX0_leaveOpen_94 2 rfl ?_
      refine xgrd_e h (fun g1 h => ?_)
      refine y_lald dX0_leaveOpen_95 ((hS.f k0 6 101 rfl).2) g1 ?_
      refine x_aload_n dX0_leaveOpen_96 0 rfl ?_
      refine y_getr (kd := 101) hS fl_RX0_35 dX0_leaveOpen_97 rfl k0 ?_
      refine x_iload_n dX0_leaveOpen_100 2 rfl ?_
      refine x_iload_n dX0_leaveOpen_101 1 rfl ?_
      refine x_iadd dX0_leaveOpen_102 ?_
      refine xgrd_e h (fun g2 h => ?_)
      refine y_lald dX0_leaveOpen_103 ((hS.f k0 6 101 rfl).2) g2 ?_
      refine x_lor dX0_leaveOpen_104 ?_
      refine xlet_e h (fun v4_3 ev4_3 h => ?_)
      refine y_lstore v4_3 ev4_3 [(4, .long v4_3), (0, .ref v0), (2, .int v2), (3, .int v3)] dX0_leaveOpen_105 (by show _ < 6; decide) rfl ?_
      refine x_aload_n dX0_leaveOpen_107 1 rfl ?_
      refine y_getr (kd := 101) hS fl_RX0_35 dX0_leaveOpen_108 rfl k0 ?_
      refine x_iload_n dX0_leaveOpen_111 3 rfl ?_
      refine x_lload dX0_leaveOpen_112 0 rfl ?_
      refine xgrd_e h (fun g4 h => ?_)
      refine xlet_e h (fun D5 eD5 h => ?_)
      refine y_last dX0_leaveOpen_114 ((hS.f k0 6 101 rfl).2) g4 eD5 ?_
      refine x_aload_n dX0_leaveOpen_115 1 rfl ?_
      refine y_getr (kd := 101) hS fl_RX0_35 dX0_leaveOpen_116 rfl k0 ?_
      refine x_iload_n dX0_leaveOpen_119 3 rfl ?_
      refine x_iload_n dX0_leaveOpen_120 2 rfl ?_
      refine x_iadd dX0_leaveOpen_121 ?_
      refine x_lload dX0_leaveOpen_122 0 rfl ?_
      refine xgrd_e h (fun g6 h => ?_)
      refine xlet_e h (fun D7 eD7 h => ?_)
      refine y_last dX0_leaveOpen_124 ((hS.f k0 6 101 rfl).2) g6 eD7 ?_
      refine x_lv (lv' := [(0, .ref v0), (2, .int v2), (3, .int v3)]) [1, 2, 3] rfl ?_
      exact t_X0_leaveOpen_125 hS hrec_74 k0 h
theorem t_X0_leaveOpen_74 {F P : Nat} {S : xSt} (hS : xWF S) : ∀ (n : Nat) {v0 : Nat} {v2 : Int32} {v3 : Int32} {D : xDt} {r : xDt}, xK S v0 0 → f_X0_leaveOpen_74 F P S n v0 v2 v3 D = some r → yEx md_X0_leaveOpen 0 74 [(0, .ref v0), (2, .int v2), (3, .int v3)] [] S D (xQv S r) := by
  intro n
  induction n with
  | zero => intros; rename_i h; cases h
  | succ n ih =>
    intro v0 v2 v3 D r k0 h
    exact t_X0_leaveOpen_74s hS (fun k0 h => ih k0 h) k0 h

def f_X0_leaveOpen (F P : Nat) (S : xSt) (v0 : Nat) (v1 : Int32) (D : xDt) : Option (xDt) :=
  if 6 ≤ v1 then (xlet (jishl 1 (v1 - 6)) fun v2_1 => f_X0_leaveOpen_74 F P S F v0 v2_1 0 D) else (xlet (jishl 1 v1) fun v2_2 => f_X0_leaveOpen_12 F P S F v0 v1 v2_2 0 D)
set_option maxHeartbeats 4000000 in
theorem S_X0_leaveOpen {F P : Nat} {S : xSt} (hS : xWF S) {v0 : Nat} {v1 : Int32} {D : xDt} {r : xDt} (k0 : xK S v0 0) (h : f_X0_leaveOpen F P S v0 v1 D = some r) : xSp md_X0_leaveOpen (0, 0, 0) [.ref v0, .int v1] (S, D) (xQv S r) := by
  unfold f_X0_leaveOpen at h
  refine xEntry (by decide) (Nat.le_of_ble_eq_true rfl) ?_
  refine x_lv (lv' := [(0, .ref v0), (1, .int v1)]) [0, 1] rfl ?_
  refine x_iload_n dX0_leaveOpen_0 1 rfl ?_
  refine x_bipush 6 dX0_leaveOpen_1 (by decide) ?_
  refine x_icmp_ge 65 dX0_leaveOpen_3 (by decide) (fun c => ?_) (fun c => ?_)
  · rw [if_pos c] at h
    refine x_iconst 1 dX0_leaveOpen_65 (by decide) ?_
    refine x_iload_n dX0_leaveOpen_66 1 rfl ?_
    refine x_bipush 6 dX0_leaveOpen_67 (by decide) ?_
    refine x_isub dX0_leaveOpen_69 ?_
    refine x_ishl dX0_leaveOpen_70 ?_
    refine xlet_e h (fun v2_1 ev2_1 h => ?_)
    refine y_istore_n v2_1 ev2_1 [(2, .int v2_1), (0, .ref v0), (1, .int v1)] dX0_leaveOpen_71 (by show _ < 6; decide) rfl ?_
    refine x_iconst 0 dX0_leaveOpen_72 (by decide) ?_
    refine y_istore_n 0 rfl [(3, .int 0), (2, .int v2_1), (0, .ref v0), (1, .int v1)] dX0_leaveOpen_73 (by show _ < 6; decide) rfl ?_
    refine x_lv (lv' := [(0, .ref v0), (2, .int v2_1), (3, .int 0)]) [2, 1, 0] rfl ?_
    exact t_X0_leaveOpen_74 hS F k0 h
  · rw [if_neg c] at h
    refine x_iconst 1 dX0_leaveOpen_6 (by decide) ?_
    refine x_iload_n dX0_leaveOpen_7 1 rfl ?_
    refine x_ishl dX0_leaveOpen_8 ?_
    refine xlet_e h (fun v2_2 ev2_2 h => ?_)
    refine y_istore_n v2_2 ev2_2 [(2, .int v2_2), (0, .ref v0), (1, .int v1)] dX0_leaveOpen_9 (by show _ < 6; decide) rfl ?_
    refine x_iconst 0 dX0_leaveOpen_10 (by decide) ?_
    refine y_istore_n 0 rfl [(3, .int 0), (2, .int v2_2), (0, .ref v0), (1, .int v1)] dX0_leaveOpen_11 (by show _ < 6; decide) rfl ?_
    refine x_lv (lv' := [(0, .ref v0), (1, .int v1), (2, .int v2_2), (3, .int 0)]) [2, 3, 1, 0] rfl ?_
    exact t_X0_leaveOpen_12 hS F k0 h

theorem dX0_spreadBy_0 : decode cX0_spreadBy 0 = .ok (.aload_n 0, 1) := by decide +kernel
theorem dX0_spreadBy_1 : decode cX0_spreadBy 1 = .ok (.getfield 38, 3) := by decide +kernel
theorem dX0_spreadBy_4 : decode cX0_spreadBy 4 = .ok (.iconst 0, 1) := by decide +kernel
theorem dX0_spreadBy_5 : decode cX0_spreadBy 5 = .ok (.aload_n 0, 1) := by decide +kernel
theorem dX0_spreadBy_6 : decode cX0_spreadBy 6 = .ok (.getfield 35, 3) := by decide +kernel
theorem dX0_spreadBy_9 : decode cX0_spreadBy 9 = .ok (.iconst 0, 1) := by decide +kernel
theorem dX0_spreadBy_10 : decode cX0_spreadBy 10 = .ok (.aload_n 0, 1) := by decide +kernel
theorem dX0_spreadBy_11 : decode cX0_spreadBy 11 = .ok (.getfield 84, 3) := by decide +kernel
theorem dX0_spreadBy_14 : decode cX0_spreadBy 14 = .ok (.invokestatic 160, 3) := by decide +kernel
theorem dX0_spreadBy_17 : decode cX0_spreadBy 17 = .ok (.iconst 0, 1) := by decide +kernel
theorem dX0_spreadBy_18 : decode cX0_spreadBy 18 = .ok (.istore_n 2, 1) := by decide +kernel
theorem dX0_spreadBy_19 : decode cX0_spreadBy 19 = .ok (.iload_n 2, 1) := by decide +kernel
theorem dX0_spreadBy_20 : decode cX0_spreadBy 20 = .ok (.aload_n 0, 1) := by decide +kernel
theorem dX0_spreadBy_21 : decode cX0_spreadBy 21 = .ok (.getfield 18, 3) := by decide +kernel
theorem dX0_spreadBy_24 : decode cX0_spreadBy 24 = .ok (.getfield 73, 3) := by decide +kernel
theorem dX0_spreadBy_27 : decode cX0_spreadBy 27 = .ok (.if_icmp .ge 22, 3) := by decide +kernel
theorem dX0_spreadBy_30 : decode cX0_spreadBy 30 = .ok (.iload_n 1, 1) := by decide +kernel
theorem dX0_spreadBy_31 : decode cX0_spreadBy 31 = .ok (.iload_n 2, 1) := by decide +kernel
theorem dX0_spreadBy_32 : decode cX0_spreadBy 32 = .ok (.ishr, 1) := by decide +kernel
theorem dX0_spreadBy_33 : decode cX0_spreadBy 33 = .ok (.iconst 1, 1) := by decide +kernel
theorem dX0_spreadBy_34 : decode cX0_spreadBy 34 = .ok (.iand, 1) := by decide +kernel
theorem dX0_spreadBy_35 : decode cX0_spreadBy 35 = .ok (.ifCond .ne 8, 3) := by decide +kernel
theorem dX0_spreadBy_38 : decode cX0_spreadBy 38 = .ok (.aload_n 0, 1) := by decide +kernel
theorem dX0_spreadBy_39 : decode cX0_spreadBy 39 = .ok (.iload_n 2, 1) := by decide +kernel
theorem dX0_spreadBy_40 : decode cX0_spreadBy 40 = .ok (.invokevirtual 166, 3) := by decide +kernel
theorem dX0_spreadBy_43 : decode cX0_spreadBy 43 = .ok (.iinc 2 1, 3) := by decide +kernel
theorem dX0_spreadBy_46 : decode cX0_spreadBy 46 = .ok (.goto (-27), 3) := by decide +kernel
theorem dX0_spreadBy_49 : decode cX0_spreadBy 49 = .ok (.iconst 0, 1) := by decide +kernel
theorem dX0_spreadBy_50 : decode cX0_spreadBy 50 = .ok (.istore_n 2, 1) := by decide +kernel
theorem dX0_spreadBy_51 : decode cX0_spreadBy 51 = .ok (.iconst 0, 1) := by decide +kernel
theorem dX0_spreadBy_52 : decode cX0_spreadBy 52 = .ok (.istore_n 3, 1) := by decide +kernel
theorem dX0_spreadBy_53 : decode cX0_spreadBy 53 = .ok (.iload_n 3, 1) := by decide +kernel
theorem dX0_spreadBy_54 : decode cX0_spreadBy 54 = .ok (.aload_n 0, 1) := by decide +kernel
theorem dX0_spreadBy_55 : decode cX0_spreadBy 55 = .ok (.getfield 84, 3) := by decide +kernel
theorem dX0_spreadBy_58 : decode cX0_spreadBy 58 = .ok (.if_icmp .ge 61, 3) := by decide +kernel
theorem dX0_spreadBy_61 : decode cX0_spreadBy 61 = .ok (.aload_n 0, 1) := by decide +kernel
theorem dX0_spreadBy_62 : decode cX0_spreadBy 62 = .ok (.getfield 38, 3) := by decide +kernel
theorem dX0_spreadBy_65 : decode cX0_spreadBy 65 = .ok (.iload_n 3, 1) := by decide +kernel
theorem dX0_spreadBy_66 : decode cX0_spreadBy 66 = .ok (.laload, 1) := by decide +kernel
theorem dX0_spreadBy_67 : decode cX0_spreadBy 67 = .ok (.aload_n 0, 1) := by decide +kernel
theorem dX0_spreadBy_68 : decode cX0_spreadBy 68 = .ok (.getfield 35, 3) := by decide +kernel
theorem dX0_spreadBy_71 : decode cX0_spreadBy 71 = .ok (.iload_n 3, 1) := by decide +kernel
theorem dX0_spreadBy_72 : decode cX0_spreadBy 72 = .ok (.laload, 1) := by decide +kernel
theorem dX0_spreadBy_73 : decode cX0_spreadBy 73 = .ok (.aload_n 0, 1) := by decide +kernel
theorem dX0_spreadBy_74 : decode cX0_spreadBy 74 = .ok (.getfield 32, 3) := by decide +kernel
theorem dX0_spreadBy_77 : decode cX0_spreadBy 77 = .ok (.iload_n 3, 1) := by decide +kernel
theorem dX0_spreadBy_78 : decode cX0_spreadBy 78 = .ok (.laload, 1) := by decide +kernel
theorem dX0_spreadBy_79 : decode cX0_spreadBy 79 = .ok (.land, 1) := by decide +kernel
theorem dX0_spreadBy_80 : decode cX0_spreadBy 80 = .ok (.lor, 1) := by decide +kernel
theorem dX0_spreadBy_81 : decode cX0_spreadBy 81 = .ok (.lstore 4, 2) := by decide +kernel
theorem dX0_spreadBy_83 : decode cX0_spreadBy 83 = .ok (.iload_n 2, 1) := by decide +kernel
theorem dX0_spreadBy_84 : decode cX0_spreadBy 84 = .ok (.ifCond .ne 15, 3) := by decide +kernel
theorem dX0_spreadBy_87 : decode cX0_spreadBy 87 = .ok (.lload 4, 2) := by decide +kernel
theorem dX0_spreadBy_89 : decode cX0_spreadBy 89 = .ok (.aload_n 0, 1) := by decide +kernel
theorem dX0_spreadBy_90 : decode cX0_spreadBy 90 = .ok (.getfield 38, 3) := by decide +kernel
theorem dX0_spreadBy_93 : decode cX0_spreadBy 93 = .ok (.iload_n 3, 1) := by decide +kernel
theorem dX0_spreadBy_94 : decode cX0_spreadBy 94 = .ok (.laload, 1) := by decide +kernel
theorem dX0_spreadBy_95 : decode cX0_spreadBy 95 = .ok (.lcmp, 1) := by decide +kernel
theorem dX0_spreadBy_96 : decode cX0_spreadBy 96 = .ok (.ifCond .eq 7, 3) := by decide +kernel
theorem dX0_spreadBy_99 : decode cX0_spreadBy 99 = .ok (.iconst 1, 1) := by decide +kernel
theorem dX0_spreadBy_100 : decode cX0_spreadBy 100 = .ok (.goto 4, 3) := by decide +kernel
theorem dX0_spreadBy_103 : decode cX0_spreadBy 103 = .ok (.iconst 0, 1) := by decide +kernel
theorem dX0_spreadBy_104 : decode cX0_spreadBy 104 = .ok (.istore_n 2, 1) := by decide +kernel
theorem dX0_spreadBy_105 : decode cX0_spreadBy 105 = .ok (.aload_n 0, 1) := by decide +kernel
theorem dX0_spreadBy_106 : decode cX0_spreadBy 106 = .ok (.getfield 38, 3) := by decide +kernel
theorem dX0_spreadBy_109 : decode cX0_spreadBy 109 = .ok (.iload_n 3, 1) := by decide +kernel
theorem dX0_spreadBy_110 : decode cX0_spreadBy 110 = .ok (.lload 4, 2) := by decide +kernel
theorem dX0_spreadBy_112 : decode cX0_spreadBy 112 = .ok (.lastore, 1) := by decide +kernel
theorem dX0_spreadBy_113 : decode cX0_spreadBy 113 = .ok (.iinc 3 1, 3) := by decide +kernel
theorem dX0_spreadBy_116 : decode cX0_spreadBy 116 = .ok (.goto (-63), 3) := by decide +kernel
theorem dX0_spreadBy_119 : decode cX0_spreadBy 119 = .ok (.iload_n 2, 1) := by decide +kernel
theorem dX0_spreadBy_120 : decode cX0_spreadBy 120 = .ok (.ireturn, 1) := by decide +kernel
def f_X0_spreadBy_43 (F P : Nat) (S : xSt) (rec_19 : Nat → Int32 → Int32 → xDt → Option (Int32 × xDt)) (v0 : Nat) (v1 : Int32) (v2 : Int32) (D : xDt) : Option (Int32 × xDt) :=
  xlet (v2 + 1) fun v2_1 => rec_19 v0 v1 v2_1 D
set_option maxHeartbeats 4000000 in
theorem t_X0_spreadBy_43 {F P : Nat} {S : xSt} (hS : xWF S) {rec_19 : Nat → Int32 → Int32 → xDt → Option (Int32 × xDt)} (hrec_19 : ∀ {v0 : Nat} {v1 : Int32} {v2 : Int32} {D : xDt} {r : Int32 × xDt}, xK S v0 0 → rec_19 v0 v1 v2 D = some r → yEx md_X0_spreadBy 1 19 [(0, .ref v0), (1, .int v1), (2, .int v2)] [] S D (xQi S r)) {v0 : Nat} {v1 : Int32} {v2 : Int32} {D : xDt} {r : Int32 × xDt} (k0 : xK S v0 0) (h : f_X0_spreadBy_43 F P S rec_19 v0 v1 v2 D = some r) : yEx md_X0_spreadBy 1 43 [(0, .ref v0), (1, .int v1), (2, .int v2)] [] S D (xQi S r) := by
  unfold f_X0_spreadBy_43 at h
  refine xlet_e h (fun v2_1 ev2_1 h => ?_)
  refine y_iinc v2_1 ev2_1 (by decide) [(2, .int v2_1), (0, .ref v0), (1, .int v1)] dX0_spreadBy_43 2 rfl (by show _ < 6; decide) rfl ?_
  refine x_goto 19 dX0_spreadBy_46 (by decide) ?_
  refine x_lv (lv' := [(0, .ref v0), (1, .int v1), (2, .int v2_1)]) [1, 2, 0] rfl ?_
  exact hrec_19 k0 h

def f_X0_spreadBy_104 (F P : Nat) (S : xSt) (rec_53 : Nat → Int32 → Int32 → xDt → Option (Int32 × xDt)) (v0 : Nat) (v3 : Int32) (v4 : Int64) (s0 : Int32) (D : xDt) : Option (Int32 × xDt) :=
  xgrd (xin v3 (xl S (xr S v0 7))) (xlet (D.1, xup D.2 (xr S v0 7) (v3).toNatClampNeg v4) fun D2 => xlet (v3 + 1) fun v3_3 => rec_53 v0 s0 v3_3 D2)
set_option maxHeartbeats 4000000 in
theorem t_X0_spreadBy_104 {F P : Nat} {S : xSt} (hS : xWF S) {rec_53 : Nat → Int32 → Int32 → xDt → Option (Int32 × xDt)} (hrec_53 : ∀ {v0 : Nat} {v2 : Int32} {v3 : Int32} {D : xDt} {r : Int32 × xDt}, xK S v0 0 → rec_53 v0 v2 v3 D = some r → yEx md_X0_spreadBy 1 53 [(0, .ref v0), (2, .int v2), (3, .int v3)] [] S D (xQi S r)) {v0 : Nat} {v3 : Int32} {v4 : Int64} {s0 : Int32} {D : xDt} {r : Int32 × xDt} (k0 : xK S v0 0) (h : f_X0_spreadBy_104 F P S rec_53 v0 v3 v4 s0 D = some r) : yEx md_X0_spreadBy 1 104 [(0, .ref v0), (3, .int v3), (4, .long v4)] [.int s0] S D (xQi S r) := by
  unfold f_X0_spreadBy_104 at h
  refine y_istore_n s0 rfl [(2, .int s0), (0, .ref v0), (3, .int v3), (4, .long v4)] dX0_spreadBy_104 (by show _ < 6; decide) rfl ?_
  refine x_aload_n dX0_spreadBy_105 1 rfl ?_
  refine y_getr (kd := 101) hS fl_RX0_38 dX0_spreadBy_106 rfl k0 ?_
  refine x_iload_n dX0_spreadBy_109 2 rfl ?_
  refine x_lload dX0_spreadBy_110 3 rfl ?_
  refine xgrd_e h (fun g1 h => ?_)
  refine xlet_e h (fun D2 eD2 h => ?_)
  refine y_last dX0_spreadBy_112 ((hS.f k0 7 101 rfl).2) g1 eD2 ?_
  refine xlet_e h (fun v3_3 ev3_3 h => ?_)
  refine y_iinc v3_3 ev3_3 (by decide) [(3, .int v3_3), (2, .int s0), (0, .ref v0), (4, .long v4)] dX0_spreadBy_113 2 rfl (by show _ < 6; decide) rfl ?_
  refine x_goto 53 dX0_spreadBy_116 (by decide) ?_
  refine x_lv (lv' := [(0, .ref v0), (2, .int s0), (3, .int v3_3)]) [2, 1, 0] rfl ?_
  exact hrec_53 k0 h

def f_X0_spreadBy_99 (F P : Nat) (S : xSt) (rec_53 : Nat → Int32 → Int32 → xDt → Option (Int32 × xDt)) (v0 : Nat) (v3 : Int32) (v4 : Int64) (D : xDt) : Option (Int32 × xDt) :=
  f_X0_spreadBy_104 F P S rec_53 v0 v3 v4 1 D
set_option maxHeartbeats 4000000 in
theorem t_X0_spreadBy_99 {F P : Nat} {S : xSt} (hS : xWF S) {rec_53 : Nat → Int32 → Int32 → xDt → Option (Int32 × xDt)} (hrec_53 : ∀ {v0 : Nat} {v2 : Int32} {v3 : Int32} {D : xDt} {r : Int32 × xDt}, xK S v0 0 → rec_53 v0 v2 v3 D = some r → yEx md_X0_spreadBy 1 53 [(0, .ref v0), (2, .int v2), (3, .int v3)] [] S D (xQi S r)) {v0 : Nat} {v3 : Int32} {v4 : Int64} {D : xDt} {r : Int32 × xDt} (k0 : xK S v0 0) (h : f_X0_spreadBy_99 F P S rec_53 v0 v3 v4 D = some r) : yEx md_X0_spreadBy 1 99 [(0, .ref v0), (3, .int v3), (4, .long v4)] [] S D (xQi S r) := by
  unfold f_X0_spreadBy_99 at h
  refine x_iconst 1 dX0_spreadBy_99 (by decide) ?_
  refine x_goto 104 dX0_spreadBy_100 (by decide) ?_
  exact t_X0_spreadBy_104 hS hrec_53 k0 h

def f_X0_spreadBy_53s (F P : Nat) (S : xSt) (rec_53 : Nat → Int32 → Int32 → xDt → Option (Int32 × xDt)) (v0 : Nat) (v2 : Int32) (v3 : Int32) (D : xDt) : Option (Int32 × xDt) :=
  if (D.1 v0 9) ≤ v3 then (xgrd (xb v2) (some (v2, D))) else (xgrd (xin v3 (xl S (xr S v0 7))) (xgrd (xin v3 (xl S (xr S v0 6))) (xgrd (xin v3 (xl S (xr S v0 5))) (xlet ((D.2 (xr S v0 7) (v3).toNatClampNeg) ||| ((D.2 (xr S v0 6) (v3).toNatClampNeg) &&& (D.2 (xr S v0 5) (v3).toNatClampNeg))) fun v4_5 => if v2 = 0 then (xgrd (xin v3 (xl S (xr S v0 7))) (if (lg_cmp v4_5 (D.2 (xr S v0 7) (v3).toNatClampNeg)) = 0 then (f_X0_spreadBy_104 F P S rec_53 v0 v3 v4_5 0 D) else (f_X0_spreadBy_99 F P S rec_53 v0 v3 v4_5 D))) else (f_X0_spreadBy_99 F P S rec_53 v0 v3 v4_5 D)))))
def f_X0_spreadBy_53 (F P : Nat) (S : xSt) : Nat → Nat → Int32 → Int32 → xDt → Option (Int32 × xDt)
  | 0 => fun _ _ _ _ => none
  | n + 1 => f_X0_spreadBy_53s F P S (f_X0_spreadBy_53 F P S n)
set_option maxHeartbeats 4000000 in
theorem t_X0_spreadBy_53s {F P : Nat} {S : xSt} (hS : xWF S) {rec_53 : Nat → Int32 → Int32 → xDt → Option (Int32 × xDt)} (hrec_53 : ∀ {v0 : Nat} {v2 : Int32} {v3 : Int32} {D : xDt} {r : Int32 × xDt}, xK S v0 0 → rec_53 v0 v2 v3 D = some r → yEx md_X0_spreadBy 1 53 [(0, .ref v0), (2, .int v2), (3, .int v3)] [] S D (xQi S r)) {v0 : Nat} {v2 : Int32} {v3 : Int32} {D : xDt} {r : Int32 × xDt} (k0 : xK S v0 0) (h : f_X0_spreadBy_53s F P S rec_53 v0 v2 v3 D = some r) : yEx md_X0_spreadBy 1 53 [(0, .ref v0), (2, .int v2), (3, .int v3)] [] S D (xQi S r) := by
  unfold f_X0_spreadBy_53s at h
  refine x_iload_n dX0_spreadBy_53 2 rfl ?_
  refine x_aload_n dX0_spreadBy_54 0 rfl ?_
  refine y_geti fl_RX0_84 dX0_spreadBy_55 rfl k0 ?_
  refine x_icmp_ge 119 dX0_spreadBy_58 (by decide) (fun c => ?_) (fun c => ?_)
  · rw [if_pos c] at h
    refine x_iload_n dX0_spreadBy_119 1 rfl ?_
    refine xgrd_e h (fun g1 h => ?_)
    obtain rfl := Option.some.inj h
    exact y_zret rfl g1 dX0_spreadBy_120
  · rw [if_neg c] at h
    refine x_aload_n dX0_spreadBy_61 0 rfl ?_
    refine y_getr (kd := 101) hS fl_RX0_38 dX0_spreadBy_62 rfl k0 ?_
    refine x_iload_n dX0_spreadBy_65 2 rfl ?_
    refine xgrd_e h (fun g2 h => ?_)
    refine y_lald dX0_spreadBy_66 ((hS.f k0 7 101 rfl).2) g2 ?_
    refine x_aload_n dX0_spreadBy_67 0 rfl ?_
    refine y_getr (kd := 101) hS fl_RX0_35 dX0_spreadBy_68 rfl k0 ?_
    refine x_iload_n dX0_spreadBy_71 2 rfl ?_
    refine xgrd_e h (fun g3 h => ?_)
    refine y_lald dX0_spreadBy_72 ((hS.f k0 6 101 rfl).2) g3 ?_
    refine x_aload_n dX0_spreadBy_73 0 rfl ?_
    refine y_getr (kd := 101) hS fl_RX0_32 dX0_spreadBy_74 rfl k0 ?_
    refine x_iload_n dX0_spreadBy_77 2 rfl ?_
    refine xgrd_e h (fun g4 h => ?_)
    refine y_lald dX0_spreadBy_78 ((hS.f k0 5 101 rfl).2) g4 ?_
    refine x_land dX0_spreadBy_79 ?_
    refine x_lor dX0_spreadBy_80 ?_
    refine xlet_e h (fun v4_5 ev4_5 h => ?_)
    refine y_lstore v4_5 ev4_5 [(4, .long v4_5), (0, .ref v0), (2, .int v2), (3, .int v3)] dX0_spreadBy_81 (by show _ < 6; decide) rfl ?_
    refine x_iload_n dX0_spreadBy_83 2 rfl ?_
    refine x_if_ne 99 dX0_spreadBy_84 (by decide) (fun c => ?_) (fun c => ?_)
    · rw [if_neg c] at h
      refine x_lv (lv' := [(0, .ref v0), (3, .int v3), (4, .long v4_5)]) [1, 3, 0] rfl ?_
      exact t_X0_spreadBy_99 hS hrec_53 k0 h
    · rw [if_pos c] at h
      refine x_lload dX0_spreadBy_87 0 rfl ?_
      refine x_aload_n dX0_spreadBy_89 1 rfl ?_
      refine y_getr (kd := 101) hS fl_RX0_38 dX0_spreadBy_90 rfl k0 ?_
      refine x_iload_n dX0_spreadBy_93 3 rfl ?_
      refine xgrd_e h (fun g6 h => ?_)
      refine y_lald dX0_spreadBy_94 ((hS.f k0 7 101 rfl).2) g6 ?_
      refine x_lcmp dX0_spreadBy_95 ?_
      refine x_if_eq 103 dX0_spreadBy_96 (by decide) (fun c => ?_) (fun c => ?_)
      · rw [if_pos c] at h
        refine x_iconst 0 dX0_spreadBy_103 (by decide) ?_
        refine x_lv (lv' := [(0, .ref v0), (3, .int v3), (4, .long v4_5)]) [1, 3, 0] rfl ?_
        exact t_X0_spreadBy_104 hS hrec_53 k0 h
      · rw [if_neg c] at h
        refine x_lv (lv' := [(0, .ref v0), (3, .int v3), (4, .long v4_5)]) [1, 3, 0] rfl ?_
        exact t_X0_spreadBy_99 hS hrec_53 k0 h
theorem t_X0_spreadBy_53 {F P : Nat} {S : xSt} (hS : xWF S) : ∀ (n : Nat) {v0 : Nat} {v2 : Int32} {v3 : Int32} {D : xDt} {r : Int32 × xDt}, xK S v0 0 → f_X0_spreadBy_53 F P S n v0 v2 v3 D = some r → yEx md_X0_spreadBy 1 53 [(0, .ref v0), (2, .int v2), (3, .int v3)] [] S D (xQi S r) := by
  intro n
  induction n with
  | zero => intros; rename_i h; cases h
  | succ n ih =>
    intro v0 v2 v3 D r k0 h
    exact t_X0_spreadBy_53s hS (fun k0 h => ih k0 h) k0 h

def f_X0_spreadBy_19s (F P : Nat) (S : xSt) (rec_19 : Nat → Int32 → Int32 → xDt → Option (Int32 × xDt)) (v0 : Nat) (v1 : Int32) (v2 : Int32) (D : xDt) : Option (Int32 × xDt) :=
  if (D.1 (xr S v0 1) 8) ≤ v2 then (f_X0_spreadBy_53 F P S F v0 0 0 D) else (if ((jishr v1 v2) &&& 1) = 0 then ((f_X0_leaveOpen F P S v0 v2 D).bind fun q1 => f_X0_spreadBy_43 F P S rec_19 v0 v1 v2 q1) else (f_X0_spreadBy_43 F P S rec_19 v0 v1 v2 D))
def f_X0_spreadBy_19 (F P : Nat) (S : xSt) : Nat → Nat → Int32 → Int32 → xDt → Option (Int32 × xDt)
  | 0 => fun _ _ _ _ => none
  | n + 1 => f_X0_spreadBy_19s F P S (f_X0_spreadBy_19 F P S n)
set_option maxHeartbeats 4000000 in
theorem t_X0_spreadBy_19s {F P : Nat} {S : xSt} (hS : xWF S) {rec_19 : Nat → Int32 → Int32 → xDt → Option (Int32 × xDt)} (hrec_19 : ∀ {v0 : Nat} {v1 : Int32} {v2 : Int32} {D : xDt} {r : Int32 × xDt}, xK S v0 0 → rec_19 v0 v1 v2 D = some r → yEx md_X0_spreadBy 1 19 [(0, .ref v0), (1, .int v1), (2, .int v2)] [] S D (xQi S r)) {v0 : Nat} {v1 : Int32} {v2 : Int32} {D : xDt} {r : Int32 × xDt} (k0 : xK S v0 0) (h : f_X0_spreadBy_19s F P S rec_19 v0 v1 v2 D = some r) : yEx md_X0_spreadBy 1 19 [(0, .ref v0), (1, .int v1), (2, .int v2)] [] S D (xQi S r) := by
  unfold f_X0_spreadBy_19s at h
  refine x_iload_n dX0_spreadBy_19 2 rfl ?_
  refine x_aload_n dX0_spreadBy_20 0 rfl ?_
  refine y_getr (kd := 8) hS fl_RX0_18 dX0_spreadBy_21 rfl k0 ?_
  refine y_geti fl_RX0_73 dX0_spreadBy_24 rfl ((hS.f k0 1 8 rfl).2) ?_
  refine x_icmp_ge 49 dX0_spreadBy_27 (by decide) (fun c => ?_) (fun c => ?_)
  · rw [if_pos c] at h
    refine x_iconst 0 dX0_spreadBy_49 (by decide) ?_
    refine y_istore_n 0 rfl [(2, .int 0), (0, .ref v0), (1, .int v1)] dX0_spreadBy_50 (by show _ < 6; decide) rfl ?_
    refine x_iconst 0 dX0_spreadBy_51 (by decide) ?_
    refine y_istore_n 0 rfl [(3, .int 0), (2, .int 0), (0, .ref v0), (1, .int v1)] dX0_spreadBy_52 (by show _ < 6; decide) rfl ?_
    refine x_lv (lv' := [(0, .ref v0), (2, .int 0), (3, .int 0)]) [2, 1, 0] rfl ?_
    exact t_X0_spreadBy_53 hS F k0 h
  · rw [if_neg c] at h
    refine x_iload_n dX0_spreadBy_30 1 rfl ?_
    refine x_iload_n dX0_spreadBy_31 2 rfl ?_
    refine x_ishr dX0_spreadBy_32 ?_
    refine x_iconst 1 dX0_spreadBy_33 (by decide) ?_
    refine x_iand dX0_spreadBy_34 ?_
    refine x_if_ne 43 dX0_spreadBy_35 (by decide) (fun c => ?_) (fun c => ?_)
    · rw [if_neg c] at h
      exact t_X0_spreadBy_43 hS hrec_19 k0 h
    · rw [if_pos c] at h
      refine x_aload_n dX0_spreadBy_38 0 rfl ?_
      refine x_iload_n dX0_spreadBy_39 2 rfl ?_
      refine xbnd_e h (fun q1 e1 h => ?_)
      refine y_callVv (As := [.int v2]) (q := q1) cv_RX0_166 dX0_spreadBy_40 k0 rfl (Nat.le_of_ble_eq_true rfl) (by omega) (S_X0_leaveOpen hS k0 e1) ?_
      exact t_X0_spreadBy_43 hS hrec_19 k0 h
theorem t_X0_spreadBy_19 {F P : Nat} {S : xSt} (hS : xWF S) : ∀ (n : Nat) {v0 : Nat} {v1 : Int32} {v2 : Int32} {D : xDt} {r : Int32 × xDt}, xK S v0 0 → f_X0_spreadBy_19 F P S n v0 v1 v2 D = some r → yEx md_X0_spreadBy 1 19 [(0, .ref v0), (1, .int v1), (2, .int v2)] [] S D (xQi S r) := by
  intro n
  induction n with
  | zero => intros; rename_i h; cases h
  | succ n ih =>
    intro v0 v1 v2 D r k0 h
    exact t_X0_spreadBy_19s hS (fun k0 h => ih k0 h) k0 h

def f_X0_spreadBy (F P : Nat) (S : xSt) (v0 : Nat) (v1 : Int32) (D : xDt) : Option (Int32 × xDt) :=
  xgrd (xcpin 0 0 (D.1 v0 9) (xl S (xr S v0 7)) (xl S (xr S v0 6))) (xlet (D.1, xcp D.2 (xr S v0 7) (xr S v0 6) (0 : Int32).toNatClampNeg (0 : Int32).toNatClampNeg (D.1 v0 9).toNatClampNeg) fun D2 => f_X0_spreadBy_19 F P S F v0 v1 0 D2)
set_option maxHeartbeats 4000000 in
theorem S_X0_spreadBy {F P : Nat} {S : xSt} (hS : xWF S) {v0 : Nat} {v1 : Int32} {D : xDt} {r : Int32 × xDt} (k0 : xK S v0 0) (h : f_X0_spreadBy F P S v0 v1 D = some r) : xSp md_X0_spreadBy (1, 0, 0) [.ref v0, .int v1] (S, D) (xQi S r) := by
  unfold f_X0_spreadBy at h
  refine xEntry (by decide) (Nat.le_of_ble_eq_true rfl) ?_
  refine x_lv (lv' := [(0, .ref v0), (1, .int v1)]) [0, 1] rfl ?_
  refine x_aload_n dX0_spreadBy_0 0 rfl ?_
  refine y_getr (kd := 101) hS fl_RX0_38 dX0_spreadBy_1 rfl k0 ?_
  refine x_iconst 0 dX0_spreadBy_4 (by decide) ?_
  refine x_aload_n dX0_spreadBy_5 0 rfl ?_
  refine y_getr (kd := 101) hS fl_RX0_35 dX0_spreadBy_6 rfl k0 ?_
  refine x_iconst 0 dX0_spreadBy_9 (by decide) ?_
  refine x_aload_n dX0_spreadBy_10 0 rfl ?_
  refine y_geti fl_RX0_84 dX0_spreadBy_11 rfl k0 ?_
  refine xgrd_e h (fun g1 h => ?_)
  refine xlet_e h (fun D2 eD2 h => ?_)
  refine y_copyl cp_RX0_160 dX0_spreadBy_14 ((hS.f k0 7 101 rfl).2) ((hS.f k0 6 101 rfl).2) g1 (Nat.le_of_ble_eq_true rfl) (by omega) eD2 ?_
  refine x_iconst 0 dX0_spreadBy_17 (by decide) ?_
  refine y_istore_n 0 rfl [(2, .int 0), (0, .ref v0), (1, .int v1)] dX0_spreadBy_18 (by show _ < 6; decide) rfl ?_
  refine x_lv (lv' := [(0, .ref v0), (1, .int v1), (2, .int 0)]) [1, 2, 0] rfl ?_
  exact t_X0_spreadBy_19 hS F k0 h

theorem dX0_spread_0 : decode cX0_spread 0 = .ok (.iconst 1, 1) := by decide +kernel
theorem dX0_spread_1 : decode cX0_spread 1 = .ok (.istore_n 2, 1) := by decide +kernel
theorem dX0_spread_2 : decode cX0_spread 2 = .ok (.iconst 0, 1) := by decide +kernel
theorem dX0_spread_3 : decode cX0_spread 3 = .ok (.istore_n 3, 1) := by decide +kernel
theorem dX0_spread_4 : decode cX0_spread 4 = .ok (.iload_n 3, 1) := by decide +kernel
theorem dX0_spread_5 : decode cX0_spread 5 = .ok (.sipush 8192, 3) := by decide +kernel
theorem dX0_spread_8 : decode cX0_spread 8 = .ok (.if_icmp .gt 80, 3) := by decide +kernel
theorem dX0_spread_11 : decode cX0_spread 11 = .ok (.iload_n 2, 1) := by decide +kernel
theorem dX0_spread_12 : decode cX0_spread 12 = .ok (.ifCond .eq 76, 3) := by decide +kernel
theorem dX0_spread_15 : decode cX0_spread 15 = .ok (.iconst 0, 1) := by decide +kernel
theorem dX0_spread_16 : decode cX0_spread 16 = .ok (.istore_n 2, 1) := by decide +kernel
theorem dX0_spread_17 : decode cX0_spread 17 = .ok (.iconst 0, 1) := by decide +kernel
theorem dX0_spread_18 : decode cX0_spread 18 = .ok (.istore 4, 2) := by decide +kernel
theorem dX0_spread_20 : decode cX0_spread 20 = .ok (.iload 4, 2) := by decide +kernel
theorem dX0_spread_22 : decode cX0_spread 22 = .ok (.iconst 4, 1) := by decide +kernel
theorem dX0_spread_23 : decode cX0_spread 23 = .ok (.if_icmp .ge 36, 3) := by decide +kernel
theorem dX0_spread_26 : decode cX0_spread 26 = .ok (.aload_n 0, 1) := by decide +kernel
theorem dX0_spread_27 : decode cX0_spread 27 = .ok (.iload_n 1, 1) := by decide +kernel
theorem dX0_spread_28 : decode cX0_spread 28 = .ok (.invokevirtual 104, 3) := by decide +kernel
theorem dX0_spread_31 : decode cX0_spread 31 = .ok (.iload 4, 2) := by decide +kernel
theorem dX0_spread_33 : decode cX0_spread 33 = .ok (.invokestatic 154, 3) := by decide +kernel
theorem dX0_spread_36 : decode cX0_spread 36 = .ok (.ifCond .eq 17, 3) := by decide +kernel
theorem dX0_spread_39 : decode cX0_spread 39 = .ok (.iload_n 2, 1) := by decide +kernel
theorem dX0_spread_40 : decode cX0_spread 40 = .ok (.aload_n 0, 1) := by decide +kernel
theorem dX0_spread_41 : decode cX0_spread 41 = .ok (.aload_n 0, 1) := by decide +kernel
theorem dX0_spread_42 : decode cX0_spread 42 = .ok (.getfield 41, 3) := by decide +kernel
theorem dX0_spread_45 : decode cX0_spread 45 = .ok (.iload 4, 2) := by decide +kernel
theorem dX0_spread_47 : decode cX0_spread 47 = .ok (.iaload, 1) := by decide +kernel
theorem dX0_spread_48 : decode cX0_spread 48 = .ok (.invokevirtual 157, 3) := by decide +kernel
theorem dX0_spread_51 : decode cX0_spread 51 = .ok (.ior, 1) := by decide +kernel
theorem dX0_spread_52 : decode cX0_spread 52 = .ok (.istore_n 2, 1) := by decide +kernel
theorem dX0_spread_53 : decode cX0_spread 53 = .ok (.iinc 4 1, 3) := by decide +kernel
theorem dX0_spread_56 : decode cX0_spread 56 = .ok (.goto (-36), 3) := by decide +kernel
theorem dX0_spread_59 : decode cX0_spread 59 = .ok (.iload_n 2, 1) := by decide +kernel
theorem dX0_spread_60 : decode cX0_spread 60 = .ok (.ifCond .eq 20, 3) := by decide +kernel
theorem dX0_spread_63 : decode cX0_spread 63 = .ok (.aload_n 0, 1) := by decide +kernel
theorem dX0_spread_64 : decode cX0_spread 64 = .ok (.iload_n 1, 1) := by decide +kernel
theorem dX0_spread_65 : decode cX0_spread 65 = .ok (.invokevirtual 104, 3) := by decide +kernel
theorem dX0_spread_68 : decode cX0_spread 68 = .ok (.invokestatic 134, 3) := by decide +kernel
theorem dX0_spread_71 : decode cX0_spread 71 = .ok (.bipush 67, 2) := by decide +kernel
theorem dX0_spread_73 : decode cX0_spread 73 = .ok (.if_icmp .ne 7, 3) := by decide +kernel
theorem dX0_spread_76 : decode cX0_spread 76 = .ok (.iconst 1, 1) := by decide +kernel
theorem dX0_spread_77 : decode cX0_spread 77 = .ok (.goto 4, 3) := by decide +kernel
theorem dX0_spread_80 : decode cX0_spread 80 = .ok (.iconst 0, 1) := by decide +kernel
theorem dX0_spread_81 : decode cX0_spread 81 = .ok (.istore_n 2, 1) := by decide +kernel
theorem dX0_spread_82 : decode cX0_spread 82 = .ok (.iinc 3 1, 3) := by decide +kernel
theorem dX0_spread_85 : decode cX0_spread 85 = .ok (.goto (-81), 3) := by decide +kernel
theorem dX0_spread_88 : decode cX0_spread 88 = .ok (.return_, 1) := by decide +kernel
def f_X0_spread_53 (F P : Nat) (S : xSt) (rec_4 : Nat → Int32 → Int32 → Int32 → xDt → Option (xDt)) (rec_20 : Nat → Int32 → Int32 → Int32 → Int32 → xDt → Option (xDt)) (v0 : Nat) (v1 : Int32) (v2 : Int32) (v3 : Int32) (v4 : Int32) (D : xDt) : Option (xDt) :=
  xlet (v4 + 1) fun v4_1 => rec_20 v0 v1 v2 v3 v4_1 D
set_option maxHeartbeats 4000000 in
theorem t_X0_spread_53 {F P : Nat} {S : xSt} (hS : xWF S) {rec_4 : Nat → Int32 → Int32 → Int32 → xDt → Option (xDt)} (hrec_4 : ∀ {v0 : Nat} {v1 : Int32} {v2 : Int32} {v3 : Int32} {D : xDt} {r : xDt}, xK S v0 0 → rec_4 v0 v1 v2 v3 D = some r → yEx md_X0_spread 2 4 [(0, .ref v0), (1, .int v1), (2, .int v2), (3, .int v3)] [] S D (xQv S r)) {rec_20 : Nat → Int32 → Int32 → Int32 → Int32 → xDt → Option (xDt)} (hrec_20 : ∀ {v0 : Nat} {v1 : Int32} {v2 : Int32} {v3 : Int32} {v4 : Int32} {D : xDt} {r : xDt}, xK S v0 0 → rec_20 v0 v1 v2 v3 v4 D = some r → yEx md_X0_spread 2 20 [(0, .ref v0), (1, .int v1), (2, .int v2), (3, .int v3), (4, .int v4)] [] S D (xQv S r)) {v0 : Nat} {v1 : Int32} {v2 : Int32} {v3 : Int32} {v4 : Int32} {D : xDt} {r : xDt} (k0 : xK S v0 0) (h : f_X0_spread_53 F P S rec_4 rec_20 v0 v1 v2 v3 v4 D = some r) : yEx md_X0_spread 2 53 [(0, .ref v0), (1, .int v1), (2, .int v2), (3, .int v3), (4, .int v4)] [] S D (xQv S r) := by
  unfold f_X0_spread_53 at h
  refine xlet_e h (fun v4_1 ev4_1 h => ?_)
  refine y_iinc v4_1 ev4_1 (by decide) [(4, .int v4_1), (0, .ref v0), (1, .int v1), (2, .int v2), (3, .int v3)] dX0_spread_53 4 rfl (by show _ < 5; decide) rfl ?_
  refine x_goto 20 dX0_spread_56 (by decide) ?_
  refine x_lv (lv' := [(0, .ref v0), (1, .int v1), (2, .int v2), (3, .int v3), (4, .int v4_1)]) [1, 2, 3, 4, 0] rfl ?_
  exact hrec_20 k0 h

def f_X0_spread_81 (F P : Nat) (S : xSt) (rec_4 : Nat → Int32 → Int32 → Int32 → xDt → Option (xDt)) (v0 : Nat) (v1 : Int32) (v3 : Int32) (s0 : Int32) (D : xDt) : Option (xDt) :=
  xlet (v3 + 1) fun v3_1 => rec_4 v0 v1 s0 v3_1 D
set_option maxHeartbeats 4000000 in
theorem t_X0_spread_81 {F P : Nat} {S : xSt} (hS : xWF S) {rec_4 : Nat → Int32 → Int32 → Int32 → xDt → Option (xDt)} (hrec_4 : ∀ {v0 : Nat} {v1 : Int32} {v2 : Int32} {v3 : Int32} {D : xDt} {r : xDt}, xK S v0 0 → rec_4 v0 v1 v2 v3 D = some r → yEx md_X0_spread 2 4 [(0, .ref v0), (1, .int v1), (2, .int v2), (3, .int v3)] [] S D (xQv S r)) {v0 : Nat} {v1 : Int32} {v3 : Int32} {s0 : Int32} {D : xDt} {r : xDt} (k0 : xK S v0 0) (h : f_X0_spread_81 F P S rec_4 v0 v1 v3 s0 D = some r) : yEx md_X0_spread 2 81 [(0, .ref v0), (1, .int v1), (3, .int v3)] [.int s0] S D (xQv S r) := by
  unfold f_X0_spread_81 at h
  refine y_istore_n s0 rfl [(2, .int s0), (0, .ref v0), (1, .int v1), (3, .int v3)] dX0_spread_81 (by show _ < 5; decide) rfl ?_
  refine xlet_e h (fun v3_1 ev3_1 h => ?_)
  refine y_iinc v3_1 ev3_1 (by decide) [(3, .int v3_1), (2, .int s0), (0, .ref v0), (1, .int v1)] dX0_spread_82 3 rfl (by show _ < 5; decide) rfl ?_
  refine x_goto 4 dX0_spread_85 (by decide) ?_
  refine x_lv (lv' := [(0, .ref v0), (1, .int v1), (2, .int s0), (3, .int v3_1)]) [2, 3, 1, 0] rfl ?_
  exact hrec_4 k0 h

def f_X0_spread_80 (F P : Nat) (S : xSt) (rec_4 : Nat → Int32 → Int32 → Int32 → xDt → Option (xDt)) (v0 : Nat) (v1 : Int32) (v3 : Int32) (D : xDt) : Option (xDt) :=
  f_X0_spread_81 F P S rec_4 v0 v1 v3 0 D
set_option maxHeartbeats 4000000 in
theorem t_X0_spread_80 {F P : Nat} {S : xSt} (hS : xWF S) {rec_4 : Nat → Int32 → Int32 → Int32 → xDt → Option (xDt)} (hrec_4 : ∀ {v0 : Nat} {v1 : Int32} {v2 : Int32} {v3 : Int32} {D : xDt} {r : xDt}, xK S v0 0 → rec_4 v0 v1 v2 v3 D = some r → yEx md_X0_spread 2 4 [(0, .ref v0), (1, .int v1), (2, .int v2), (3, .int v3)] [] S D (xQv S r)) {v0 : Nat} {v1 : Int32} {v3 : Int32} {D : xDt} {r : xDt} (k0 : xK S v0 0) (h : f_X0_spread_80 F P S rec_4 v0 v1 v3 D = some r) : yEx md_X0_spread 2 80 [(0, .ref v0), (1, .int v1), (3, .int v3)] [] S D (xQv S r) := by
  unfold f_X0_spread_80 at h
  refine x_iconst 0 dX0_spread_80 (by decide) ?_
  exact t_X0_spread_81 hS hrec_4 k0 h

def f_X0_spread_20s (F P : Nat) (S : xSt) (rec_4 : Nat → Int32 → Int32 → Int32 → xDt → Option (xDt)) (rec_20 : Nat → Int32 → Int32 → Int32 → Int32 → xDt → Option (xDt)) (v0 : Nat) (v1 : Int32) (v2 : Int32) (v3 : Int32) (v4 : Int32) (D : xDt) : Option (xDt) :=
  if 4 ≤ v4 then (if v2 = 0 then (f_X0_spread_80 F P S rec_4 v0 v1 v3 D) else ((f_X0_tokenAt F P S v0 v1 D).bind fun q1 => (f_X11_signOf F P S q1.1 q1.2).bind fun q2 => if q2.1 = 67 then (f_X0_spread_81 F P S rec_4 v0 v1 v3 1 q2.2) else (f_X0_spread_80 F P S rec_4 v0 v1 v3 q2.2))) else ((f_X0_tokenAt F P S v0 v1 D).bind fun q3 => (f_X11_hasAgent F P S q3.1 v4 q3.2).bind fun q4 => if q4.1 = 0 then (f_X0_spread_53 F P S rec_4 rec_20 v0 v1 v2 v3 v4 q4.2) else (xgrd (xin v4 (xl S (xr S v0 8))) ((f_X0_spreadBy F P S v0 (q4.2.1 (xr S v0 8) (v4).toNatClampNeg) q4.2).bind fun q6 => xlet (v2 ||| q6.1) fun v2_7 => f_X0_spread_53 F P S rec_4 rec_20 v0 v1 v2_7 v3 v4 q6.2)))
def f_X0_spread_20 (F P : Nat) (S : xSt) (rec_4 : Nat → Int32 → Int32 → Int32 → xDt → Option (xDt)) : Nat → Nat → Int32 → Int32 → Int32 → Int32 → xDt → Option (xDt)
  | 0 => fun _ _ _ _ _ _ => none
  | n + 1 => f_X0_spread_20s F P S rec_4 (f_X0_spread_20 F P S rec_4 n)
set_option maxHeartbeats 4000000 in
theorem t_X0_spread_20s {F P : Nat} {S : xSt} (hS : xWF S) {rec_4 : Nat → Int32 → Int32 → Int32 → xDt → Option (xDt)} (hrec_4 : ∀ {v0 : Nat} {v1 : Int32} {v2 : Int32} {v3 : Int32} {D : xDt} {r : xDt}, xK S v0 0 → rec_4 v0 v1 v2 v3 D = some r → yEx md_X0_spread 2 4 [(0, .ref v0), (1, .int v1), (2, .int v2), (3, .int v3)] [] S D (xQv S r)) {rec_20 : Nat → Int32 → Int32 → Int32 → Int32 → xDt → Option (xDt)} (hrec_20 : ∀ {v0 : Nat} {v1 : Int32} {v2 : Int32} {v3 : Int32} {v4 : Int32} {D : xDt} {r : xDt}, xK S v0 0 → rec_20 v0 v1 v2 v3 v4 D = some r → yEx md_X0_spread 2 20 [(0, .ref v0), (1, .int v1), (2, .int v2), (3, .int v3), (4, .int v4)] [] S D (xQv S r)) {v0 : Nat} {v1 : Int32} {v2 : Int32} {v3 : Int32} {v4 : Int32} {D : xDt} {r : xDt} (k0 : xK S v0 0) (h : f_X0_spread_20s F P S rec_4 rec_20 v0 v1 v2 v3 v4 D = some r) : yEx md_X0_spread 2 20 [(0, .ref v0), (1, .int v1), (2, .int v2), (3, .int v3), (4, .int v4)] [] S D (xQv S r) := by
  unfold f_X0_spread_20s at h
  refine x_iload dX0_spread_20 4 rfl ?_
  refine x_iconst 4 dX0_spread_22 (by decide) ?_
  refine x_icmp_ge 59 dX0_spread_23 (by decide) (fun c => ?_) (fun c => ?_)
  · rw [if_pos c] at h
    refine x_iload_n dX0_spread_59 2 rfl ?_
    refine x_if_eq 80 dX0_spread_60 (by decide) (fun c => ?_) (fun c => ?_)
    · rw [if_pos c] at h
      refine x_lv (lv' := [(0, .ref v0), (1, .int v1), (3, .int v3)]) [0, 1, 3] rfl ?_
      exact t_X0_spread_80 hS hrec_4 k0 h
    · rw [if_neg c] at h
      refine x_aload_n dX0_spread_63 0 rfl ?_
      refine x_iload_n dX0_spread_64 1 rfl ?_
      refine xbnd_e h (fun q1 e1 h => ?_)
      refine y_callVi (As := [.int v1]) (q := q1) cv_RX0_104 dX0_spread_65 k0 rfl (Nat.le_of_ble_eq_true rfl) (by omega) (S_X0_tokenAt hS k0 e1) ?_
      refine xbnd_e h (fun q2 e2 h => ?_)
      refine y_callNi (As := [.int q1.1]) (q := q2) cn_RX0_134 dX0_spread_68 rfl (Nat.le_of_ble_eq_true rfl) (by omega) (S_X11_signOf hS e2) ?_
      refine x_bipush 67 dX0_spread_71 (by decide) ?_
      refine x_icmp_ne 80 dX0_spread_73 (by decide) (fun c => ?_) (fun c => ?_)
      · rw [if_neg c] at h
        refine x_lv (lv' := [(0, .ref v0), (1, .int v1), (3, .int v3)]) [0, 1, 3] rfl ?_
        exact t_X0_spread_80 hS hrec_4 k0 h
      · rw [if_pos c] at h
        refine x_iconst 1 dX0_spread_76 (by decide) ?_
        refine x_goto 81 dX0_spread_77 (by decide) ?_
        refine x_lv (lv' := [(0, .ref v0), (1, .int v1), (3, .int v3)]) [0, 1, 3] rfl ?_
        exact t_X0_spread_81 hS hrec_4 k0 h
  · rw [if_neg c] at h
    refine x_aload_n dX0_spread_26 0 rfl ?_
    refine x_iload_n dX0_spread_27 1 rfl ?_
    refine xbnd_e h (fun q3 e3 h => ?_)
    refine y_callVi (As := [.int v1]) (q := q3) cv_RX0_104 dX0_spread_28 k0 rfl (Nat.le_of_ble_eq_true rfl) (by omega) (S_X0_tokenAt hS k0 e3) ?_
    refine x_iload dX0_spread_31 4 rfl ?_
    refine xbnd_e h (fun q4 e4 h => ?_)
    refine y_callNi (As := [.int q3.1, .int v4]) (q := q4) cn_RX0_154 dX0_spread_33 rfl (Nat.le_of_ble_eq_true rfl) (by omega) (S_X11_hasAgent hS e4) ?_
    refine x_if_eq 53 dX0_spread_36 (by decide) (fun c => ?_) (fun c => ?_)
    · rw [if_pos c] at h
      exact t_X0_spread_53 hS hrec_4 hrec_20 k0 h
    · rw [if_neg c] at h
      refine x_iload_n dX0_spread_39 2 rfl ?_
      refine x_aload_n dX0_spread_40 0 rfl ?_
      refine x_aload_n dX0_spread_41 0 rfl ?_
      refine y_getr (kd := 100) hS fl_RX0_41 dX0_spread_42 rfl k0 ?_
      refine x_iload dX0_spread_45 4 rfl ?_
      refine xgrd_e h (fun g5 h => ?_)
      refine y_iald dX0_spread_47 ((hS.f k0 8 100 rfl).2) g5 ?_
      refine xbnd_e h (fun q6 e6 h => ?_)
      refine y_callVi (As := [.int (q4.2.1 (xr S v0 8) (v4).toNatClampNeg)]) (q := q6) cv_RX0_157 dX0_spread_48 k0 rfl (Nat.le_of_ble_eq_true rfl) (by omega) (S_X0_spreadBy hS k0 e6) ?_
      refine x_ior dX0_spread_51 ?_
      refine xlet_e h (fun v2_7 ev2_7 h => ?_)
      refine y_istore_n v2_7 ev2_7 [(2, .int v2_7), (0, .ref v0), (1, .int v1), (3, .int v3), (4, .int v4)] dX0_spread_52 (by show _ < 5; decide) rfl ?_
      refine x_lv (lv' := [(0, .ref v0), (1, .int v1), (2, .int v2_7), (3, .int v3), (4, .int v4)]) [1, 2, 0, 3, 4] rfl ?_
      exact t_X0_spread_53 hS hrec_4 hrec_20 k0 h
theorem t_X0_spread_20 {F P : Nat} {S : xSt} (hS : xWF S) {rec_4 : Nat → Int32 → Int32 → Int32 → xDt → Option (xDt)} (hrec_4 : ∀ {v0 : Nat} {v1 : Int32} {v2 : Int32} {v3 : Int32} {D : xDt} {r : xDt}, xK S v0 0 → rec_4 v0 v1 v2 v3 D = some r → yEx md_X0_spread 2 4 [(0, .ref v0), (1, .int v1), (2, .int v2), (3, .int v3)] [] S D (xQv S r)) : ∀ (n : Nat) {v0 : Nat} {v1 : Int32} {v2 : Int32} {v3 : Int32} {v4 : Int32} {D : xDt} {r : xDt}, xK S v0 0 → f_X0_spread_20 F P S rec_4 n v0 v1 v2 v3 v4 D = some r → yEx md_X0_spread 2 20 [(0, .ref v0), (1, .int v1), (2, .int v2), (3, .int v3), (4, .int v4)] [] S D (xQv S r) := by
  intro n
  induction n with
  | zero => intros; rename_i h; cases h
  | succ n ih =>
    intro v0 v1 v2 v3 v4 D r k0 h
    exact t_X0_spread_20s hS hrec_4 (fun k0 h => ih k0 h) k0 h

def f_X0_spread_4s (F P : Nat) (S : xSt) (rec_4 : Nat → Int32 → Int32 → Int32 → xDt → Option (xDt)) (v0 : Nat) (v1 : Int32) (v2 : Int32) (v3 : Int32) (D : xDt) : Option (xDt) :=
  if 8192 < v3 then (some D) else (if v2 = 0 then (some D) else (f_X0_spread_20 F P S rec_4 F v0 v1 0 v3 0 D))
def f_X0_spread_4 (F P : Nat) (S : xSt) : Nat → Nat → Int32 → Int32 → Int32 → xDt → Option (xDt)
  | 0 => fun _ _ _ _ _ => none
  | n + 1 => f_X0_spread_4s F P S (f_X0_spread_4 F P S n)
set_option maxHeartbeats 4000000 in
theorem t_X0_spread_4s {F P : Nat} {S : xSt} (hS : xWF S) {rec_4 : Nat → Int32 → Int32 → Int32 → xDt → Option (xDt)} (hrec_4 : ∀ {v0 : Nat} {v1 : Int32} {v2 : Int32} {v3 : Int32} {D : xDt} {r : xDt}, xK S v0 0 → rec_4 v0 v1 v2 v3 D = some r → yEx md_X0_spread 2 4 [(0, .ref v0), (1, .int v1), (2, .int v2), (3, .int v3)] [] S D (xQv S r)) {v0 : Nat} {v1 : Int32} {v2 : Int32} {v3 : Int32} {D : xDt} {r : xDt} (k0 : xK S v0 0) (h : f_X0_spread_4s F P S rec_4 v0 v1 v2 v3 D = some r) : yEx md_X0_spread 2 4 [(0, .ref v0), (1, .int v1), (2, .int v2), (3, .int v3)] [] S D (xQv S r) := by
  unfold f_X0_spread_4s at h
  refine x_iload_n dX0_spread_4 3 rfl ?_
  refine x_sipush 8192 dX0_spread_5 (by decide) ?_
  refine x_icmp_gt 88 dX0_spread_8 (by decide) (fun c => ?_) (fun c => ?_)
  · rw [if_pos c] at h
    obtain rfl := Option.some.inj h
    exact y_vret rfl dX0_spread_88
  · rw [if_neg c] at h
    refine x_iload_n dX0_spread_11 2 rfl ?_
    refine x_if_eq 88 dX0_spread_12 (by decide) (fun c => ?_) (fun c => ?_)
    · rw [if_pos c] at h
      obtain rfl := Option.some.inj h
      exact y_vret rfl dX0_spread_88
    · rw [if_neg c] at h
      refine x_iconst 0 dX0_spread_15 (by decide) ?_
      refine y_istore_n 0 rfl [(2, .int 0), (0, .ref v0), (1, .int v1), (3, .int v3)] dX0_spread_16 (by show _ < 5; decide) rfl ?_
      refine x_iconst 0 dX0_spread_17 (by decide) ?_
      refine y_istore 0 rfl [(4, .int 0), (2, .int 0), (0, .ref v0), (1, .int v1), (3, .int v3)] dX0_spread_18 (by show _ < 5; decide) rfl ?_
      refine x_lv (lv' := [(0, .ref v0), (1, .int v1), (2, .int 0), (3, .int v3), (4, .int 0)]) [2, 3, 1, 4, 0] rfl ?_
      exact t_X0_spread_20 hS hrec_4 F k0 h
theorem t_X0_spread_4 {F P : Nat} {S : xSt} (hS : xWF S) : ∀ (n : Nat) {v0 : Nat} {v1 : Int32} {v2 : Int32} {v3 : Int32} {D : xDt} {r : xDt}, xK S v0 0 → f_X0_spread_4 F P S n v0 v1 v2 v3 D = some r → yEx md_X0_spread 2 4 [(0, .ref v0), (1, .int v1), (2, .int v2), (3, .int v3)] [] S D (xQv S r) := by
  intro n
  induction n with
  | zero => intros; rename_i h; cases h
  | succ n ih =>
    intro v0 v1 v2 v3 D r k0 h
    exact t_X0_spread_4s hS (fun k0 h => ih k0 h) k0 h

def f_X0_spread (F P : Nat) (S : xSt) (v0 : Nat) (v1 : Int32) (D : xDt) : Option (xDt) :=
  f_X0_spread_4 F P S F v0 v1 1 0 D
set_option maxHeartbeats 4000000 in
theorem S_X0_spread {F P : Nat} {S : xSt} (hS : xWF S) {v0 : Nat} {v1 : Int32} {D : xDt} {r : xDt} (k0 : xK S v0 0) (h : f_X0_spread F P S v0 v1 D = some r) : xSp md_X0_spread (2, 0, 0) [.ref v0, .int v1] (S, D) (xQv S r) := by
  unfold f_X0_spread at h
  refine xEntry (by decide) (Nat.le_of_ble_eq_true rfl) ?_
  refine x_lv (lv' := [(0, .ref v0), (1, .int v1)]) [0, 1] rfl ?_
  refine x_iconst 1 dX0_spread_0 (by decide) ?_
  refine y_istore_n 1 rfl [(2, .int 1), (0, .ref v0), (1, .int v1)] dX0_spread_1 (by show _ < 5; decide) rfl ?_
  refine x_iconst 0 dX0_spread_2 (by decide) ?_
  refine y_istore_n 0 rfl [(3, .int 0), (2, .int 1), (0, .ref v0), (1, .int v1)] dX0_spread_3 (by show _ < 5; decide) rfl ?_
  refine x_lv (lv' := [(0, .ref v0), (1, .int v1), (2, .int 1), (3, .int 0)]) [2, 3, 1, 0] rfl ?_
  exact t_X0_spread_4 hS F k0 h

theorem dX0_drop_0 : decode cX0_drop 0 = .ok (.iconst 0, 1) := by decide +kernel
theorem dX0_drop_1 : decode cX0_drop 1 = .ok (.istore_n 2, 1) := by decide +kernel
theorem dX0_drop_2 : decode cX0_drop 2 = .ok (.iconst 0, 1) := by decide +kernel
theorem dX0_drop_3 : decode cX0_drop 3 = .ok (.istore_n 3, 1) := by decide +kernel
theorem dX0_drop_4 : decode cX0_drop 4 = .ok (.iload_n 3, 1) := by decide +kernel
theorem dX0_drop_5 : decode cX0_drop 5 = .ok (.aload_n 0, 1) := by decide +kernel
theorem dX0_drop_6 : decode cX0_drop 6 = .ok (.getfield 84, 3) := by decide +kernel
theorem dX0_drop_9 : decode cX0_drop 9 = .ok (.if_icmp .ge 61, 3) := by decide +kernel
theorem dX0_drop_12 : decode cX0_drop 12 = .ok (.aload_n 0, 1) := by decide +kernel
theorem dX0_drop_13 : decode cX0_drop 13 = .ok (.getfield 32, 3) := by decide +kernel
theorem dX0_drop_16 : decode cX0_drop 16 = .ok (.iload_n 3, 1) := by decide +kernel
theorem dX0_drop_17 : decode cX0_drop 17 = .ok (.laload, 1) := by decide +kernel
theorem dX0_drop_18 : decode cX0_drop 18 = .ok (.aload_n 0, 1) := by decide +kernel
theorem dX0_drop_19 : decode cX0_drop 19 = .ok (.iload_n 1, 1) := by decide +kernel
theorem dX0_drop_20 : decode cX0_drop 20 = .ok (.iload_n 3, 1) := by decide +kernel
theorem dX0_drop_21 : decode cX0_drop 21 = .ok (.invokevirtual 122, 3) := by decide +kernel
theorem dX0_drop_24 : decode cX0_drop 24 = .ok (.aload_n 0, 1) := by decide +kernel
theorem dX0_drop_25 : decode cX0_drop 25 = .ok (.getfield 38, 3) := by decide +kernel
theorem dX0_drop_28 : decode cX0_drop 28 = .ok (.iload_n 3, 1) := by decide +kernel
theorem dX0_drop_29 : decode cX0_drop 29 = .ok (.laload, 1) := by decide +kernel
theorem dX0_drop_30 : decode cX0_drop 30 = .ok (.lor, 1) := by decide +kernel
theorem dX0_drop_31 : decode cX0_drop 31 = .ok (.land, 1) := by decide +kernel
theorem dX0_drop_32 : decode cX0_drop 32 = .ok (.lstore 4, 2) := by decide +kernel
theorem dX0_drop_34 : decode cX0_drop 34 = .ok (.iload_n 2, 1) := by decide +kernel
theorem dX0_drop_35 : decode cX0_drop 35 = .ok (.ifCond .ne 15, 3) := by decide +kernel
theorem dX0_drop_38 : decode cX0_drop 38 = .ok (.lload 4, 2) := by decide +kernel
theorem dX0_drop_40 : decode cX0_drop 40 = .ok (.aload_n 0, 1) := by decide +kernel
theorem dX0_drop_41 : decode cX0_drop 41 = .ok (.getfield 32, 3) := by decide +kernel
theorem dX0_drop_44 : decode cX0_drop 44 = .ok (.iload_n 3, 1) := by decide +kernel
theorem dX0_drop_45 : decode cX0_drop 45 = .ok (.laload, 1) := by decide +kernel
theorem dX0_drop_46 : decode cX0_drop 46 = .ok (.lcmp, 1) := by decide +kernel
theorem dX0_drop_47 : decode cX0_drop 47 = .ok (.ifCond .eq 7, 3) := by decide +kernel
theorem dX0_drop_50 : decode cX0_drop 50 = .ok (.iconst 1, 1) := by decide +kernel
theorem dX0_drop_51 : decode cX0_drop 51 = .ok (.goto 4, 3) := by decide +kernel
theorem dX0_drop_54 : decode cX0_drop 54 = .ok (.iconst 0, 1) := by decide +kernel
theorem dX0_drop_55 : decode cX0_drop 55 = .ok (.istore_n 2, 1) := by decide +kernel
theorem dX0_drop_56 : decode cX0_drop 56 = .ok (.aload_n 0, 1) := by decide +kernel
theorem dX0_drop_57 : decode cX0_drop 57 = .ok (.getfield 32, 3) := by decide +kernel
theorem dX0_drop_60 : decode cX0_drop 60 = .ok (.iload_n 3, 1) := by decide +kernel
theorem dX0_drop_61 : decode cX0_drop 61 = .ok (.lload 4, 2) := by decide +kernel
theorem dX0_drop_63 : decode cX0_drop 63 = .ok (.lastore, 1) := by decide +kernel
theorem dX0_drop_64 : decode cX0_drop 64 = .ok (.iinc 3 1, 3) := by decide +kernel
theorem dX0_drop_67 : decode cX0_drop 67 = .ok (.goto (-63), 3) := by decide +kernel
theorem dX0_drop_70 : decode cX0_drop 70 = .ok (.iload_n 2, 1) := by decide +kernel
theorem dX0_drop_71 : decode cX0_drop 71 = .ok (.ireturn, 1) := by decide +kernel
def f_X0_drop_55 (F P : Nat) (S : xSt) (rec_4 : Nat → Int32 → Int32 → Int32 → xDt → Option (Int32 × xDt)) (v0 : Nat) (v1 : Int32) (v3 : Int32) (v4 : Int64) (s0 : Int32) (D : xDt) : Option (Int32 × xDt) :=
  xgrd (xin v3 (xl S (xr S v0 5))) (xlet (D.1, xup D.2 (xr S v0 5) (v3).toNatClampNeg v4) fun D2 => xlet (v3 + 1) fun v3_3 => rec_4 v0 v1 s0 v3_3 D2)
set_option maxHeartbeats 4000000 in
theorem t_X0_drop_55 {F P : Nat} {S : xSt} (hS : xWF S) {rec_4 : Nat → Int32 → Int32 → Int32 → xDt → Option (Int32 × xDt)} (hrec_4 : ∀ {v0 : Nat} {v1 : Int32} {v2 : Int32} {v3 : Int32} {D : xDt} {r : Int32 × xDt}, xK S v0 0 → rec_4 v0 v1 v2 v3 D = some r → yEx md_X0_drop 1 4 [(0, .ref v0), (1, .int v1), (2, .int v2), (3, .int v3)] [] S D (xQi S r)) {v0 : Nat} {v1 : Int32} {v3 : Int32} {v4 : Int64} {s0 : Int32} {D : xDt} {r : Int32 × xDt} (k0 : xK S v0 0) (h : f_X0_drop_55 F P S rec_4 v0 v1 v3 v4 s0 D = some r) : yEx md_X0_drop 1 55 [(0, .ref v0), (1, .int v1), (3, .int v3), (4, .long v4)] [.int s0] S D (xQi S r) := by
  unfold f_X0_drop_55 at h
  refine y_istore_n s0 rfl [(2, .int s0), (0, .ref v0), (1, .int v1), (3, .int v3), (4, .long v4)] dX0_drop_55 (by show _ < 6; decide) rfl ?_
  refine x_aload_n dX0_drop_56 1 rfl ?_
  refine y_getr (kd := 101) hS fl_RX0_32 dX0_drop_57 rfl k0 ?_
  refine x_iload_n dX0_drop_60 3 rfl ?_
  refine x_lload dX0_drop_61 4 rfl ?_
  refine xgrd_e h (fun g1 h => ?_)
  refine xlet_e h (fun D2 eD2 h => ?_)
  refine y_last dX0_drop_63 ((hS.f k0 5 101 rfl).2) g1 eD2 ?_
  refine xlet_e h (fun v3_3 ev3_3 h => ?_)
  refine y_iinc v3_3 ev3_3 (by decide) [(3, .int v3_3), (2, .int s0), (0, .ref v0), (1, .int v1), (4, .long v4)] dX0_drop_64 3 rfl (by show _ < 6; decide) rfl ?_
  refine x_goto 4 dX0_drop_67 (by decide) ?_
  refine x_lv (lv' := [(0, .ref v0), (1, .int v1), (2, .int s0), (3, .int v3_3)]) [2, 3, 1, 0] rfl ?_
  exact hrec_4 k0 h

def f_X0_drop_50 (F P : Nat) (S : xSt) (rec_4 : Nat → Int32 → Int32 → Int32 → xDt → Option (Int32 × xDt)) (v0 : Nat) (v1 : Int32) (v3 : Int32) (v4 : Int64) (D : xDt) : Option (Int32 × xDt) :=
  f_X0_drop_55 F P S rec_4 v0 v1 v3 v4 1 D
set_option maxHeartbeats 4000000 in
theorem t_X0_drop_50 {F P : Nat} {S : xSt} (hS : xWF S) {rec_4 : Nat → Int32 → Int32 → Int32 → xDt → Option (Int32 × xDt)} (hrec_4 : ∀ {v0 : Nat} {v1 : Int32} {v2 : Int32} {v3 : Int32} {D : xDt} {r : Int32 × xDt}, xK S v0 0 → rec_4 v0 v1 v2 v3 D = some r → yEx md_X0_drop 1 4 [(0, .ref v0), (1, .int v1), (2, .int v2), (3, .int v3)] [] S D (xQi S r)) {v0 : Nat} {v1 : Int32} {v3 : Int32} {v4 : Int64} {D : xDt} {r : Int32 × xDt} (k0 : xK S v0 0) (h : f_X0_drop_50 F P S rec_4 v0 v1 v3 v4 D = some r) : yEx md_X0_drop 1 50 [(0, .ref v0), (1, .int v1), (3, .int v3), (4, .long v4)] [] S D (xQi S r) := by
  unfold f_X0_drop_50 at h
  refine x_iconst 1 dX0_drop_50 (by decide) ?_
  refine x_goto 55 dX0_drop_51 (by decide) ?_
  exact t_X0_drop_55 hS hrec_4 k0 h

def f_X0_drop_4s (F P : Nat) (S : xSt) (rec_4 : Nat → Int32 → Int32 → Int32 → xDt → Option (Int32 × xDt)) (v0 : Nat) (v1 : Int32) (v2 : Int32) (v3 : Int32) (D : xDt) : Option (Int32 × xDt) :=
  if (D.1 v0 9) ≤ v3 then (xgrd (xb v2) (some (v2, D))) else (xgrd (xin v3 (xl S (xr S v0 5))) ((f_X0_telling F P S v0 v1 v3 D).bind fun q3 => xgrd (xin v3 (xl S (xr S v0 7))) (xlet ((D.2 (xr S v0 5) (v3).toNatClampNeg) &&& (q3.1 ||| (q3.2.2 (xr S v0 7) (v3).toNatClampNeg))) fun v4_5 => if v2 = 0 then (xgrd (xin v3 (xl S (xr S v0 5))) (if (lg_cmp v4_5 (q3.2.2 (xr S v0 5) (v3).toNatClampNeg)) = 0 then (f_X0_drop_55 F P S rec_4 v0 v1 v3 v4_5 0 q3.2) else (f_X0_drop_50 F P S rec_4 v0 v1 v3 v4_5 q3.2))) else (f_X0_drop_50 F P S rec_4 v0 v1 v3 v4_5 q3.2))))
def f_X0_drop_4 (F P : Nat) (S : xSt) : Nat → Nat → Int32 → Int32 → Int32 → xDt → Option (Int32 × xDt)
  | 0 => fun _ _ _ _ _ => none
  | n + 1 => f_X0_drop_4s F P S (f_X0_drop_4 F P S n)
set_option maxHeartbeats 4000000 in
theorem t_X0_drop_4s {F P : Nat} {S : xSt} (hS : xWF S) {rec_4 : Nat → Int32 → Int32 → Int32 → xDt → Option (Int32 × xDt)} (hrec_4 : ∀ {v0 : Nat} {v1 : Int32} {v2 : Int32} {v3 : Int32} {D : xDt} {r : Int32 × xDt}, xK S v0 0 → rec_4 v0 v1 v2 v3 D = some r → yEx md_X0_drop 1 4 [(0, .ref v0), (1, .int v1), (2, .int v2), (3, .int v3)] [] S D (xQi S r)) {v0 : Nat} {v1 : Int32} {v2 : Int32} {v3 : Int32} {D : xDt} {r : Int32 × xDt} (k0 : xK S v0 0) (h : f_X0_drop_4s F P S rec_4 v0 v1 v2 v3 D = some r) : yEx md_X0_drop 1 4 [(0, .ref v0), (1, .int v1), (2, .int v2), (3, .int v3)] [] S D (xQi S r) := by
  unfold f_X0_drop_4s at h
  refine x_iload_n dX0_drop_4 3 rfl ?_
  refine x_aload_n dX0_drop_5 0 rfl ?_
  refine y_geti fl_RX0_84 dX0_drop_6 rfl k0 ?_
  refine x_icmp_ge 70 dX0_drop_9 (by decide) (fun c => ?_) (fun c => ?_)
  · rw [if_pos c] at h
    refine x_iload_n dX0_drop_70 2 rfl ?_
    refine xgrd_e h (fun g1 h => ?_)
    obtain rfl := Option.some.inj h
    exact y_zret rfl g1 dX0_drop_71
  · rw [if_neg c] at h
    refine x_aload_n dX0_drop_12 0 rfl ?_
    refine y_getr (kd := 101) hS fl_RX0_32 dX0_drop_13 rfl k0 ?_
    refine x_iload_n dX0_drop_16 3 rfl ?_
    refine xgrd_e h (fun g2 h => ?_)
    refine y_lald dX0_drop_17 ((hS.f k0 5 101 rfl).2) g2 ?_
    refine x_aload_n dX0_drop_18 0 rfl ?_
    refine x_iload_n dX0_drop_19 1 rfl ?_
    refine x_iload_n dX0_drop_20 3 rfl ?_
    refine xbnd_e h (fun q3 e3 h => ?_)
    refine y_callVl (As := [.int v1, .int v3]) (q := q3) cv_RX0_122 dX0_drop_21 k0 rfl (Nat.le_of_ble_eq_true rfl) (by omega) (S_X0_telling hS k0 e3) ?_
    refine x_aload_n dX0_drop_24 0 rfl ?_
    refine y_getr (kd := 101) hS fl_RX0_38 dX0_drop_25 rfl k0 ?_
    refine x_iload_n dX0_drop_28 3 rfl ?_
    refine xgrd_e h (fun g4 h => ?_)
    refine y_lald dX0_drop_29 ((hS.f k0 7 101 rfl).2) g4 ?_
    refine x_lor dX0_drop_30 ?_
    refine x_land dX0_drop_31 ?_
    refine xlet_e h (fun v4_5 ev4_5 h => ?_)
    refine y_lstore v4_5 ev4_5 [(4, .long v4_5), (0, .ref v0), (1, .int v1), (2, .int v2), (3, .int v3)] dX0_drop_32 (by show _ < 6; decide) rfl ?_
    refine x_iload_n dX0_drop_34 3 rfl ?_
    refine x_if_ne 50 dX0_drop_35 (by decide) (fun c => ?_) (fun c => ?_)
    · rw [if_neg c] at h
      refine x_lv (lv' := [(0, .ref v0), (1, .int v1), (3, .int v3), (4, .long v4_5)]) [1, 2, 4, 0] rfl ?_
      exact t_X0_drop_50 hS hrec_4 k0 h
    · rw [if_pos c] at h
      refine x_lload dX0_drop_38 0 rfl ?_
      refine x_aload_n dX0_drop_40 1 rfl ?_
      refine y_getr (kd := 101) hS fl_RX0_32 dX0_drop_41 rfl k0 ?_
      refine x_iload_n dX0_drop_44 4 rfl ?_
      refine xgrd_e h (fun g6 h => ?_)
      refine y_lald dX0_drop_45 ((hS.f k0 5 101 rfl).2) g6 ?_
      refine x_lcmp dX0_drop_46 ?_
      refine x_if_eq 54 dX0_drop_47 (by decide) (fun c => ?_) (fun c => ?_)
      · rw [if_pos c] at h
        refine x_iconst 0 dX0_drop_54 (by decide) ?_
        refine x_lv (lv' := [(0, .ref v0), (1, .int v1), (3, .int v3), (4, .long v4_5)]) [1, 2, 4, 0] rfl ?_
        exact t_X0_drop_55 hS hrec_4 k0 h
      · rw [if_neg c] at h
        refine x_lv (lv' := [(0, .ref v0), (1, .int v1), (3, .int v3), (4, .long v4_5)]) [1, 2, 4, 0] rfl ?_
        exact t_X0_drop_50 hS hrec_4 k0 h
theorem t_X0_drop_4 {F P : Nat} {S : xSt} (hS : xWF S) : ∀ (n : Nat) {v0 : Nat} {v1 : Int32} {v2 : Int32} {v3 : Int32} {D : xDt} {r : Int32 × xDt}, xK S v0 0 → f_X0_drop_4 F P S n v0 v1 v2 v3 D = some r → yEx md_X0_drop 1 4 [(0, .ref v0), (1, .int v1), (2, .int v2), (3, .int v3)] [] S D (xQi S r) := by
  intro n
  induction n with
  | zero => intros; rename_i h; cases h
  | succ n ih =>
    intro v0 v1 v2 v3 D r k0 h
    exact t_X0_drop_4s hS (fun k0 h => ih k0 h) k0 h

def f_X0_drop (F P : Nat) (S : xSt) (v0 : Nat) (v1 : Int32) (D : xDt) : Option (Int32 × xDt) :=
  f_X0_drop_4 F P S F v0 v1 0 0 D
set_option maxHeartbeats 4000000 in
theorem S_X0_drop {F P : Nat} {S : xSt} (hS : xWF S) {v0 : Nat} {v1 : Int32} {D : xDt} {r : Int32 × xDt} (k0 : xK S v0 0) (h : f_X0_drop F P S v0 v1 D = some r) : xSp md_X0_drop (1, 0, 0) [.ref v0, .int v1] (S, D) (xQi S r) := by
  unfold f_X0_drop at h
  refine xEntry (by decide) (Nat.le_of_ble_eq_true rfl) ?_
  refine x_lv (lv' := [(0, .ref v0), (1, .int v1)]) [0, 1] rfl ?_
  refine x_iconst 0 dX0_drop_0 (by decide) ?_
  refine y_istore_n 0 rfl [(2, .int 0), (0, .ref v0), (1, .int v1)] dX0_drop_1 (by show _ < 6; decide) rfl ?_
  refine x_iconst 0 dX0_drop_2 (by decide) ?_
  refine y_istore_n 0 rfl [(3, .int 0), (2, .int 0), (0, .ref v0), (1, .int v1)] dX0_drop_3 (by show _ < 6; decide) rfl ?_
  refine x_lv (lv' := [(0, .ref v0), (1, .int v1), (2, .int 0), (3, .int 0)]) [2, 3, 1, 0] rfl ?_
  exact t_X0_drop_4 hS F k0 h

theorem dX0_sift_0 : decode cX0_sift 0 = .ok (.iconst 1, 1) := by decide +kernel
theorem dX0_sift_1 : decode cX0_sift 1 = .ok (.istore_n 1, 1) := by decide +kernel
theorem dX0_sift_2 : decode cX0_sift 2 = .ok (.iconst 0, 1) := by decide +kernel
theorem dX0_sift_3 : decode cX0_sift 3 = .ok (.istore_n 2, 1) := by decide +kernel
theorem dX0_sift_4 : decode cX0_sift 4 = .ok (.iload_n 2, 1) := by decide +kernel
theorem dX0_sift_5 : decode cX0_sift 5 = .ok (.sipush 8192, 3) := by decide +kernel
theorem dX0_sift_8 : decode cX0_sift 8 = .ok (.if_icmp .gt 76, 3) := by decide +kernel
theorem dX0_sift_11 : decode cX0_sift 11 = .ok (.iload_n 1, 1) := by decide +kernel
theorem dX0_sift_12 : decode cX0_sift 12 = .ok (.ifCond .eq 72, 3) := by decide +kernel
theorem dX0_sift_15 : decode cX0_sift 15 = .ok (.iconst 0, 1) := by decide +kernel
theorem dX0_sift_16 : decode cX0_sift 16 = .ok (.istore_n 1, 1) := by decide +kernel
theorem dX0_sift_17 : decode cX0_sift 17 = .ok (.iconst 0, 1) := by decide +kernel
theorem dX0_sift_18 : decode cX0_sift 18 = .ok (.istore_n 3, 1) := by decide +kernel
theorem dX0_sift_19 : decode cX0_sift 19 = .ok (.iload_n 3, 1) := by decide +kernel
theorem dX0_sift_20 : decode cX0_sift 20 = .ok (.aload_n 0, 1) := by decide +kernel
theorem dX0_sift_21 : decode cX0_sift 21 = .ok (.getfield 18, 3) := by decide +kernel
theorem dX0_sift_24 : decode cX0_sift 24 = .ok (.getfield 73, 3) := by decide +kernel
theorem dX0_sift_27 : decode cX0_sift 27 = .ok (.if_icmp .ge 51, 3) := by decide +kernel
theorem dX0_sift_30 : decode cX0_sift 30 = .ok (.aload_n 0, 1) := by decide +kernel
theorem dX0_sift_31 : decode cX0_sift 31 = .ok (.iload_n 3, 1) := by decide +kernel
theorem dX0_sift_32 : decode cX0_sift 32 = .ok (.invokevirtual 104, 3) := by decide +kernel
theorem dX0_sift_35 : decode cX0_sift 35 = .ok (.invokestatic 134, 3) := by decide +kernel
theorem dX0_sift_38 : decode cX0_sift 38 = .ok (.istore 4, 2) := by decide +kernel
theorem dX0_sift_40 : decode cX0_sift 40 = .ok (.iload 4, 2) := by decide +kernel
theorem dX0_sift_42 : decode cX0_sift 42 = .ok (.bipush 75, 2) := by decide +kernel
theorem dX0_sift_44 : decode cX0_sift 44 = .ok (.if_icmp .eq 10, 3) := by decide +kernel
theorem dX0_sift_47 : decode cX0_sift 47 = .ok (.iload 4, 2) := by decide +kernel
theorem dX0_sift_49 : decode cX0_sift 49 = .ok (.bipush 67, 2) := by decide +kernel
theorem dX0_sift_51 : decode cX0_sift 51 = .ok (.if_icmp .ne 21, 3) := by decide +kernel
theorem dX0_sift_54 : decode cX0_sift 54 = .ok (.aload_n 0, 1) := by decide +kernel
theorem dX0_sift_55 : decode cX0_sift 55 = .ok (.iload_n 3, 1) := by decide +kernel
theorem dX0_sift_56 : decode cX0_sift 56 = .ok (.invokevirtual 144, 3) := by decide +kernel
theorem dX0_sift_59 : decode cX0_sift 59 = .ok (.aload_n 0, 1) := by decide +kernel
theorem dX0_sift_60 : decode cX0_sift 60 = .ok (.iload_n 3, 1) := by decide +kernel
theorem dX0_sift_61 : decode cX0_sift 61 = .ok (.invokevirtual 147, 3) := by decide +kernel
theorem dX0_sift_64 : decode cX0_sift 64 = .ok (.iload_n 1, 1) := by decide +kernel
theorem dX0_sift_65 : decode cX0_sift 65 = .ok (.aload_n 0, 1) := by decide +kernel
theorem dX0_sift_66 : decode cX0_sift 66 = .ok (.iload_n 3, 1) := by decide +kernel
theorem dX0_sift_67 : decode cX0_sift 67 = .ok (.invokevirtual 150, 3) := by decide +kernel
theorem dX0_sift_70 : decode cX0_sift 70 = .ok (.ior, 1) := by decide +kernel
theorem dX0_sift_71 : decode cX0_sift 71 = .ok (.istore_n 1, 1) := by decide +kernel
theorem dX0_sift_72 : decode cX0_sift 72 = .ok (.iinc 3 1, 3) := by decide +kernel
theorem dX0_sift_75 : decode cX0_sift 75 = .ok (.goto (-56), 3) := by decide +kernel
theorem dX0_sift_78 : decode cX0_sift 78 = .ok (.iinc 2 1, 3) := by decide +kernel
theorem dX0_sift_81 : decode cX0_sift 81 = .ok (.goto (-77), 3) := by decide +kernel
theorem dX0_sift_84 : decode cX0_sift 84 = .ok (.return_, 1) := by decide +kernel
def f_X0_sift_72 (F P : Nat) (S : xSt) (rec_4 : Nat → Int32 → Int32 → xDt → Option (xDt)) (rec_19 : Nat → Int32 → Int32 → Int32 → xDt → Option (xDt)) (v0 : Nat) (v1 : Int32) (v2 : Int32) (v3 : Int32) (D : xDt) : Option (xDt) :=
  xlet (v3 + 1) fun v3_1 => rec_19 v0 v1 v2 v3_1 D
set_option maxHeartbeats 4000000 in
theorem t_X0_sift_72 {F P : Nat} {S : xSt} (hS : xWF S) {rec_4 : Nat → Int32 → Int32 → xDt → Option (xDt)} (hrec_4 : ∀ {v0 : Nat} {v1 : Int32} {v2 : Int32} {D : xDt} {r : xDt}, xK S v0 0 → rec_4 v0 v1 v2 D = some r → yEx md_X0_sift 3 4 [(0, .ref v0), (1, .int v1), (2, .int v2)] [] S D (xQv S r)) {rec_19 : Nat → Int32 → Int32 → Int32 → xDt → Option (xDt)} (hrec_19 : ∀ {v0 : Nat} {v1 : Int32} {v2 : Int32} {v3 : Int32} {D : xDt} {r : xDt}, xK S v0 0 → rec_19 v0 v1 v2 v3 D = some r → yEx md_X0_sift 3 19 [(0, .ref v0), (1, .int v1), (2, .int v2), (3, .int v3)] [] S D (xQv S r)) {v0 : Nat} {v1 : Int32} {v2 : Int32} {v3 : Int32} {D : xDt} {r : xDt} (k0 : xK S v0 0) (h : f_X0_sift_72 F P S rec_4 rec_19 v0 v1 v2 v3 D = some r) : yEx md_X0_sift 3 72 [(0, .ref v0), (1, .int v1), (2, .int v2), (3, .int v3)] [] S D (xQv S r) := by
  unfold f_X0_sift_72 at h
  refine xlet_e h (fun v3_1 ev3_1 h => ?_)
  refine y_iinc v3_1 ev3_1 (by decide) [(3, .int v3_1), (0, .ref v0), (1, .int v1), (2, .int v2)] dX0_sift_72 3 rfl (by show _ < 5; decide) rfl ?_
  refine x_goto 19 dX0_sift_75 (by decide) ?_
  refine x_lv (lv' := [(0, .ref v0), (1, .int v1), (2, .int v2), (3, .int v3_1)]) [1, 2, 3, 0] rfl ?_
  exact hrec_19 k0 h

def f_X0_sift_54 (F P : Nat) (S : xSt) (rec_4 : Nat → Int32 → Int32 → xDt → Option (xDt)) (rec_19 : Nat → Int32 → Int32 → Int32 → xDt → Option (xDt)) (v0 : Nat) (v1 : Int32) (v2 : Int32) (v3 : Int32) (D : xDt) : Option (xDt) :=
  (f_X0_startDoubt F P S v0 v3 D).bind fun q1 => (f_X0_spread F P S v0 v3 q1).bind fun q2 => (f_X0_drop F P S v0 v3 q2).bind fun q3 => xlet (v1 ||| q3.1) fun v1_4 => f_X0_sift_72 F P S rec_4 rec_19 v0 v1_4 v2 v3 q3.2
set_option maxHeartbeats 4000000 in
theorem t_X0_sift_54 {F P : Nat} {S : xSt} (hS : xWF S) {rec_4 : Nat → Int32 → Int32 → xDt → Option (xDt)} (hrec_4 : ∀ {v0 : Nat} {v1 : Int32} {v2 : Int32} {D : xDt} {r : xDt}, xK S v0 0 → rec_4 v0 v1 v2 D = some r → yEx md_X0_sift 3 4 [(0, .ref v0), (1, .int v1), (2, .int v2)] [] S D (xQv S r)) {rec_19 : Nat → Int32 → Int32 → Int32 → xDt → Option (xDt)} (hrec_19 : ∀ {v0 : Nat} {v1 : Int32} {v2 : Int32} {v3 : Int32} {D : xDt} {r : xDt}, xK S v0 0 → rec_19 v0 v1 v2 v3 D = some r → yEx md_X0_sift 3 19 [(0, .ref v0), (1, .int v1), (2, .int v2), (3, .int v3)] [] S D (xQv S r)) {v0 : Nat} {v1 : Int32} {v2 : Int32} {v3 : Int32} {D : xDt} {r : xDt} (k0 : xK S v0 0) (h : f_X0_sift_54 F P S rec_4 rec_19 v0 v1 v2 v3 D = some r) : yEx md_X0_sift 3 54 [(0, .ref v0), (1, .int v1), (2, .int v2), (3, .int v3)] [] S D (xQv S r) := by
  unfold f_X0_sift_54 at h
  refine x_aload_n dX0_sift_54 0 rfl ?_
  refine x_iload_n dX0_sift_55 3 rfl ?_
  refine xbnd_e h (fun q1 e1 h => ?_)
  refine y_callVv (As := [.int v3]) (q := q1) cv_RX0_144 dX0_sift_56 k0 rfl (Nat.le_of_ble_eq_true rfl) (by omega) (S_X0_startDoubt hS k0 e1) ?_
  refine x_aload_n dX0_sift_59 0 rfl ?_
  refine x_iload_n dX0_sift_60 3 rfl ?_
  refine xbnd_e h (fun q2 e2 h => ?_)
  refine y_callVv (As := [.int v3]) (q := q2) cv_RX0_147 dX0_sift_61 k0 rfl (Nat.le_of_ble_eq_true rfl) (by omega) (S_X0_spread hS k0 e2) ?_
  refine x_iload_n dX0_sift_64 1 rfl ?_
  refine x_aload_n dX0_sift_65 0 rfl ?_
  refine x_iload_n dX0_sift_66 3 rfl ?_
  refine xbnd_e h (fun q3 e3 h => ?_)
  refine y_callVi (As := [.int v3]) (q := q3) cv_RX0_150 dX0_sift_67 k0 rfl (Nat.le_of_ble_eq_true rfl) (by omega) (S_X0_drop hS k0 e3) ?_
  refine x_ior dX0_sift_70 ?_
  refine xlet_e h (fun v1_4 ev1_4 h => ?_)
  refine y_istore_n v1_4 ev1_4 [(1, .int v1_4), (0, .ref v0), (2, .int v2), (3, .int v3)] dX0_sift_71 (by show _ < 5; decide) rfl ?_
  refine x_lv (lv' := [(0, .ref v0), (1, .int v1_4), (2, .int v2), (3, .int v3)]) [1, 0, 2, 3] rfl ?_
  exact t_X0_sift_72 hS hrec_4 hrec_19 k0 h

def f_X0_sift_19s (F P : Nat) (S : xSt) (rec_4 : Nat → Int32 → Int32 → xDt → Option (xDt)) (rec_19 : Nat → Int32 → Int32 → Int32 → xDt → Option (xDt)) (v0 : Nat) (v1 : Int32) (v2 : Int32) (v3 : Int32) (D : xDt) : Option (xDt) :=
  if (D.1 (xr S v0 1) 8) ≤ v3 then (xlet (v2 + 1) fun v2_1 => rec_4 v0 v1 v2_1 D) else ((f_X0_tokenAt F P S v0 v3 D).bind fun q2 => (f_X11_signOf F P S q2.1 q2.2).bind fun q3 => if q3.1 = 75 then (f_X0_sift_54 F P S rec_4 rec_19 v0 v1 v2 v3 q3.2) else (if q3.1 = 67 then (f_X0_sift_54 F P S rec_4 rec_19 v0 v1 v2 v3 q3.2) else (f_X0_sift_72 F P S rec_4 rec_19 v0 v1 v2 v3 q3.2)))
def f_X0_sift_19 (F P : Nat) (S : xSt) (rec_4 : Nat → Int32 → Int32 → xDt → Option (xDt)) : Nat → Nat → Int32 → Int32 → Int32 → xDt → Option (xDt)
  | 0 => fun _ _ _ _ _ => none
  | n + 1 => f_X0_sift_19s F P S rec_4 (f_X0_sift_19 F P S rec_4 n)
set_option maxHeartbeats 4000000 in
theorem t_X0_sift_19s {F P : Nat} {S : xSt} (hS : xWF S) {rec_4 : Nat → Int32 → Int32 → xDt → Option (xDt)} (hrec_4 : ∀ {v0 : Nat} {v1 : Int32} {v2 : Int32} {D : xDt} {r : xDt}, xK S v0 0 → rec_4 v0 v1 v2 D = some r → yEx md_X0_sift 3 4 [(0, .ref v0), (1, .int v1), (2, .int v2)] [] S D (xQv S r)) {rec_19 : Nat → Int32 → Int32 → Int32 → xDt → Option (xDt)} (hrec_19 : ∀ {v0 : Nat} {v1 : Int32} {v2 : Int32} {v3 : Int32} {D : xDt} {r : xDt}, xK S v0 0 → rec_19 v0 v1 v2 v3 D = some r → yEx md_X0_sift 3 19 [(0, .ref v0), (1, .int v1), (2, .int v2), (3, .int v3)] [] S D (xQv S r)) {v0 : Nat} {v1 : Int32} {v2 : Int32} {v3 : Int32} {D : xDt} {r : xDt} (k0 : xK S v0 0) (h : f_X0_sift_19s F P S rec_4 rec_19 v0 v1 v2 v3 D = some r) : yEx md_X0_sift 3 19 [(0, .ref v0), (1, .int v1), (2, .int v2), (3, .int v3)] [] S D (xQv S r) := by
  unfold f_X0_sift_19s at h
  refine x_iload_n dX0_sift_19 3 rfl ?_
  refine x_aload_n dX0_sift_20 0 rfl ?_
  refine y_getr (kd := 8) hS fl_RX0_18 dX0_sift_21 rfl k0 ?_
  refine y_geti fl_RX0_73 dX0_sift_24 rfl ((hS.f k0 1 8 rfl).2) ?_
  refine x_icmp_ge 78 dX0_sift_27 (by decide) (fun c => ?_) (fun c => ?_)
  · rw [if_pos c] at h
    refine xlet_e h (fun v2_1 ev2_1 h => ?_)
    refine y_iinc v2_1 ev2_1 (by decide) [(2, .int v2_1), (0, .ref v0), (1, .int v1), (3, .int v3)] dX0_sift_78 2 rfl (by show _ < 5; decide) rfl ?_
    refine x_goto 4 dX0_sift_81 (by decide) ?_
    refine x_lv (lv' := [(0, .ref v0), (1, .int v1), (2, .int v2_1)]) [1, 2, 0] rfl ?_
    exact hrec_4 k0 h
  · rw [if_neg c] at h
    refine x_aload_n dX0_sift_30 0 rfl ?_
    refine x_iload_n dX0_sift_31 3 rfl ?_
    refine xbnd_e h (fun q2 e2 h => ?_)
    refine y_callVi (As := [.int v3]) (q := q2) cv_RX0_104 dX0_sift_32 k0 rfl (Nat.le_of_ble_eq_true rfl) (by omega) (S_X0_tokenAt hS k0 e2) ?_
    refine xbnd_e h (fun q3 e3 h => ?_)
    refine y_callNi (As := [.int q2.1]) (q := q3) cn_RX0_134 dX0_sift_35 rfl (Nat.le_of_ble_eq_true rfl) (by omega) (S_X11_signOf hS e3) ?_
    refine y_istore q3.1 rfl [(4, .int q3.1), (0, .ref v0), (1, .int v1), (2, .int v2), (3, .int v3)] dX0_sift_38 (by show _ < 5; decide) rfl ?_
    refine x_iload dX0_sift_40 0 rfl ?_
    refine x_bipush 75 dX0_sift_42 (by decide) ?_
    refine x_icmp_eq 54 dX0_sift_44 (by decide) (fun c => ?_) (fun c => ?_)
    · rw [if_pos c] at h
      refine x_lv (lv' := [(0, .ref v0), (1, .int v1), (2, .int v2), (3, .int v3)]) [1, 2, 3, 4] rfl ?_
      exact t_X0_sift_54 hS hrec_4 hrec_19 k0 h
    · rw [if_neg c] at h
      refine x_iload dX0_sift_47 0 rfl ?_
      refine x_bipush 67 dX0_sift_49 (by decide) ?_
      refine x_icmp_ne 72 dX0_sift_51 (by decide) (fun c => ?_) (fun c => ?_)
      · rw [if_neg c] at h
        refine x_lv (lv' := [(0, .ref v0), (1, .int v1), (2, .int v2), (3, .int v3)]) [1, 2, 3, 4] rfl ?_
        exact t_X0_sift_72 hS hrec_4 hrec_19 k0 h
      · rw [if_pos c] at h
        refine x_lv (lv' := [(0, .ref v0), (1, .int v1), (2, .int v2), (3, .int v3)]) [1, 2, 3, 4] rfl ?_
        exact t_X0_sift_54 hS hrec_4 hrec_19 k0 h
theorem t_X0_sift_19 {F P : Nat} {S : xSt} (hS : xWF S) {rec_4 : Nat → Int32 → Int32 → xDt → Option (xDt)} (hrec_4 : ∀ {v0 : Nat} {v1 : Int32} {v2 : Int32} {D : xDt} {r : xDt}, xK S v0 0 → rec_4 v0 v1 v2 D = some r → yEx md_X0_sift 3 4 [(0, .ref v0), (1, .int v1), (2, .int v2)] [] S D (xQv S r)) : ∀ (n : Nat) {v0 : Nat} {v1 : Int32} {v2 : Int32} {v3 : Int32} {D : xDt} {r : xDt}, xK S v0 0 → f_X0_sift_19 F P S rec_4 n v0 v1 v2 v3 D = some r → yEx md_X0_sift 3 19 [(0, .ref v0), (1, .int v1), (2, .int v2), (3, .int v3)] [] S D (xQv S r) := by
  intro n
  induction n with
  | zero => intros; rename_i h; cases h
  | succ n ih =>
    intro v0 v1 v2 v3 D r k0 h
    exact t_X0_sift_19s hS hrec_4 (fun k0 h => ih k0 h) k0 h

def f_X0_sift_4s (F P : Nat) (S : xSt) (rec_4 : Nat → Int32 → Int32 → xDt → Option (xDt)) (v0 : Nat) (v1 : Int32) (v2 : Int32) (D : xDt) : Option (xDt) :=
  if 8192 < v2 then (some D) else (if v1 = 0 then (some D) else (f_X0_sift_19 F P S rec_4 F v0 0 v2 0 D))
def f_X0_sift_4 (F P : Nat) (S : xSt) : Nat → Nat → Int32 → Int32 → xDt → Option (xDt)
  | 0 => fun _ _ _ _ => none
  | n + 1 => f_X0_sift_4s F P S (f_X0_sift_4 F P S n)
set_option maxHeartbeats 4000000 in
theorem t_X0_sift_4s {F P : Nat} {S : xSt} (hS : xWF S) {rec_4 : Nat → Int32 → Int32 → xDt → Option (xDt)} (hrec_4 : ∀ {v0 : Nat} {v1 : Int32} {v2 : Int32} {D : xDt} {r : xDt}, xK S v0 0 → rec_4 v0 v1 v2 D = some r → yEx md_X0_sift 3 4 [(0, .ref v0), (1, .int v1), (2, .int v2)] [] S D (xQv S r)) {v0 : Nat} {v1 : Int32} {v2 : Int32} {D : xDt} {r : xDt} (k0 : xK S v0 0) (h : f_X0_sift_4s F P S rec_4 v0 v1 v2 D = some r) : yEx md_X0_sift 3 4 [(0, .ref v0), (1, .int v1), (2, .int v2)] [] S D (xQv S r) := by
  unfold f_X0_sift_4s at h
  refine x_iload_n dX0_sift_4 2 rfl ?_
  refine x_sipush 8192 dX0_sift_5 (by decide) ?_
  refine x_icmp_gt 84 dX0_sift_8 (by decide) (fun c => ?_) (fun c => ?_)
  · rw [if_pos c] at h
    obtain rfl := Option.some.inj h
    exact y_vret rfl dX0_sift_84
  · rw [if_neg c] at h
    refine x_iload_n dX0_sift_11 1 rfl ?_
    refine x_if_eq 84 dX0_sift_12 (by decide) (fun c => ?_) (fun c => ?_)
    · rw [if_pos c] at h
      obtain rfl := Option.some.inj h
      exact y_vret rfl dX0_sift_84
    · rw [if_neg c] at h
      refine x_iconst 0 dX0_sift_15 (by decide) ?_
      refine y_istore_n 0 rfl [(1, .int 0), (0, .ref v0), (2, .int v2)] dX0_sift_16 (by show _ < 5; decide) rfl ?_
      refine x_iconst 0 dX0_sift_17 (by decide) ?_
      refine y_istore_n 0 rfl [(3, .int 0), (1, .int 0), (0, .ref v0), (2, .int v2)] dX0_sift_18 (by show _ < 5; decide) rfl ?_
      refine x_lv (lv' := [(0, .ref v0), (1, .int 0), (2, .int v2), (3, .int 0)]) [2, 1, 3, 0] rfl ?_
      exact t_X0_sift_19 hS hrec_4 F k0 h
theorem t_X0_sift_4 {F P : Nat} {S : xSt} (hS : xWF S) : ∀ (n : Nat) {v0 : Nat} {v1 : Int32} {v2 : Int32} {D : xDt} {r : xDt}, xK S v0 0 → f_X0_sift_4 F P S n v0 v1 v2 D = some r → yEx md_X0_sift 3 4 [(0, .ref v0), (1, .int v1), (2, .int v2)] [] S D (xQv S r) := by
  intro n
  induction n with
  | zero => intros; rename_i h; cases h
  | succ n ih =>
    intro v0 v1 v2 D r k0 h
    exact t_X0_sift_4s hS (fun k0 h => ih k0 h) k0 h

def f_X0_sift (F P : Nat) (S : xSt) (v0 : Nat) (D : xDt) : Option (xDt) :=
  f_X0_sift_4 F P S F v0 1 0 D
set_option maxHeartbeats 4000000 in
theorem S_X0_sift {F P : Nat} {S : xSt} (hS : xWF S) {v0 : Nat} {D : xDt} {r : xDt} (k0 : xK S v0 0) (h : f_X0_sift F P S v0 D = some r) : xSp md_X0_sift (3, 0, 0) [.ref v0] (S, D) (xQv S r) := by
  unfold f_X0_sift at h
  refine xEntry (by decide) (Nat.le_of_ble_eq_true rfl) ?_
  refine x_lv (lv' := [(0, .ref v0)]) [0] rfl ?_
  refine x_iconst 1 dX0_sift_0 (by decide) ?_
  refine y_istore_n 1 rfl [(1, .int 1), (0, .ref v0)] dX0_sift_1 (by show _ < 5; decide) rfl ?_
  refine x_iconst 0 dX0_sift_2 (by decide) ?_
  refine y_istore_n 0 rfl [(2, .int 0), (1, .int 1), (0, .ref v0)] dX0_sift_3 (by show _ < 5; decide) rfl ?_
  refine x_lv (lv' := [(0, .ref v0), (1, .int 1), (2, .int 0)]) [2, 1, 0] rfl ?_
  exact t_X0_sift_4 hS F k0 h

