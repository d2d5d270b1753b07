/-! printed by wip/whole/gen.py: the methods as plain functions, each proved to be what its bytecode does -/
theorem dX3_finish_0 : decode cX3_finish 0 = .ok (.lload_n 1, 1) := by decide +kernel
theorem dX3_finish_1 : decode cX3_finish 1 = .ok (.lstore 4, 2) := by decide +kernel
theorem dX3_finish_3 : decode cX3_finish 3 = .ok (.aload_n 0, 1) := by decide +kernel
theorem dX3_finish_4 : decode cX3_finish 4 = .ok (.getfield 36, 3) := by decide +kernel
theorem dX3_finish_7 : decode cX3_finish 7 = .ok (.iconst 1, 1) := by decide +kernel
theorem dX3_finish_8 : decode cX3_finish 8 = .ok (.isub, 1) := by decide +kernel
theorem dX3_finish_9 : decode cX3_finish 9 = .ok (.istore 6, 2) := by decide +kernel
theorem dX3_finish_11 : decode cX3_finish 11 = .ok (.iload 6, 2) := by decide +kernel
theorem dX3_finish_13 : decode cX3_finish 13 = .ok (.ifCond .lt 154, 3) := by decide +kernel
theorem dX3_finish_16 : decode cX3_finish 16 = .ok (.aload_n 0, 1) := by decide +kernel
theorem dX3_finish_17 : decode cX3_finish 17 = .ok (.getfield 9, 3) := by decide +kernel
theorem dX3_finish_20 : decode cX3_finish 20 = .ok (.iload 6, 2) := by decide +kernel
theorem dX3_finish_22 : decode cX3_finish 22 = .ok (.iaload, 1) := by decide +kernel
theorem dX3_finish_23 : decode cX3_finish 23 = .ok (.invokestatic 48, 3) := by decide +kernel
theorem dX3_finish_26 : decode cX3_finish 26 = .ok (.istore 7, 2) := by decide +kernel
theorem dX3_finish_28 : decode cX3_finish 28 = .ok (.iload 7, 2) := by decide +kernel
theorem dX3_finish_30 : decode cX3_finish 30 = .ok (.invokestatic 67, 3) := by decide +kernel
theorem dX3_finish_33 : decode cX3_finish 33 = .ok (.ifCond .eq 73, 3) := by decide +kernel
theorem dX3_finish_36 : decode cX3_finish 36 = .ok (.aload_n 0, 1) := by decide +kernel
theorem dX3_finish_37 : decode cX3_finish 37 = .ok (.getfield 15, 3) := by decide +kernel
theorem dX3_finish_40 : decode cX3_finish 40 = .ok (.iload 6, 2) := by decide +kernel
theorem dX3_finish_42 : decode cX3_finish 42 = .ok (.baload, 1) := by decide +kernel
theorem dX3_finish_43 : decode cX3_finish 43 = .ok (.ifCond .ne 63, 3) := by decide +kernel
theorem dX3_finish_46 : decode cX3_finish 46 = .ok (.aload_n 0, 1) := by decide +kernel
theorem dX3_finish_47 : decode cX3_finish 47 = .ok (.getfield 15, 3) := by decide +kernel
theorem dX3_finish_50 : decode cX3_finish 50 = .ok (.iload 6, 2) := by decide +kernel
theorem dX3_finish_52 : decode cX3_finish 52 = .ok (.iconst 1, 1) := by decide +kernel
theorem dX3_finish_53 : decode cX3_finish 53 = .ok (.bastore, 1) := by decide +kernel
theorem dX3_finish_54 : decode cX3_finish 54 = .ok (.aload_n 0, 1) := by decide +kernel
theorem dX3_finish_55 : decode cX3_finish 55 = .ok (.getfield 19, 3) := by decide +kernel
theorem dX3_finish_58 : decode cX3_finish 58 = .ok (.iload 6, 2) := by decide +kernel
theorem dX3_finish_60 : decode cX3_finish 60 = .ok (.lload 4, 2) := by decide +kernel
theorem dX3_finish_62 : decode cX3_finish 62 = .ok (.lastore, 1) := by decide +kernel
theorem dX3_finish_63 : decode cX3_finish 63 = .ok (.aload_n 0, 1) := by decide +kernel
theorem dX3_finish_64 : decode cX3_finish 64 = .ok (.getfield 23, 3) := by decide +kernel
theorem dX3_finish_67 : decode cX3_finish 67 = .ok (.iload 6, 2) := by decide +kernel
theorem dX3_finish_69 : decode cX3_finish 69 = .ok (.aload_n 0, 1) := by decide +kernel
theorem dX3_finish_70 : decode cX3_finish 70 = .ok (.getfield 32, 3) := by decide +kernel
theorem dX3_finish_73 : decode cX3_finish 73 = .ok (.lastore, 1) := by decide +kernel
theorem dX3_finish_74 : decode cX3_finish 74 = .ok (.aload_n 0, 1) := by decide +kernel
theorem dX3_finish_75 : decode cX3_finish 75 = .ok (.iload 7, 2) := by decide +kernel
theorem dX3_finish_77 : decode cX3_finish 77 = .ok (.invokestatic 70, 3) := by decide +kernel
theorem dX3_finish_80 : decode cX3_finish 80 = .ok (.ifCond .eq 8, 3) := by decide +kernel
theorem dX3_finish_83 : decode cX3_finish 83 = .ok (.lload 4, 2) := by decide +kernel
theorem dX3_finish_85 : decode cX3_finish 85 = .ok (.goto 7, 3) := by decide +kernel
theorem dX3_finish_88 : decode cX3_finish 88 = .ok (.aload_n 0, 1) := by decide +kernel
theorem dX3_finish_89 : decode cX3_finish 89 = .ok (.getfield 32, 3) := by decide +kernel
theorem dX3_finish_92 : decode cX3_finish 92 = .ok (.putfield 32, 3) := by decide +kernel
theorem dX3_finish_95 : decode cX3_finish 95 = .ok (.aload_n 0, 1) := by decide +kernel
theorem dX3_finish_96 : decode cX3_finish 96 = .ok (.iload 6, 2) := by decide +kernel
theorem dX3_finish_98 : decode cX3_finish 98 = .ok (.iconst 1, 1) := by decide +kernel
theorem dX3_finish_99 : decode cX3_finish 99 = .ok (.iadd, 1) := by decide +kernel
theorem dX3_finish_100 : decode cX3_finish 100 = .ok (.putfield 36, 3) := by decide +kernel
theorem dX3_finish_103 : decode cX3_finish 103 = .ok (.lload 4, 2) := by decide +kernel
theorem dX3_finish_105 : decode cX3_finish 105 = .ok (.lreturn, 1) := by decide +kernel
theorem dX3_finish_106 : decode cX3_finish 106 = .ok (.iload 7, 2) := by decide +kernel
theorem dX3_finish_108 : decode cX3_finish 108 = .ok (.invokestatic 67, 3) := by decide +kernel
theorem dX3_finish_111 : decode cX3_finish 111 = .ok (.ifCond .eq 34, 3) := by decide +kernel
theorem dX3_finish_114 : decode cX3_finish 114 = .ok (.aload_n 0, 1) := by decide +kernel
theorem dX3_finish_115 : decode cX3_finish 115 = .ok (.aload_n 0, 1) := by decide +kernel
theorem dX3_finish_116 : decode cX3_finish 116 = .ok (.getfield 23, 3) := by decide +kernel
theorem dX3_finish_119 : decode cX3_finish 119 = .ok (.iload 6, 2) := by decide +kernel
theorem dX3_finish_121 : decode cX3_finish 121 = .ok (.laload, 1) := by decide +kernel
theorem dX3_finish_122 : decode cX3_finish 122 = .ok (.putfield 32, 3) := by decide +kernel
theorem dX3_finish_125 : decode cX3_finish 125 = .ok (.aload_n 0, 1) := by decide +kernel
theorem dX3_finish_126 : decode cX3_finish 126 = .ok (.iload 7, 2) := by decide +kernel
theorem dX3_finish_128 : decode cX3_finish 128 = .ok (.aload_n 0, 1) := by decide +kernel
theorem dX3_finish_129 : decode cX3_finish 129 = .ok (.getfield 19, 3) := by decide +kernel
theorem dX3_finish_132 : decode cX3_finish 132 = .ok (.iload 6, 2) := by decide +kernel
theorem dX3_finish_134 : decode cX3_finish 134 = .ok (.laload, 1) := by decide +kernel
theorem dX3_finish_135 : decode cX3_finish 135 = .ok (.lload 4, 2) := by decide +kernel
theorem dX3_finish_137 : decode cX3_finish 137 = .ok (.invokevirtual 73, 3) := by decide +kernel
theorem dX3_finish_140 : decode cX3_finish 140 = .ok (.lstore 4, 2) := by decide +kernel
theorem dX3_finish_142 : decode cX3_finish 142 = .ok (.goto 19, 3) := by decide +kernel
theorem dX3_finish_145 : decode cX3_finish 145 = .ok (.aload_n 0, 1) := by decide +kernel
theorem dX3_finish_146 : decode cX3_finish 146 = .ok (.aload_n 0, 1) := by decide +kernel
theorem dX3_finish_147 : decode cX3_finish 147 = .ok (.getfield 9, 3) := by decide +kernel
theorem dX3_finish_150 : decode cX3_finish 150 = .ok (.iload 6, 2) := by decide +kernel
theorem dX3_finish_152 : decode cX3_finish 152 = .ok (.iaload, 1) := by decide +kernel
theorem dX3_finish_153 : decode cX3_finish 153 = .ok (.lload 4, 2) := by decide +kernel
theorem dX3_finish_155 : decode cX3_finish 155 = .ok (.aload_n 3, 1) := by decide +kernel
theorem dX3_finish_156 : decode cX3_finish 156 = .ok (.invokevirtual 77, 3) := by decide +kernel
theorem dX3_finish_159 : decode cX3_finish 159 = .ok (.lstore 4, 2) := by decide +kernel
theorem dX3_finish_161 : decode cX3_finish 161 = .ok (.iinc 6 (-1), 3) := by decide +kernel
theorem dX3_finish_164 : decode cX3_finish 164 = .ok (.goto (-153), 3) := by decide +kernel
theorem dX3_finish_167 : decode cX3_finish 167 = .ok (.aload_n 0, 1) := by decide +kernel
theorem dX3_finish_168 : decode cX3_finish 168 = .ok (.iconst 0, 1) := by decide +kernel
theorem dX3_finish_169 : decode cX3_finish 169 = .ok (.putfield 36, 3) := by decide +kernel
theorem dX3_finish_172 : decode cX3_finish 172 = .ok (.lload 4, 2) := by decide +kernel
theorem dX3_finish_174 : decode cX3_finish 174 = .ok (.lreturn, 1) := by decide +kernel
def f_X3_finish_92 (F P : Nat) (S : xSt) (v0 : Nat) (v4 : Int64) (v6 : Int32) (s0 : Int64) (s1 : Nat) (D : xDt) : Option (Int64 × xDt) :=
  xlet (D.1, xup D.2 s1 5 s0) fun D1 => xlet (xup D1.1 v0 4 (v6 + 1), D1.2) fun D2 => some (v4, D2)
set_option maxHeartbeats 4000000 in
theorem t_X3_finish_92 {F P : Nat} {S : xSt} (hS : xWF S) {v0 : Nat} {v4 : Int64} {v6 : Int32} {s0 : Int64} {s1 : Nat} {D : xDt} {r : Int64 × xDt} (k0 : xK S v0 3) (ks1 : xK S s1 3) (h : f_X3_finish_92 F P S v0 v4 v6 s0 s1 D = some r) : yEx md_X3_finish 3 92 [(0, .ref v0), (4, .long v4), (6, .int v6)] [.long s0, .ref s1] S D (xQl S r) := by
  unfold f_X3_finish_92 at h
  refine xlet_e h (fun D1 eD1 h => ?_)
  refine y_putl fp_RX3_32 dX3_finish_92 rfl ks1 eD1 ?_
  refine x_aload_n dX3_finish_95 0 rfl ?_
  refine x_iload dX3_finish_96 2 rfl ?_
  refine x_iconst 1 dX3_finish_98 (by decide) ?_
  refine x_iadd dX3_finish_99 ?_
  refine xlet_e h (fun D2 eD2 h => ?_)
  refine y_puti fp_RX3_36 dX3_finish_100 rfl k0 eD2 ?_
  refine x_lload dX3_finish_103 1 rfl ?_
  obtain rfl := Option.some.inj h
  exact y_lret rfl dX3_finish_105

def f_X3_finish_161 (F P : Nat) (S : xSt) (rec_11 : Nat → Nat → Int64 → Int32 → xDt → Option (Int64 × xDt)) (v0 : Nat) (v3 : Nat) (v4 : Int64) (v6 : Int32) (D : xDt) : Option (Int64 × xDt) :=
  xlet (v6 + (-1)) fun v6_1 => rec_11 v0 v3 v4 v6_1 D
set_option maxHeartbeats 4000000 in
theorem t_X3_finish_161 {F P : Nat} {S : xSt} (hS : xWF S) {rec_11 : Nat → Nat → Int64 → Int32 → xDt → Option (Int64 × xDt)} (hrec_11 : ∀ {v0 : Nat} {v3 : Nat} {v4 : Int64} {v6 : Int32} {D : xDt} {r : Int64 × xDt}, xK S v0 3 → xK S v3 10 → rec_11 v0 v3 v4 v6 D = some r → yEx md_X3_finish 3 11 [(0, .ref v0), (3, .ref v3), (4, .long v4), (6, .int v6)] [] S D (xQl S r)) {v0 : Nat} {v3 : Nat} {v4 : Int64} {v6 : Int32} {D : xDt} {r : Int64 × xDt} (k0 : xK S v0 3) (k3 : xK S v3 10) (h : f_X3_finish_161 F P S rec_11 v0 v3 v4 v6 D = some r) : yEx md_X3_finish 3 161 [(0, .ref v0), (3, .ref v3), (4, .long v4), (6, .int v6)] [] S D (xQl S r) := by
  unfold f_X3_finish_161 at h
  refine xlet_e h (fun v6_1 ev6_1 h => ?_)
  refine y_iinc v6_1 ev6_1 (by decide) [(6, .int v6_1), (0, .ref v0), (3, .ref v3), (4, .long v4)] dX3_finish_161 3 rfl (by show _ < 8; decide) rfl ?_
  refine x_goto 11 dX3_finish_164 (by decide) ?_
  refine x_lv (lv' := [(0, .ref v0), (3, .ref v3), (4, .long v4), (6, .int v6_1)]) [1, 2, 3, 0] rfl ?_
  exact hrec_11 k0 k3 h

def f_X3_finish_106 (F P : Nat) (S : xSt) (rec_11 : Nat → Nat → Int64 → Int32 → xDt → Option (Int64 × xDt)) (v0 : Nat) (v3 : Nat) (v4 : Int64) (v6 : Int32) (v7 : Int32) (D : xDt) : Option (Int64 × xDt) :=
  (f_X11_hasTwoParts F P S v7 D).bind fun q1 => if q1.1 = 0 then (xgrd (xin v6 (xl S (xr S v0 0))) ((f_X3_single F P S v0 (q1.2.1 (xr S v0 0) (v6).toNatClampNeg) v4 v3 q1.2).bind fun q3 => f_X3_finish_161 F P S rec_11 v0 v3 q3.1 v6 q3.2)) else (xgrd (xin v6 (xl S (xr S v0 3))) (xlet (q1.2.1, xup q1.2.2 v0 5 (q1.2.2 (xr S v0 3) (v6).toNatClampNeg)) fun D5 => xgrd (xin v6 (xl S (xr S v0 2))) ((f_X3_joined F P S v0 v7 (D5.2 (xr S v0 2) (v6).toNatClampNeg) v4 D5).bind fun q7 => f_X3_finish_161 F P S rec_11 v0 v3 q7.1 v6 q7.2)))
set_option maxHeartbeats 4000000 in
theorem t_X3_finish_106 {F P : Nat} {S : xSt} (hS : xWF S) {rec_11 : Nat → Nat → Int64 → Int32 → xDt → Option (Int64 × xDt)} (hrec_11 : ∀ {v0 : Nat} {v3 : Nat} {v4 : Int64} {v6 : Int32} {D : xDt} {r : Int64 × xDt}, xK S v0 3 → xK S v3 10 → rec_11 v0 v3 v4 v6 D = some r → yEx md_X3_finish 3 11 [(0, .ref v0), (3, .ref v3), (4, .long v4), (6, .int v6)] [] S D (xQl S r)) {v0 : Nat} {v3 : Nat} {v4 : Int64} {v6 : Int32} {v7 : Int32} {D : xDt} {r : Int64 × xDt} (k0 : xK S v0 3) (k3 : xK S v3 10) (h : f_X3_finish_106 F P S rec_11 v0 v3 v4 v6 v7 D = some r) : yEx md_X3_finish 3 106 [(0, .ref v0), (3, .ref v3), (4, .long v4), (6, .int v6), (7, .int v7)] [] S D (xQl S r) := by
  unfold f_X3_finish_106 at h
  refine x_iload dX3_finish_106 4 rfl ?_
  refine xbnd_e h (fun q1 e1 h => ?_)
  refine y_callNi (As := [.int v7]) (q := q1) cn_RX3_67 dX3_finish_108 rfl (Nat.le_of_ble_eq_true rfl) (by omega) (S_X11_hasTwoParts hS e1) ?_
  refine x_if_eq 145 dX3_finish_111 (by decide) (fun c => ?_) (fun c => ?_)
  · rw [if_pos c] at h
    refine x_aload_n dX3_finish_145 0 rfl ?_
    refine x_aload_n dX3_finish_146 0 rfl ?_
    refine y_getr (kd := 100) hS fl_RX3_9 dX3_finish_147 rfl k0 ?_
    refine x_iload dX3_finish_150 3 rfl ?_
    refine xgrd_e h (fun g2 h => ?_)
    refine y_iald dX3_finish_152 ((hS.f k0 0 100 rfl).2) g2 ?_
    refine x_lload dX3_finish_153 2 rfl ?_
    refine x_aload_n dX3_finish_155 1 rfl ?_
    refine xbnd_e h (fun q3 e3 h => ?_)
    refine y_callVl (As := [.int (q1.2.1 (xr S v0 0) (v6).toNatClampNeg), .long v4, .ref v3]) (q := q3) cv_RX3_77 dX3_finish_156 k0 rfl (Nat.le_of_ble_eq_true rfl) (by omega) (S_X3_single hS k0 k3 e3) ?_
    refine y_lstore q3.1 rfl [(4, .long q3.1), (0, .ref v0), (3, .ref v3), (6, .int v6), (7, .int v7)] dX3_finish_159 (by show _ < 8; decide) rfl ?_
    refine x_lv (lv' := [(0, .ref v0), (3, .ref v3), (4, .long q3.1), (6, .int v6)]) [1, 2, 0, 3] rfl ?_
    exact t_X3_finish_161 hS hrec_11 k0 k3 h
  · rw [if_neg c] at h
    refine x_aload_n dX3_finish_114 0 rfl ?_
    refine x_aload_n dX3_finish_115 0 rfl ?_
    refine y_getr (kd := 101) hS fl_RX3_23 dX3_finish_116 rfl k0 ?_
    refine x_iload dX3_finish_119 3 rfl ?_
    refine xgrd_e h (fun g4 h => ?_)
    refine y_lald dX3_finish_121 ((hS.f k0 3 101 rfl).2) g4 ?_
    refine xlet_e h (fun D5 eD5 h => ?_)
    refine y_putl fp_RX3_32 dX3_finish_122 rfl k0 eD5 ?_
    refine x_aload_n dX3_finish_125 0 rfl ?_
    refine x_iload dX3_finish_126 4 rfl ?_
    refine x_aload_n dX3_finish_128 0 rfl ?_
    refine y_getr (kd := 101) hS fl_RX3_19 dX3_finish_129 rfl k0 ?_
    refine x_iload dX3_finish_132 3 rfl ?_
    refine xgrd_e h (fun g6 h => ?_)
    refine y_lald dX3_finish_134 ((hS.f k0 2 101 rfl).2) g6 ?_
    refine x_lload dX3_finish_135 2 rfl ?_
    refine xbnd_e h (fun q7 e7 h => ?_)
    refine y_callVl (As := [.int v7, .long (D5.2 (xr S v0 2) (v6).toNatClampNeg), .long v4]) (q := q7) cv_RX3_73 dX3_finish_137 k0 rfl (Nat.le_of_ble_eq_true rfl) (by omega) (S_X3_joined hS k0 e7) ?_
    refine y_lstore q7.1 rfl [(4, .long q7.1), (0, .ref v0), (3, .ref v3), (6, .int v6), (7, .int v7)] dX3_finish_140 (by show _ < 8; decide) rfl ?_
    refine x_goto 161 dX3_finish_142 (by decide) ?_
    refine x_lv (lv' := [(0, .ref v0), (3, .ref v3), (4, .long q7.1), (6, .int v6)]) [1, 2, 0, 3] rfl ?_
    exact t_X3_finish_161 hS hrec_11 k0 k3 h

def f_X3_finish_11s (F P : Nat) (S : xSt) (rec_11 : Nat → Nat → Int64 → Int32 → xDt → Option (Int64 × xDt)) (v0 : Nat) (v3 : Nat) (v4 : Int64) (v6 : Int32) (D : xDt) : Option (Int64 × xDt) :=
  if v6 < 0 then (xlet (xup D.1 v0 4 0, D.2) fun D1 => some (v4, D1)) else (xgrd (xin v6 (xl S (xr S v0 0))) ((f_X11_signOf F P S (D.1 (xr S v0 0) (v6).toNatClampNeg) D).bind fun q3 => (f_X11_hasTwoParts F P S q3.1 q3.2).bind fun q4 => if q4.1 = 0 then (f_X3_finish_106 F P S rec_11 v0 v3 v4 v6 q3.1 q4.2) else (xgrd (xin v6 (xl S (xr S v0 1))) (if (q4.2.1 (xr S v0 1) (v6).toNatClampNeg) = 0 then (xgrd (xin v6 (xl S (xr S v0 1))) (xlet (xup q4.2.1 (xr S v0 1) (v6).toNatClampNeg (1 &&& 1), q4.2.2) fun D7 => xgrd (xin v6 (xl S (xr S v0 2))) (xlet (D7.1, xup D7.2 (xr S v0 2) (v6).toNatClampNeg v4) fun D9 => xgrd (xin v6 (xl S (xr S v0 3))) (xlet (D9.1, xup D9.2 (xr S v0 3) (v6).toNatClampNeg (D9.2 v0 5)) fun D11 => (f_X11_isSaying F P S q3.1 D11).bind fun q12 => if q12.1 = 0 then (f_X3_finish_92 F P S v0 v4 v6 (q12.2.2 v0 5) v0 q12.2) else (f_X3_finish_92 F P S v0 v4 v6 v4 v0 q12.2))))) else (f_X3_finish_106 F P S rec_11 v0 v3 v4 v6 q3.1 q4.2)))))
def f_X3_finish_11 (F P : Nat) (S : xSt) : Nat → Nat → Nat → Int64 → Int32 → xDt → Option (Int64 × xDt)
  | 0 => fun _ _ _ _ _ => none
  | n + 1 => f_X3_finish_11s F P S (f_X3_finish_11 F P S n)
set_option maxHeartbeats 4000000 in
theorem t_X3_finish_11s {F P : Nat} {S : xSt} (hS : xWF S) {rec_11 : Nat → Nat → Int64 → Int32 → xDt → Option (Int64 × xDt)} (hrec_11 : ∀ {v0 : Nat} {v3 : Nat} {v4 : Int64} {v6 : Int32} {D : xDt} {r : Int64 × xDt}, xK S v0 3 → xK S v3 10 → rec_11 v0 v3 v4 v6 D = some r → yEx md_X3_finish 3 11 [(0, .ref v0), (3, .ref v3), (4, .long v4), (6, .int v6)] [] S D (xQl S r)) {v0 : Nat} {v3 : Nat} {v4 : Int64} {v6 : Int32} {D : xDt} {r : Int64 × xDt} (k0 : xK S v0 3) (k3 : xK S v3 10) (h : f_X3_finish_11s F P S rec_11 v0 v3 v4 v6 D = some r) : yEx md_X3_finish 3 11 [(0, .ref v0), (3, .ref v3), (4, .long v4), (6, .int v6)] [] S D (xQl S r) := by
  unfold f_X3_finish_11s at h
  refine x_iload dX3_finish_11 3 rfl ?_
  refine x_if_lt 167 dX3_finish_13 (by decide) (fun c => ?_) (fun c => ?_)
  · rw [if_pos c] at h
    refine x_aload_n dX3_finish_167 0 rfl ?_
    refine x_iconst 0 dX3_finish_168 (by decide) ?_
    refine xlet_e h (fun D1 eD1 h => ?_)
    refine y_puti fp_RX3_36 dX3_finish_169 rfl k0 eD1 ?_
    refine x_lload dX3_finish_172 2 rfl ?_
    obtain rfl := Option.some.inj h
    exact y_lret rfl dX3_finish_174
  · rw [if_neg c] at h
    refine x_aload_n dX3_finish_16 0 rfl ?_
    refine y_getr (kd := 100) hS fl_RX3_9 dX3_finish_17 rfl k0 ?_
    refine x_iload dX3_finish_20 3 rfl ?_
    refine xgrd_e h (fun g2 h => ?_)
    refine y_iald dX3_finish_22 ((hS.f k0 0 100 rfl).2) g2 ?_
    refine xbnd_e h (fun q3 e3 h => ?_)
    refine y_callNi (As := [.int (D.1 (xr S v0 0) (v6).toNatClampNeg)]) (q := q3) cn_RX3_48 dX3_finish_23 rfl (Nat.le_of_ble_eq_true rfl) (by omega) (S_X11_signOf hS e3) ?_
    refine y_istore q3.1 rfl [(7, .int q3.1), (0, .ref v0), (3, .ref v3), (4, .long v4), (6, .int v6)] dX3_finish_26 (by show _ < 8; decide) rfl ?_
    refine x_iload dX3_finish_28 0 rfl ?_
    refine xbnd_e h (fun q4 e4 h => ?_)
    refine y_callNi (As := [.int q3.1]) (q := q4) cn_RX3_67 dX3_finish_30 rfl (Nat.le_of_ble_eq_true rfl) (by omega) (S_X11_hasTwoParts hS e4) ?_
    refine x_if_eq 106 dX3_finish_33 (by decide) (fun c => ?_) (fun c => ?_)
    · rw [if_pos c] at h
      refine x_lv (lv' := [(0, .ref v0), (3, .ref v3), (4, .long v4), (6, .int v6), (7, .int q3.1)]) [1, 2, 3, 4, 0] rfl ?_
      exact t_X3_finish_106 hS hrec_11 k0 k3 h
    · rw [if_neg c] at h
      refine x_aload_n dX3_finish_36 1 rfl ?_
      refine y_getr (kd := 104) hS fl_RX3_15 dX3_finish_37 rfl k0 ?_
      refine x_iload dX3_finish_40 4 rfl ?_
      refine xgrd_e h (fun g5 h => ?_)
      refine y_zald dX3_finish_42 ((hS.f k0 1 104 rfl).2) g5 ?_
      refine x_if_ne 106 dX3_finish_43 (by decide) (fun c => ?_) (fun c => ?_)
      · rw [if_neg c] at h
        refine x_lv (lv' := [(0, .ref v0), (3, .ref v3), (4, .long v4), (6, .int v6), (7, .int q3.1)]) [1, 2, 3, 4, 0] rfl ?_
        exact t_X3_finish_106 hS hrec_11 k0 k3 h
      · rw [if_pos c] at h
        refine x_aload_n dX3_finish_46 1 rfl ?_
        refine y_getr (kd := 104) hS fl_RX3_15 dX3_finish_47 rfl k0 ?_
        refine x_iload dX3_finish_50 4 rfl ?_
        refine x_iconst 1 dX3_finish_52 (by decide) ?_
        refine xgrd_e h (fun g6 h => ?_)
        refine xlet_e h (fun D7 eD7 h => ?_)
        refine y_zast dX3_finish_53 ((hS.f k0 1 104 rfl).2) g6 eD7 ?_
        refine x_aload_n dX3_finish_54 1 rfl ?_
        refine y_getr (kd := 101) hS fl_RX3_19 dX3_finish_55 rfl k0 ?_
        refine x_iload dX3_finish_58 4 rfl ?_
        refine x_lload dX3_finish_60 3 rfl ?_
        refine xgrd_e h (fun g8 h => ?_)
        refine xlet_e h (fun D9 eD9 h => ?_)
        refine y_last dX3_finish_62 ((hS.f k0 2 101 rfl).2) g8 eD9 ?_
        refine x_aload_n dX3_finish_63 1 rfl ?_
        refine y_getr (kd := 101) hS fl_RX3_23 dX3_finish_64 rfl k0 ?_
        refine x_iload dX3_finish_67 4 rfl ?_
        refine x_aload_n dX3_finish_69 1 rfl ?_
        refine y_getl fl_RX3_32 dX3_finish_70 rfl k0 ?_
        refine xgrd_e h (fun g10 h => ?_)
        refine xlet_e h (fun D11 eD11 h => ?_)
        refine y_last dX3_finish_73 ((hS.f k0 3 101 rfl).2) g10 eD11 ?_
        refine x_aload_n dX3_finish_74 1 rfl ?_
        refine x_iload dX3_finish_75 0 rfl ?_
        refine xbnd_e h (fun q12 e12 h => ?_)
        refine y_callNi (As := [.int q3.1]) (q := q12) cn_RX3_70 dX3_finish_77 rfl (Nat.le_of_ble_eq_true rfl) (by omega) (S_X11_isSaying hS e12) ?_
        refine x_if_eq 88 dX3_finish_80 (by decide) (fun c => ?_) (fun c => ?_)
        · rw [if_pos c] at h
          refine x_aload_n dX3_finish_88 1 rfl ?_
          refine y_getl fl_RX3_32 dX3_finish_89 rfl k0 ?_
          refine x_lv (lv' := [(0, .ref v0), (4, .long v4), (6, .int v6)]) [1, 3, 4] rfl ?_
          exact t_X3_finish_92 hS k0 k0 h
        · rw [if_neg c] at h
          refine x_lload dX3_finish_83 3 rfl ?_
          refine x_goto 92 dX3_finish_85 (by decide) ?_
          refine x_lv (lv' := [(0, .ref v0), (4, .long v4), (6, .int v6)]) [1, 3, 4] rfl ?_
          exact t_X3_finish_92 hS k0 k0 h
theorem t_X3_finish_11 {F P : Nat} {S : xSt} (hS : xWF S) : ∀ (n : Nat) {v0 : Nat} {v3 : Nat} {v4 : Int64} {v6 : Int32} {D : xDt} {r : Int64 × xDt}, xK S v0 3 → xK S v3 10 → f_X3_finish_11 F P S n v0 v3 v4 v6 D = some r → yEx md_X3_finish 3 11 [(0, .ref v0), (3, .ref v3), (4, .long v4), (6, .int v6)] [] S D (xQl S r) := by
  intro n
  induction n with
  | zero => intros; rename_i h; cases h
  | succ n ih =>
    intro v0 v3 v4 v6 D r k0 k3 h
    exact t_X3_finish_11s hS (fun k0 k3 h => ih k0 k3 h) k0 k3 h

def f_X3_finish (F P : Nat) (S : xSt) (v0 : Nat) (v1 : Int64) (v3 : Nat) (D : xDt) : Option (Int64 × xDt) :=
  xlet ((D.1 v0 4) - 1) fun v6_1 => f_X3_finish_11 F P S F v0 v3 v1 v6_1 D
set_option maxHeartbeats 4000000 in
theorem S_X3_finish {F P : Nat} {S : xSt} (hS : xWF S) {v0 : Nat} {v1 : Int64} {v3 : Nat} {D : xDt} {r : Int64 × xDt} (k0 : xK S v0 3) (k3 : xK S v3 10) (h : f_X3_finish F P S v0 v1 v3 D = some r) : xSp md_X3_finish (3, 0, 0) [.ref v0, .long v1, .ref v3] (S, D) (xQl S r) := by
  unfold f_X3_finish at h
  refine xEntry (by decide) (Nat.le_of_ble_eq_true rfl) ?_
  refine x_lv (lv' := [(0, .ref v0), (1, .long v1), (3, .ref v3)]) [0, 1, 2] rfl ?_
  refine x_lload_n dX3_finish_0 1 rfl ?_
  refine y_lstore v1 rfl [(4, .long v1), (0, .ref v0), (1, .long v1), (3, .ref v3)] dX3_finish_1 (by show _ < 8; decide) rfl ?_
  refine x_aload_n dX3_finish_3 1 rfl ?_
  refine y_geti fl_RX3_36 dX3_finish_4 rfl k0 ?_
  refine x_iconst 1 dX3_finish_7 (by decide) ?_
  refine x_isub dX3_finish_8 ?_
  refine xlet_e h (fun v6_1 ev6_1 h => ?_)
  refine y_istore v6_1 ev6_1 [(6, .int v6_1), (4, .long v1), (0, .ref v0), (1, .long v1), (3, .ref v3)] dX3_finish_9 (by show _ < 8; decide) rfl ?_
  refine x_lv (lv' := [(0, .ref v0), (3, .ref v3), (4, .long v1), (6, .int v6_1)]) [2, 4, 1, 0] rfl ?_
  exact t_X3_finish_11 hS F k0 k3 h

theorem dX3_where_0 : decode cX3_where 0 = .ok (.aload_n 0, 1) := by decide +kernel
theorem dX3_where_1 : decode cX3_where 1 = .ok (.aload_n 2, 1) := by decide +kernel
theorem dX3_where_2 : decode cX3_where 2 = .ok (.invokevirtual 26, 3) := by decide +kernel
theorem dX3_where_5 : decode cX3_where 5 = .ok (.putfield 32, 3) := by decide +kernel
theorem dX3_where_8 : decode cX3_where 8 = .ok (.aload_n 0, 1) := by decide +kernel
theorem dX3_where_9 : decode cX3_where 9 = .ok (.iconst 0, 1) := by decide +kernel
theorem dX3_where_10 : decode cX3_where 10 = .ok (.putfield 36, 3) := by decide +kernel
theorem dX3_where_13 : decode cX3_where 13 = .ok (.lconst 0, 1) := by decide +kernel
theorem dX3_where_14 : decode cX3_where 14 = .ok (.lstore_n 3, 1) := by decide +kernel
theorem dX3_where_15 : decode cX3_where 15 = .ok (.iconst 0, 1) := by decide +kernel
theorem dX3_where_16 : decode cX3_where 16 = .ok (.istore 5, 2) := by decide +kernel
theorem dX3_where_18 : decode cX3_where 18 = .ok (.iload 5, 2) := by decide +kernel
theorem dX3_where_20 : decode cX3_where 20 = .ok (.aload_n 1, 1) := by decide +kernel
theorem dX3_where_21 : decode cX3_where 21 = .ok (.getfield 40, 3) := by decide +kernel
theorem dX3_where_24 : decode cX3_where 24 = .ok (.if_icmp .ge 91, 3) := by decide +kernel
theorem dX3_where_27 : decode cX3_where 27 = .ok (.aload_n 1, 1) := by decide +kernel
theorem dX3_where_28 : decode cX3_where 28 = .ok (.getfield 45, 3) := by decide +kernel
theorem dX3_where_31 : decode cX3_where 31 = .ok (.iload 5, 2) := by decide +kernel
theorem dX3_where_33 : decode cX3_where 33 = .ok (.iaload, 1) := by decide +kernel
theorem dX3_where_34 : decode cX3_where 34 = .ok (.istore 6, 2) := by decide +kernel
theorem dX3_where_36 : decode cX3_where 36 = .ok (.iload 6, 2) := by decide +kernel
theorem dX3_where_38 : decode cX3_where 38 = .ok (.invokestatic 48, 3) := by decide +kernel
theorem dX3_where_41 : decode cX3_where 41 = .ok (.invokestatic 52, 3) := by decide +kernel
theorem dX3_where_44 : decode cX3_where 44 = .ok (.ifCond .eq 22, 3) := by decide +kernel
theorem dX3_where_47 : decode cX3_where 47 = .ok (.aload_n 0, 1) := by decide +kernel
theorem dX3_where_48 : decode cX3_where 48 = .ok (.aload_n 0, 1) := by decide +kernel
theorem dX3_where_49 : decode cX3_where 49 = .ok (.iload 6, 2) := by decide +kernel
theorem dX3_where_51 : decode cX3_where 51 = .ok (.invokestatic 48, 3) := by decide +kernel
theorem dX3_where_54 : decode cX3_where 54 = .ok (.aload_n 2, 1) := by decide +kernel
theorem dX3_where_55 : decode cX3_where 55 = .ok (.invokevirtual 56, 3) := by decide +kernel
theorem dX3_where_58 : decode cX3_where 58 = .ok (.aload_n 2, 1) := by decide +kernel
theorem dX3_where_59 : decode cX3_where 59 = .ok (.invokevirtual 60, 3) := by decide +kernel
theorem dX3_where_62 : decode cX3_where 62 = .ok (.lstore_n 3, 1) := by decide +kernel
theorem dX3_where_63 : decode cX3_where 63 = .ok (.goto 46, 3) := by decide +kernel
theorem dX3_where_66 : decode cX3_where 66 = .ok (.aload_n 0, 1) := by decide +kernel
theorem dX3_where_67 : decode cX3_where 67 = .ok (.getfield 36, 3) := by decide +kernel
theorem dX3_where_70 : decode cX3_where 70 = .ok (.aload_n 0, 1) := by decide +kernel
theorem dX3_where_71 : decode cX3_where 71 = .ok (.getfield 9, 3) := by decide +kernel
theorem dX3_where_74 : decode cX3_where 74 = .ok (.arraylength, 1) := by decide +kernel
theorem dX3_where_75 : decode cX3_where 75 = .ok (.if_icmp .ge 34, 3) := by decide +kernel
theorem dX3_where_78 : decode cX3_where 78 = .ok (.aload_n 0, 1) := by decide +kernel
theorem dX3_where_79 : decode cX3_where 79 = .ok (.getfield 9, 3) := by decide +kernel
theorem dX3_where_82 : decode cX3_where 82 = .ok (.aload_n 0, 1) := by decide +kernel
theorem dX3_where_83 : decode cX3_where 83 = .ok (.getfield 36, 3) := by decide +kernel
theorem dX3_where_86 : decode cX3_where 86 = .ok (.iload 6, 2) := by decide +kernel
theorem dX3_where_88 : decode cX3_where 88 = .ok (.iastore, 1) := by decide +kernel
theorem dX3_where_89 : decode cX3_where 89 = .ok (.aload_n 0, 1) := by decide +kernel
theorem dX3_where_90 : decode cX3_where 90 = .ok (.getfield 15, 3) := by decide +kernel
theorem dX3_where_93 : decode cX3_where 93 = .ok (.aload_n 0, 1) := by decide +kernel
theorem dX3_where_94 : decode cX3_where 94 = .ok (.getfield 36, 3) := by decide +kernel
theorem dX3_where_97 : decode cX3_where 97 = .ok (.iconst 0, 1) := by decide +kernel
theorem dX3_where_98 : decode cX3_where 98 = .ok (.bastore, 1) := by decide +kernel
theorem dX3_where_99 : decode cX3_where 99 = .ok (.aload_n 0, 1) := by decide +kernel
theorem dX3_where_100 : decode cX3_where 100 = .ok (.dup, 1) := by decide +kernel
theorem dX3_where_101 : decode cX3_where 101 = .ok (.getfield 36, 3) := by decide +kernel
theorem dX3_where_104 : decode cX3_where 104 = .ok (.iconst 1, 1) := by decide +kernel
theorem dX3_where_105 : decode cX3_where 105 = .ok (.iadd, 1) := by decide +kernel
theorem dX3_where_106 : decode cX3_where 106 = .ok (.putfield 36, 3) := by decide +kernel
theorem dX3_where_109 : decode cX3_where 109 = .ok (.iinc 5 1, 3) := by decide +kernel
theorem dX3_where_112 : decode cX3_where 112 = .ok (.goto (-94), 3) := by decide +kernel
theorem dX3_where_115 : decode cX3_where 115 = .ok (.lload_n 3, 1) := by decide +kernel
theorem dX3_where_116 : decode cX3_where 116 = .ok (.lreturn, 1) := by decide +kernel
def f_X3_where_109 (F P : Nat) (S : xSt) (rec_18 : Nat → Nat → Nat → Int64 → Int32 → xDt → Option (Int64 × xDt)) (v0 : Nat) (v1 : Nat) (v2 : Nat) (v3 : Int64) (v5 : Int32) (D : xDt) : Option (Int64 × xDt) :=
  xlet (v5 + 1) fun v5_1 => rec_18 v0 v1 v2 v3 v5_1 D
set_option maxHeartbeats 4000000 in
theorem t_X3_where_109 {F P : Nat} {S : xSt} (hS : xWF S) {rec_18 : Nat → Nat → Nat → Int64 → Int32 → xDt → Option (Int64 × xDt)} (hrec_18 : ∀ {v0 : Nat} {v1 : Nat} {v2 : Nat} {v3 : Int64} {v5 : Int32} {D : xDt} {r : Int64 × xDt}, xK S v0 3 → xK S v1 2 → xK S v2 10 → rec_18 v0 v1 v2 v3 v5 D = some r → yEx md_X3_where 4 18 [(0, .ref v0), (1, .ref v1), (2, .ref v2), (3, .long v3), (5, .int v5)] [] S D (xQl S r)) {v0 : Nat} {v1 : Nat} {v2 : Nat} {v3 : Int64} {v5 : Int32} {D : xDt} {r : Int64 × xDt} (k0 : xK S v0 3) (k1 : xK S v1 2) (k2 : xK S v2 10) (h : f_X3_where_109 F P S rec_18 v0 v1 v2 v3 v5 D = some r) : yEx md_X3_where 4 109 [(0, .ref v0), (1, .ref v1), (2, .ref v2), (3, .long v3), (5, .int v5)] [] S D (xQl S r) := by
  unfold f_X3_where_109 at h
  refine xlet_e h (fun v5_1 ev5_1 h => ?_)
  refine y_iinc v5_1 ev5_1 (by decide) [(5, .int v5_1), (0, .ref v0), (1, .ref v1), (2, .ref v2), (3, .long v3)] dX3_where_109 4 rfl (by show _ < 7; decide) rfl ?_
  refine x_goto 18 dX3_where_112 (by decide) ?_
  refine x_lv (lv' := [(0, .ref v0), (1, .ref v1), (2, .ref v2), (3, .long v3), (5, .int v5_1)]) [1, 2, 3, 4, 0] rfl ?_
  exact hrec_18 k0 k1 k2 h

def f_X3_where_18s (F P : Nat) (S : xSt) (rec_18 : Nat → Nat → Nat → Int64 → Int32 → xDt → Option (Int64 × xDt)) (v0 : Nat) (v1 : Nat) (v2 : Nat) (v3 : Int64) (v5 : Int32) (D : xDt) : Option (Int64 × xDt) :=
  if (D.1 v1 1) ≤ v5 then (some (v3, D)) else (xgrd (xin v5 (xl S (xr S v1 0))) (xlet (D.1 (xr S v1 0) (v5).toNatClampNeg) fun v6_2 => (f_X11_signOf F P S v6_2 D).bind fun q3 => (f_X11_isLeaf F P S q3.1 q3.2).bind fun q4 => if q4.1 = 0 then (if (Int32.ofNat (xl S (xr S v0 0))) ≤ (q4.2.1 v0 4) then (f_X3_where_109 F P S rec_18 v0 v1 v2 v3 v5 q4.2) else (xgrd (xin (q4.2.1 v0 4) (xl S (xr S v0 0))) (xlet (xup q4.2.1 (xr S v0 0) (q4.2.1 v0 4).toNatClampNeg v6_2, q4.2.2) fun D6 => xgrd (xin (D6.1 v0 4) (xl S (xr S v0 1))) (xlet (xup D6.1 (xr S v0 1) (D6.1 v0 4).toNatClampNeg (0 &&& 1), D6.2) fun D8 => xlet (xup D8.1 v0 4 ((D8.1 v0 4) + 1), D8.2) fun D9 => f_X3_where_109 F P S rec_18 v0 v1 v2 v3 v5 D9)))) else ((f_X11_signOf F P S v6_2 q4.2).bind fun q10 => (f_X3_leaf F P S v0 q10.1 v2 q10.2).bind fun q11 => (f_X3_finish F P S v0 q11.1 v2 q11.2).bind fun q12 => f_X3_where_109 F P S rec_18 v0 v1 v2 q12.1 v5 q12.2)))
def f_X3_where_18 (F P : Nat) (S : xSt) : Nat → Nat → Nat → Nat → Int64 → Int32 → xDt → Option (Int64 × xDt)
  | 0 => fun _ _ _ _ _ _ => none
  | n + 1 => f_X3_where_18s F P S (f_X3_where_18 F P S n)
set_option maxHeartbeats 4000000 in
theorem t_X3_where_18s {F P : Nat} {S : xSt} (hS : xWF S) {rec_18 : Nat → Nat → Nat → Int64 → Int32 → xDt → Option (Int64 × xDt)} (hrec_18 : ∀ {v0 : Nat} {v1 : Nat} {v2 : Nat} {v3 : Int64} {v5 : Int32} {D : xDt} {r : Int64 × xDt}, xK S v0 3 → xK S v1 2 → xK S v2 10 → rec_18 v0 v1 v2 v3 v5 D = some r → yEx md_X3_where 4 18 [(0, .ref v0), (1, .ref v1), (2, .ref v2), (3, .long v3), (5, .int v5)] [] S D (xQl S r)) {v0 : Nat} {v1 : Nat} {v2 : Nat} {v3 : Int64} {v5 : Int32} {D : xDt} {r : Int64 × xDt} (k0 : xK S v0 3) (k1 : xK S v1 2) (k2 : xK S v2 10) (h : f_X3_where_18s F P S rec_18 v0 v1 v2 v3 v5 D = some r) : yEx md_X3_where 4 18 [(0, .ref v0), (1, .ref v1), (2, .ref v2), (3, .long v3), (5, .int v5)] [] S D (xQl S r) := by
  unfold f_X3_where_18s at h
  refine x_iload dX3_where_18 4 rfl ?_
  refine x_aload_n dX3_where_20 1 rfl ?_
  refine y_geti fl_RX3_40 dX3_where_21 rfl k1 ?_
  refine x_icmp_ge 115 dX3_where_24 (by decide) (fun c => ?_) (fun c => ?_)
  · rw [if_pos c] at h
    refine x_lload_n dX3_where_115 3 rfl ?_
    obtain rfl := Option.some.inj h
    exact y_lret rfl dX3_where_116
  · rw [if_neg c] at h
    refine x_aload_n dX3_where_27 1 rfl ?_
    refine y_getr (kd := 100) hS fl_RX3_45 dX3_where_28 rfl k1 ?_
    refine x_iload dX3_where_31 4 rfl ?_
    refine xgrd_e h (fun g1 h => ?_)
    refine y_iald dX3_where_33 ((hS.f k1 0 100 rfl).2) g1 ?_
    refine xlet_e h (fun v6_2 ev6_2 h => ?_)
    refine y_istore v6_2 ev6_2 [(6, .int v6_2), (0, .ref v0), (1, .ref v1), (2, .ref v2), (3, .long v3), (5, .int v5)] dX3_where_34 (by show _ < 7; decide) rfl ?_
    refine x_iload dX3_where_36 0 rfl ?_
    refine xbnd_e h (fun q3 e3 h => ?_)
    refine y_callNi (As := [.int v6_2]) (q := q3) cn_RX3_48 dX3_where_38 rfl (Nat.le_of_ble_eq_true rfl) (by omega) (S_X11_signOf hS e3) ?_
    refine xbnd_e h (fun q4 e4 h => ?_)
    refine y_callNi (As := [.int q3.1]) (q := q4) cn_RX3_52 dX3_where_41 rfl (Nat.le_of_ble_eq_true rfl) (by omega) (S_X11_isLeaf hS e4) ?_
    refine x_if_eq 66 dX3_where_44 (by decide) (fun c => ?_) (fun c => ?_)
    · rw [if_pos c] at h
      refine x_aload_n dX3_where_66 1 rfl ?_
      refine y_geti fl_RX3_36 dX3_where_67 rfl k0 ?_
      refine x_aload_n dX3_where_70 1 rfl ?_
      refine y_getr (kd := 100) hS fl_RX3_9 dX3_where_71 rfl k0 ?_
      refine y_alen dX3_where_74 ((hS.f k0 0 100 rfl).2) (by decide) ?_
      refine x_icmp_ge 109 dX3_where_75 (by decide) (fun c => ?_) (fun c => ?_)
      · rw [if_pos c] at h
        refine x_lv (lv' := [(0, .ref v0), (1, .ref v1), (2, .ref v2), (3, .long v3), (5, .int v5)]) [1, 2, 3, 4, 5] rfl ?_
        exact t_X3_where_109 hS hrec_18 k0 k1 k2 h
      · rw [if_neg c] at h
        refine x_aload_n dX3_where_78 1 rfl ?_
        refine y_getr (kd := 100) hS fl_RX3_9 dX3_where_79 rfl k0 ?_
        refine x_aload_n dX3_where_82 1 rfl ?_
        refine y_geti fl_RX3_36 dX3_where_83 rfl k0 ?_
        refine x_iload dX3_where_86 0 rfl ?_
        refine xgrd_e h (fun g5 h => ?_)
        refine xlet_e h (fun D6 eD6 h => ?_)
        refine y_iast dX3_where_88 ((hS.f k0 0 100 rfl).2) g5 eD6 ?_
        refine x_aload_n dX3_where_89 1 rfl ?_
        refine y_getr (kd := 104) hS fl_RX3_15 dX3_where_90 rfl k0 ?_
        refine x_aload_n dX3_where_93 1 rfl ?_
        refine y_geti fl_RX3_36 dX3_where_94 rfl k0 ?_
        refine x_iconst 0 dX3_where_97 (by decide) ?_
        refine xgrd_e h (fun g7 h => ?_)
        refine xlet_e h (fun D8 eD8 h => ?_)
        refine y_zast dX3_where_98 ((hS.f k0 1 104 rfl).2) g7 eD8 ?_
        refine x_aload_n dX3_where_99 1 rfl ?_
        refine x_dup dX3_where_100 rfl ?_
        refine y_geti fl_RX3_36 dX3_where_101 rfl k0 ?_
        refine x_iconst 1 dX3_where_104 (by decide) ?_
        refine x_iadd dX3_where_105 ?_
        refine xlet_e h (fun D9 eD9 h => ?_)
        refine y_puti fp_RX3_36 dX3_where_106 rfl k0 eD9 ?_
        refine x_lv (lv' := [(0, .ref v0), (1, .ref v1), (2, .ref v2), (3, .long v3), (5, .int v5)]) [1, 2, 3, 4, 5] rfl ?_
        exact t_X3_where_109 hS hrec_18 k0 k1 k2 h
    · rw [if_neg c] at h
      refine x_aload_n dX3_where_47 1 rfl ?_
      refine x_aload_n dX3_where_48 1 rfl ?_
      refine x_iload dX3_where_49 0 rfl ?_
      refine xbnd_e h (fun q10 e10 h => ?_)
      refine y_callNi (As := [.int v6_2]) (q := q10) cn_RX3_48 dX3_where_51 rfl (Nat.le_of_ble_eq_true rfl) (by omega) (S_X11_signOf hS e10) ?_
      refine x_aload_n dX3_where_54 3 rfl ?_
      refine xbnd_e h (fun q11 e11 h => ?_)
      refine y_callVl (As := [.int q10.1, .ref v2]) (q := q11) cv_RX3_56 dX3_where_55 k0 rfl (Nat.le_of_ble_eq_true rfl) (by omega) (S_X3_leaf hS k0 k2 e11) ?_
      refine x_aload_n dX3_where_58 3 rfl ?_
      refine xbnd_e h (fun q12 e12 h => ?_)
      refine y_callVl (As := [.long q11.1, .ref v2]) (q := q12) cv_RX3_60 dX3_where_59 k0 rfl (Nat.le_of_ble_eq_true rfl) (by omega) (S_X3_finish hS k0 k2 e12) ?_
      refine y_lstore_n q12.1 rfl [(3, .long q12.1), (6, .int v6_2), (0, .ref v0), (1, .ref v1), (2, .ref v2), (5, .int v5)] dX3_where_62 (by show _ < 7; decide) rfl ?_
      refine x_goto 109 dX3_where_63 (by decide) ?_
      refine x_lv (lv' := [(0, .ref v0), (1, .ref v1), (2, .ref v2), (3, .long q12.1), (5, .int v5)]) [2, 3, 4, 0, 5] rfl ?_
      exact t_X3_where_109 hS hrec_18 k0 k1 k2 h
theorem t_X3_where_18 {F P : Nat} {S : xSt} (hS : xWF S) : ∀ (n : Nat) {v0 : Nat} {v1 : Nat} {v2 : Nat} {v3 : Int64} {v5 : Int32} {D : xDt} {r : Int64 × xDt}, xK S v0 3 → xK S v1 2 → xK S v2 10 → f_X3_where_18 F P S n v0 v1 v2 v3 v5 D = some r → yEx md_X3_where 4 18 [(0, .ref v0), (1, .ref v1), (2, .ref v2), (3, .long v3), (5, .int v5)] [] S D (xQl S r) := by
  intro n
  induction n with
  | zero => intros; rename_i h; cases h
  | succ n ih =>
    intro v0 v1 v2 v3 v5 D r k0 k1 k2 h
    exact t_X3_where_18s hS (fun k0 k1 k2 h => ih k0 k1 k2 h) k0 k1 k2 h

def f_X3_where (F P : Nat) (S : xSt) (v0 : Nat) (v1 : Nat) (v2 : Nat) (D : xDt) : Option (Int64 × xDt) :=
  (f_X10_all F P S v2 D).bind fun q1 => xlet (q1.2.1, xup q1.2.2 v0 5 q1.1) fun D2 => xlet (xup D2.1 v0 4 0, D2.2) fun D3 => f_X3_where_18 F P S F v0 v1 v2 0 0 D3
set_option maxHeartbeats 4000000 in
theorem S_X3_where {F P : Nat} {S : xSt} (hS : xWF S) {v0 : Nat} {v1 : Nat} {v2 : Nat} {D : xDt} {r : Int64 × xDt} (k0 : xK S v0 3) (k1 : xK S v1 2) (k2 : xK S v2 10) (h : f_X3_where F P S v0 v1 v2 D = some r) : xSp md_X3_where (4, 0, 0) [.ref v0, .ref v1, .ref v2] (S, D) (xQl S r) := by
  unfold f_X3_where at h
  refine xEntry (by decide) (Nat.le_of_ble_eq_true rfl) ?_
  refine x_lv (lv' := [(0, .ref v0), (1, .ref v1), (2, .ref v2)]) [0, 1, 2] rfl ?_
  refine x_aload_n dX3_where_0 0 rfl ?_
  refine x_aload_n dX3_where_1 2 rfl ?_
  refine xbnd_e h (fun q1 e1 h => ?_)
  refine y_callVl (As := []) (q := q1) cv_RX3_26 dX3_where_2 k2 rfl (Nat.le_of_ble_eq_true rfl) (by omega) (S_X10_all hS k2 e1) ?_
  refine xlet_e h (fun D2 eD2 h => ?_)
  refine y_putl fp_RX3_32 dX3_where_5 rfl k0 eD2 ?_
  refine x_aload_n dX3_where_8 0 rfl ?_
  refine x_iconst 0 dX3_where_9 (by decide) ?_
  refine xlet_e h (fun D3 eD3 h => ?_)
  refine y_puti fp_RX3_36 dX3_where_10 rfl k0 eD3 ?_
  refine x_lconst 0 dX3_where_13 (by decide) ?_
  refine y_lstore_n 0 rfl [(3, .long 0), (0, .ref v0), (1, .ref v1), (2, .ref v2)] dX3_where_14 (by show _ < 7; decide) rfl ?_
  refine x_iconst 0 dX3_where_15 (by decide) ?_
  refine y_istore 0 rfl [(5, .int 0), (3, .long 0), (0, .ref v0), (1, .ref v1), (2, .ref v2)] dX3_where_16 (by show _ < 7; decide) rfl ?_
  refine x_lv (lv' := [(0, .ref v0), (1, .ref v1), (2, .ref v2), (3, .long 0), (5, .int 0)]) [2, 3, 4, 1, 0] rfl ?_
  exact t_X3_where_18 hS F k0 k1 k2 h

theorem dX1_pair_0 : decode cX1_pair 0 = .ok (.iconst 0, 1) := by decide +kernel
theorem dX1_pair_1 : decode cX1_pair 1 = .ok (.istore_n 3, 1) := by decide +kernel
theorem dX1_pair_2 : decode cX1_pair 2 = .ok (.iload_n 3, 1) := by decide +kernel
theorem dX1_pair_3 : decode cX1_pair 3 = .ok (.aload_n 0, 1) := by decide +kernel
theorem dX1_pair_4 : decode cX1_pair 4 = .ok (.getfield 34, 3) := by decide +kernel
theorem dX1_pair_7 : decode cX1_pair 7 = .ok (.if_icmp .ge 29, 3) := by decide +kernel
theorem dX1_pair_10 : decode cX1_pair 10 = .ok (.aload_n 0, 1) := by decide +kernel
theorem dX1_pair_11 : decode cX1_pair 11 = .ok (.getfield 21, 3) := by decide +kernel
theorem dX1_pair_14 : decode cX1_pair 14 = .ok (.iload_n 3, 1) := by decide +kernel
theorem dX1_pair_15 : decode cX1_pair 15 = .ok (.aload_n 2, 1) := by decide +kernel
theorem dX1_pair_16 : decode cX1_pair 16 = .ok (.aload_n 0, 1) := by decide +kernel
theorem dX1_pair_17 : decode cX1_pair 17 = .ok (.getfield 13, 3) := by decide +kernel
theorem dX1_pair_20 : decode cX1_pair 20 = .ok (.iload_n 3, 1) := by decide +kernel
theorem dX1_pair_21 : decode cX1_pair 21 = .ok (.bipush 9, 2) := by decide +kernel
theorem dX1_pair_23 : decode cX1_pair 23 = .ok (.imul, 1) := by decide +kernel
theorem dX1_pair_24 : decode cX1_pair 24 = .ok (.aaload, 1) := by decide +kernel
theorem dX1_pair_25 : decode cX1_pair 25 = .ok (.aload_n 1, 1) := by decide +kernel
theorem dX1_pair_26 : decode cX1_pair 26 = .ok (.invokevirtual 49, 3) := by decide +kernel
theorem dX1_pair_29 : decode cX1_pair 29 = .ok (.lastore, 1) := by decide +kernel
theorem dX1_pair_30 : decode cX1_pair 30 = .ok (.iinc 3 1, 3) := by decide +kernel
theorem dX1_pair_33 : decode cX1_pair 33 = .ok (.goto (-31), 3) := by decide +kernel
theorem dX1_pair_36 : decode cX1_pair 36 = .ok (.iconst 0, 1) := by decide +kernel
theorem dX1_pair_37 : decode cX1_pair 37 = .ok (.istore_n 3, 1) := by decide +kernel
theorem dX1_pair_38 : decode cX1_pair 38 = .ok (.iconst 0, 1) := by decide +kernel
theorem dX1_pair_39 : decode cX1_pair 39 = .ok (.istore 4, 2) := by decide +kernel
theorem dX1_pair_41 : decode cX1_pair 41 = .ok (.iload 4, 2) := by decide +kernel
theorem dX1_pair_43 : decode cX1_pair 43 = .ok (.aload_n 1, 1) := by decide +kernel
theorem dX1_pair_44 : decode cX1_pair 44 = .ok (.getfield 54, 3) := by decide +kernel
theorem dX1_pair_47 : decode cX1_pair 47 = .ok (.if_icmp .ge 69, 3) := by decide +kernel
theorem dX1_pair_50 : decode cX1_pair 50 = .ok (.iconst 0, 1) := by decide +kernel
theorem dX1_pair_51 : decode cX1_pair 51 = .ok (.istore 5, 2) := by decide +kernel
theorem dX1_pair_53 : decode cX1_pair 53 = .ok (.iload 5, 2) := by decide +kernel
theorem dX1_pair_55 : decode cX1_pair 55 = .ok (.aload_n 0, 1) := by decide +kernel
theorem dX1_pair_56 : decode cX1_pair 56 = .ok (.getfield 34, 3) := by decide +kernel
theorem dX1_pair_59 : decode cX1_pair 59 = .ok (.if_icmp .ge 51, 3) := by decide +kernel
theorem dX1_pair_62 : decode cX1_pair 62 = .ok (.aload_n 0, 1) := by decide +kernel
theorem dX1_pair_63 : decode cX1_pair 63 = .ok (.getfield 21, 3) := by decide +kernel
theorem dX1_pair_66 : decode cX1_pair 66 = .ok (.iload 5, 2) := by decide +kernel
theorem dX1_pair_68 : decode cX1_pair 68 = .ok (.laload, 1) := by decide +kernel
theorem dX1_pair_69 : decode cX1_pair 69 = .ok (.iload 4, 2) := by decide +kernel
theorem dX1_pair_71 : decode cX1_pair 71 = .ok (.lushr, 1) := by decide +kernel
theorem dX1_pair_72 : decode cX1_pair 72 = .ok (.lconst 1, 1) := by decide +kernel
theorem dX1_pair_73 : decode cX1_pair 73 = .ok (.land, 1) := by decide +kernel
theorem dX1_pair_74 : decode cX1_pair 74 = .ok (.lconst 0, 1) := by decide +kernel
theorem dX1_pair_75 : decode cX1_pair 75 = .ok (.lcmp, 1) := by decide +kernel
theorem dX1_pair_76 : decode cX1_pair 76 = .ok (.ifCond .eq 28, 3) := by decide +kernel
theorem dX1_pair_79 : decode cX1_pair 79 = .ok (.iload_n 3, 1) := by decide +kernel
theorem dX1_pair_80 : decode cX1_pair 80 = .ok (.bipush 64, 2) := by decide +kernel
theorem dX1_pair_82 : decode cX1_pair 82 = .ok (.if_icmp .ge 19, 3) := by decide +kernel
theorem dX1_pair_85 : decode cX1_pair 85 = .ok (.aload_n 0, 1) := by decide +kernel
theorem dX1_pair_86 : decode cX1_pair 86 = .ok (.getfield 25, 3) := by decide +kernel
theorem dX1_pair_89 : decode cX1_pair 89 = .ok (.iload_n 3, 1) := by decide +kernel
theorem dX1_pair_90 : decode cX1_pair 90 = .ok (.iload 4, 2) := by decide +kernel
theorem dX1_pair_92 : decode cX1_pair 92 = .ok (.iastore, 1) := by decide +kernel
theorem dX1_pair_93 : decode cX1_pair 93 = .ok (.aload_n 0, 1) := by decide +kernel
theorem dX1_pair_94 : decode cX1_pair 94 = .ok (.getfield 28, 3) := by decide +kernel
theorem dX1_pair_97 : decode cX1_pair 97 = .ok (.iload_n 3, 1) := by decide +kernel
theorem dX1_pair_98 : decode cX1_pair 98 = .ok (.iload 5, 2) := by decide +kernel
theorem dX1_pair_100 : decode cX1_pair 100 = .ok (.iastore, 1) := by decide +kernel
theorem dX1_pair_101 : decode cX1_pair 101 = .ok (.iinc 3 1, 3) := by decide +kernel
theorem dX1_pair_104 : decode cX1_pair 104 = .ok (.iinc 5 1, 3) := by decide +kernel
theorem dX1_pair_107 : decode cX1_pair 107 = .ok (.goto (-54), 3) := by decide +kernel
theorem dX1_pair_110 : decode cX1_pair 110 = .ok (.iinc 4 1, 3) := by decide +kernel
theorem dX1_pair_113 : decode cX1_pair 113 = .ok (.goto (-72), 3) := by decide +kernel
theorem dX1_pair_116 : decode cX1_pair 116 = .ok (.iload_n 3, 1) := by decide +kernel
theorem dX1_pair_117 : decode cX1_pair 117 = .ok (.ireturn, 1) := by decide +kernel
def f_X1_pair_104 (F P : Nat) (S : xSt) (rec_41 : Nat → Nat → Int32 → Int32 → xDt → Option (Int32 × xDt)) (rec_53 : Nat → Nat → Int32 → Int32 → Int32 → xDt → Option (Int32 × xDt)) (v0 : Nat) (v1 : Nat) (v3 : Int32) (v4 : Int32) (v5 : Int32) (D : xDt) : Option (Int32 × xDt) :=
  xlet (v5 + 1) fun v5_1 => rec_53 v0 v1 v3 v4 v5_1 D
set_option maxHeartbeats 4000000 in
theorem t_X1_pair_104 {F P : Nat} {S : xSt} (hS : xWF S) {rec_41 : Nat → Nat → Int32 → Int32 → xDt → Option (Int32 × xDt)} (hrec_41 : ∀ {v0 : Nat} {v1 : Nat} {v3 : Int32} {v4 : Int32} {D : xDt} {r : Int32 × xDt}, xK S v0 1 → xK S v1 10 → rec_41 v0 v1 v3 v4 D = some r → yEx md_X1_pair 5 41 [(0, .ref v0), (1, .ref v1), (3, .int v3), (4, .int v4)] [] S D (xQi S r)) {rec_53 : Nat → Nat → Int32 → Int32 → Int32 → xDt → Option (Int32 × xDt)} (hrec_53 : ∀ {v0 : Nat} {v1 : Nat} {v3 : Int32} {v4 : Int32} {v5 : Int32} {D : xDt} {r : Int32 × xDt}, xK S v0 1 → xK S v1 10 → rec_53 v0 v1 v3 v4 v5 D = some r → yEx md_X1_pair 5 53 [(0, .ref v0), (1, .ref v1), (3, .int v3), (4, .int v4), (5, .int v5)] [] S D (xQi S r)) {v0 : Nat} {v1 : Nat} {v3 : Int32} {v4 : Int32} {v5 : Int32} {D : xDt} {r : Int32 × xDt} (k0 : xK S v0 1) (k1 : xK S v1 10) (h : f_X1_pair_104 F P S rec_41 rec_53 v0 v1 v3 v4 v5 D = some r) : yEx md_X1_pair 5 104 [(0, .ref v0), (1, .ref v1), (3, .int v3), (4, .int v4), (5, .int v5)] [] S D (xQi S r) := by
  unfold f_X1_pair_104 at h
  refine xlet_e h (fun v5_1 ev5_1 h => ?_)
  refine y_iinc v5_1 ev5_1 (by decide) [(5, .int v5_1), (0, .ref v0), (1, .ref v1), (3, .int v3), (4, .int v4)] dX1_pair_104 4 rfl (by show _ < 6; decide) rfl ?_
  refine x_goto 53 dX1_pair_107 (by decide) ?_
  refine x_lv (lv' := [(0, .ref v0), (1, .ref v1), (3, .int v3), (4, .int v4), (5, .int v5_1)]) [1, 2, 3, 4, 0] rfl ?_
  exact hrec_53 k0 k1 h

def f_X1_pair_101 (F P : Nat) (S : xSt) (rec_41 : Nat → Nat → Int32 → Int32 → xDt → Option (Int32 × xDt)) (rec_53 : Nat → Nat → Int32 → Int32 → Int32 → xDt → Option (Int32 × xDt)) (v0 : Nat) (v1 : Nat) (v3 : Int32) (v4 : Int32) (v5 : Int32) (D : xDt) : Option (Int32 × xDt) :=
  xlet (v3 + 1) fun v3_1 => f_X1_pair_104 F P S rec_41 rec_53 v0 v1 v3_1 v4 v5 D
set_option maxHeartbeats 4000000 in
theorem t_X1_pair_101 {F P : Nat} {S : xSt} (hS : xWF S) {rec_41 : Nat → Nat → Int32 → Int32 → xDt → Option (Int32 × xDt)} (hrec_41 : ∀ {v0 : Nat} {v1 : Nat} {v3 : Int32} {v4 : Int32} {D : xDt} {r : Int32 × xDt}, xK S v0 1 → xK S v1 10 → rec_41 v0 v1 v3 v4 D = some r → yEx md_X1_pair 5 41 [(0, .ref v0), (1, .ref v1), (3, .int v3), (4, .int v4)] [] S D (xQi S r)) {rec_53 : Nat → Nat → Int32 → Int32 → Int32 → xDt → Option (Int32 × xDt)} (hrec_53 : ∀ {v0 : Nat} {v1 : Nat} {v3 : Int32} {v4 : Int32} {v5 : Int32} {D : xDt} {r : Int32 × xDt}, xK S v0 1 → xK S v1 10 → rec_53 v0 v1 v3 v4 v5 D = some r → yEx md_X1_pair 5 53 [(0, .ref v0), (1, .ref v1), (3, .int v3), (4, .int v4), (5, .int v5)] [] S D (xQi S r)) {v0 : Nat} {v1 : Nat} {v3 : Int32} {v4 : Int32} {v5 : Int32} {D : xDt} {r : Int32 × xDt} (k0 : xK S v0 1) (k1 : xK S v1 10) (h : f_X1_pair_101 F P S rec_41 rec_53 v0 v1 v3 v4 v5 D = some r) : yEx md_X1_pair 5 101 [(0, .ref v0), (1, .ref v1), (3, .int v3), (4, .int v4), (5, .int v5)] [] S D (xQi S r) := by
  unfold f_X1_pair_101 at h
  refine xlet_e h (fun v3_1 ev3_1 h => ?_)
  refine y_iinc v3_1 ev3_1 (by decide) [(3, .int v3_1), (0, .ref v0), (1, .ref v1), (4, .int v4), (5, .int v5)] dX1_pair_101 2 rfl (by show _ < 6; decide) rfl ?_
  refine x_lv (lv' := [(0, .ref v0), (1, .ref v1), (3, .int v3_1), (4, .int v4), (5, .int v5)]) [1, 2, 0, 3, 4] rfl ?_
  exact t_X1_pair_104 hS hrec_41 hrec_53 k0 k1 h

def f_X1_pair_53s (F P : Nat) (S : xSt) (rec_41 : Nat → Nat → Int32 → Int32 → xDt → Option (Int32 × xDt)) (rec_53 : Nat → Nat → Int32 → Int32 → Int32 → xDt → Option (Int32 × xDt)) (v0 : Nat) (v1 : Nat) (v3 : Int32) (v4 : Int32) (v5 : Int32) (D : xDt) : Option (Int32 × xDt) :=
  if (D.1 v0 0) ≤ v5 then (xlet (v4 + 1) fun v4_1 => rec_41 v0 v1 v3 v4_1 D) else (xgrd (xin v5 (xl S (xr S v0 3))) (if (lg_cmp ((jlushr (D.2 (xr S v0 3) (v5).toNatClampNeg) v4) &&& 1) 0) = 0 then (f_X1_pair_104 F P S rec_41 rec_53 v0 v1 v3 v4 v5 D) else (if 64 ≤ v3 then (f_X1_pair_101 F P S rec_41 rec_53 v0 v1 v3 v4 v5 D) else (xgrd (xin v3 (xl S (xr S v0 4))) (xlet (xup D.1 (xr S v0 4) (v3).toNatClampNeg v4, D.2) fun D4 => xgrd (xin v3 (xl S (xr S v0 5))) (xlet (xup D4.1 (xr S v0 5) (v3).toNatClampNeg v5, D4.2) fun D6 => f_X1_pair_101 F P S rec_41 rec_53 v0 v1 v3 v4 v5 D6))))))
def f_X1_pair_53 (F P : Nat) (S : xSt) (rec_41 : Nat → Nat → Int32 → Int32 → xDt → Option (Int32 × xDt)) : Nat → Nat → Nat → Int32 → Int32 → Int32 → xDt → Option (Int32 × xDt)
  | 0 => fun _ _ _ _ _ _ => none
  | n + 1 => f_X1_pair_53s F P S rec_41 (f_X1_pair_53 F P S rec_41 n)
set_option maxHeartbeats 4000000 in
theorem t_X1_pair_53s {F P : Nat} {S : xSt} (hS : xWF S) {rec_41 : Nat → Nat → Int32 → Int32 → xDt → Option (Int32 × xDt)} (hrec_41 : ∀ {v0 : Nat} {v1 : Nat} {v3 : Int32} {v4 : Int32} {D : xDt} {r : Int32 × xDt}, xK S v0 1 → xK S v1 10 → rec_41 v0 v1 v3 v4 D = some r → yEx md_X1_pair 5 41 [(0, .ref v0), (1, .ref v1), (3, .int v3), (4, .int v4)] [] S D (xQi S r)) {rec_53 : Nat → Nat → Int32 → Int32 → Int32 → xDt → Option (Int32 × xDt)} (hrec_53 : ∀ {v0 : Nat} {v1 : Nat} {v3 : Int32} {v4 : Int32} {v5 : Int32} {D : xDt} {r : Int32 × xDt}, xK S v0 1 → xK S v1 10 → rec_53 v0 v1 v3 v4 v5 D = some r → yEx md_X1_pair 5 53 [(0, .ref v0), (1, .ref v1), (3, .int v3), (4, .int v4), (5, .int v5)] [] S D (xQi S r)) {v0 : Nat} {v1 : Nat} {v3 : Int32} {v4 : Int32} {v5 : Int32} {D : xDt} {r : Int32 × xDt} (k0 : xK S v0 1) (k1 : xK S v1 10) (h : f_X1_pair_53s F P S rec_41 rec_53 v0 v1 v3 v4 v5 D = some r) : yEx md_X1_pair 5 53 [(0, .ref v0), (1, .ref v1), (3, .int v3), (4, .int v4), (5, .int v5)] [] S D (xQi S r) := by
  unfold f_X1_pair_53s at h
  refine x_iload dX1_pair_53 4 rfl ?_
  refine x_aload_n dX1_pair_55 0 rfl ?_
  refine y_geti fl_RX1_34 dX1_pair_56 rfl k0 ?_
  refine x_icmp_ge 110 dX1_pair_59 (by decide) (fun c => ?_) (fun c => ?_)
  · rw [if_pos c] at h
    refine xlet_e h (fun v4_1 ev4_1 h => ?_)
    refine y_iinc v4_1 ev4_1 (by decide) [(4, .int v4_1), (0, .ref v0), (1, .ref v1), (3, .int v3), (5, .int v5)] dX1_pair_110 3 rfl (by show _ < 6; decide) rfl ?_
    refine x_goto 41 dX1_pair_113 (by decide) ?_
    refine x_lv (lv' := [(0, .ref v0), (1, .ref v1), (3, .int v3), (4, .int v4_1)]) [1, 2, 3, 0] rfl ?_
    exact hrec_41 k0 k1 h
  · rw [if_neg c] at h
    refine x_aload_n dX1_pair_62 0 rfl ?_
    refine y_getr (kd := 101) hS fl_RX1_21 dX1_pair_63 rfl k0 ?_
    refine x_iload dX1_pair_66 4 rfl ?_
    refine xgrd_e h (fun g2 h => ?_)
    refine y_lald dX1_pair_68 ((hS.f k0 3 101 rfl).2) g2 ?_
    refine x_iload dX1_pair_69 3 rfl ?_
    refine x_lushr dX1_pair_71 ?_
    refine x_lconst 1 dX1_pair_72 (by decide) ?_
    refine x_land dX1_pair_73 ?_
    refine x_lconst 0 dX1_pair_74 (by decide) ?_
    refine x_lcmp dX1_pair_75 ?_
    refine x_if_eq 104 dX1_pair_76 (by decide) (fun c => ?_) (fun c => ?_)
    · rw [if_pos c] at h
      exact t_X1_pair_104 hS hrec_41 hrec_53 k0 k1 h
    · rw [if_neg c] at h
      refine x_iload_n dX1_pair_79 2 rfl ?_
      refine x_bipush 64 dX1_pair_80 (by decide) ?_
      refine x_icmp_ge 101 dX1_pair_82 (by decide) (fun c => ?_) (fun c => ?_)
      · rw [if_pos c] at h
        exact t_X1_pair_101 hS hrec_41 hrec_53 k0 k1 h
      · rw [if_neg c] at h
        refine x_aload_n dX1_pair_85 0 rfl ?_
        refine y_getr (kd := 100) hS fl_RX1_25 dX1_pair_86 rfl k0 ?_
        refine x_iload_n dX1_pair_89 2 rfl ?_
        refine x_iload dX1_pair_90 3 rfl ?_
        refine xgrd_e h (fun g3 h => ?_)
        refine xlet_e h (fun D4 eD4 h => ?_)
        refine y_iast dX1_pair_92 ((hS.f k0 4 100 rfl).2) g3 eD4 ?_
        refine x_aload_n dX1_pair_93 0 rfl ?_
        refine y_getr (kd := 100) hS fl_RX1_28 dX1_pair_94 rfl k0 ?_
        refine x_iload_n dX1_pair_97 2 rfl ?_
        refine x_iload dX1_pair_98 4 rfl ?_
        refine xgrd_e h (fun g5 h => ?_)
        refine xlet_e h (fun D6 eD6 h => ?_)
        refine y_iast dX1_pair_100 ((hS.f k0 5 100 rfl).2) g5 eD6 ?_
        exact t_X1_pair_101 hS hrec_41 hrec_53 k0 k1 h
theorem t_X1_pair_53 {F P : Nat} {S : xSt} (hS : xWF S) {rec_41 : Nat → Nat → Int32 → Int32 → xDt → Option (Int32 × xDt)} (hrec_41 : ∀ {v0 : Nat} {v1 : Nat} {v3 : Int32} {v4 : Int32} {D : xDt} {r : Int32 × xDt}, xK S v0 1 → xK S v1 10 → rec_41 v0 v1 v3 v4 D = some r → yEx md_X1_pair 5 41 [(0, .ref v0), (1, .ref v1), (3, .int v3), (4, .int v4)] [] S D (xQi S r)) : ∀ (n : Nat) {v0 : Nat} {v1 : Nat} {v3 : Int32} {v4 : Int32} {v5 : Int32} {D : xDt} {r : Int32 × xDt}, xK S v0 1 → xK S v1 10 → f_X1_pair_53 F P S rec_41 n v0 v1 v3 v4 v5 D = some r → yEx md_X1_pair 5 53 [(0, .ref v0), (1, .ref v1), (3, .int v3), (4, .int v4), (5, .int v5)] [] S D (xQi S r) := by
  intro n
  induction n with
  | zero => intros; rename_i h; cases h
  | succ n ih =>
    intro v0 v1 v3 v4 v5 D r k0 k1 h
    exact t_X1_pair_53s hS hrec_41 (fun k0 k1 h => ih k0 k1 h) k0 k1 h

def f_X1_pair_41s (F P : Nat) (S : xSt) (rec_41 : Nat → Nat → Int32 → Int32 → xDt → Option (Int32 × xDt)) (v0 : Nat) (v1 : Nat) (v3 : Int32) (v4 : Int32) (D : xDt) : Option (Int32 × xDt) :=
  if (D.1 v1 0) ≤ v4 then (some (v3, D)) else (f_X1_pair_53 F P S rec_41 F v0 v1 v3 v4 0 D)
def f_X1_pair_41 (F P : Nat) (S : xSt) : Nat → Nat → Nat → Int32 → Int32 → xDt → Option (Int32 × xDt)
  | 0 => fun _ _ _ _ _ => none
  | n + 1 => f_X1_pair_41s F P S (f_X1_pair_41 F P S n)
set_option maxHeartbeats 4000000 in
theorem t_X1_pair_41s {F P : Nat} {S : xSt} (hS : xWF S) {rec_41 : Nat → Nat → Int32 → Int32 → xDt → Option (Int32 × xDt)} (hrec_41 : ∀ {v0 : Nat} {v1 : Nat} {v3 : Int32} {v4 : Int32} {D : xDt} {r : Int32 × xDt}, xK S v0 1 → xK S v1 10 → rec_41 v0 v1 v3 v4 D = some r → yEx md_X1_pair 5 41 [(0, .ref v0), (1, .ref v1), (3, .int v3), (4, .int v4)] [] S D (xQi S r)) {v0 : Nat} {v1 : Nat} {v3 : Int32} {v4 : Int32} {D : xDt} {r : Int32 × xDt} (k0 : xK S v0 1) (k1 : xK S v1 10) (h : f_X1_pair_41s F P S rec_41 v0 v1 v3 v4 D = some r) : yEx md_X1_pair 5 41 [(0, .ref v0), (1, .ref v1), (3, .int v3), (4, .int v4)] [] S D (xQi S r) := by
  unfold f_X1_pair_41s at h
  refine x_iload dX1_pair_41 3 rfl ?_
  refine x_aload_n dX1_pair_43 1 rfl ?_
  refine y_geti fl_RX1_54 dX1_pair_44 rfl k1 ?_
  refine x_icmp_ge 116 dX1_pair_47 (by decide) (fun c => ?_) (fun c => ?_)
  · rw [if_pos c] at h
    refine x_iload_n dX1_pair_116 2 rfl ?_
    obtain rfl := Option.some.inj h
    exact y_iret rfl dX1_pair_117
  · rw [if_neg c] at h
    refine x_iconst 0 dX1_pair_50 (by decide) ?_
    refine y_istore 0 rfl [(5, .int 0), (0, .ref v0), (1, .ref v1), (3, .int v3), (4, .int v4)] dX1_pair_51 (by show _ < 6; decide) rfl ?_
    refine x_lv (lv' := [(0, .ref v0), (1, .ref v1), (3, .int v3), (4, .int v4), (5, .int 0)]) [1, 2, 3, 4, 0] rfl ?_
    exact t_X1_pair_53 hS hrec_41 F k0 k1 h
theorem t_X1_pair_41 {F P : Nat} {S : xSt} (hS : xWF S) : ∀ (n : Nat) {v0 : Nat} {v1 : Nat} {v3 : Int32} {v4 : Int32} {D : xDt} {r : Int32 × xDt}, xK S v0 1 → xK S v1 10 → f_X1_pair_41 F P S n v0 v1 v3 v4 D = some r → yEx md_X1_pair 5 41 [(0, .ref v0), (1, .ref v1), (3, .int v3), (4, .int v4)] [] S D (xQi S r) := by
  intro n
  induction n with
  | zero => intros; rename_i h; cases h
  | succ n ih =>
    intro v0 v1 v3 v4 D r k0 k1 h
    exact t_X1_pair_41s hS (fun k0 k1 h => ih k0 k1 h) k0 k1 h

def f_X1_pair_2s (F P : Nat) (S : xSt) (rec_2 : Nat → Nat → Nat → Int32 → xDt → Option (Int32 × xDt)) (v0 : Nat) (v1 : Nat) (v2 : Nat) (v3 : Int32) (D : xDt) : Option (Int32 × xDt) :=
  if (D.1 v0 0) ≤ v3 then (f_X1_pair_41 F P S F v0 v1 0 0 D) else (xgrd (xin (v3 * 9) (xl S (xr S v0 1))) ((f_X3_where F P S v2 (xr S (xr S v0 1) (v3 * 9).toNatClampNeg) v1 D).bind fun q2 => xgrd (xin v3 (xl S (xr S v0 3))) (xlet (q2.2.1, xup q2.2.2 (xr S v0 3) (v3).toNatClampNeg q2.1) fun D4 => xlet (v3 + 1) fun v3_5 => rec_2 v0 v1 v2 v3_5 D4)))
def f_X1_pair_2 (F P : Nat) (S : xSt) : Nat → Nat → Nat → Nat → Int32 → xDt → Option (Int32 × xDt)
  | 0 => fun _ _ _ _ _ => none
  | n + 1 => f_X1_pair_2s F P S (f_X1_pair_2 F P S n)
set_option maxHeartbeats 4000000 in
theorem t_X1_pair_2s {F P : Nat} {S : xSt} (hS : xWF S) {rec_2 : Nat → Nat → Nat → Int32 → xDt → Option (Int32 × xDt)} (hrec_2 : ∀ {v0 : Nat} {v1 : Nat} {v2 : Nat} {v3 : Int32} {D : xDt} {r : Int32 × xDt}, xK S v0 1 → xK S v1 10 → xK S v2 3 → rec_2 v0 v1 v2 v3 D = some r → yEx md_X1_pair 5 2 [(0, .ref v0), (1, .ref v1), (2, .ref v2), (3, .int v3)] [] S D (xQi S r)) {v0 : Nat} {v1 : Nat} {v2 : Nat} {v3 : Int32} {D : xDt} {r : Int32 × xDt} (k0 : xK S v0 1) (k1 : xK S v1 10) (k2 : xK S v2 3) (h : f_X1_pair_2s F P S rec_2 v0 v1 v2 v3 D = some r) : yEx md_X1_pair 5 2 [(0, .ref v0), (1, .ref v1), (2, .ref v2), (3, .int v3)] [] S D (xQi S r) := by
  unfold f_X1_pair_2s at h
  refine x_iload_n dX1_pair_2 3 rfl ?_
  refine x_aload_n dX1_pair_3 0 rfl ?_
  refine y_geti fl_RX1_34 dX1_pair_4 rfl k0 ?_
  refine x_icmp_ge 36 dX1_pair_7 (by decide) (fun c => ?_) (fun c => ?_)
  · rw [if_pos c] at h
    refine x_iconst 0 dX1_pair_36 (by decide) ?_
    refine y_istore_n 0 rfl [(3, .int 0), (0, .ref v0), (1, .ref v1), (2, .ref v2)] dX1_pair_37 (by show _ < 6; decide) rfl ?_
    refine x_iconst 0 dX1_pair_38 (by decide) ?_
    refine y_istore 0 rfl [(4, .int 0), (3, .int 0), (0, .ref v0), (1, .ref v1), (2, .ref v2)] dX1_pair_39 (by show _ < 6; decide) rfl ?_
    refine x_lv (lv' := [(0, .ref v0), (1, .ref v1), (3, .int 0), (4, .int 0)]) [2, 3, 1, 0] rfl ?_
    exact t_X1_pair_41 hS F k0 k1 h
  · rw [if_neg c] at h
    refine x_aload_n dX1_pair_10 0 rfl ?_
    refine y_getr (kd := 101) hS fl_RX1_21 dX1_pair_11 rfl k0 ?_
    refine x_iload_n dX1_pair_14 3 rfl ?_
    refine x_aload_n dX1_pair_15 2 rfl ?_
    refine x_aload_n dX1_pair_16 0 rfl ?_
    refine y_getr (kd := 202) hS fl_RX1_13 dX1_pair_17 rfl k0 ?_
    refine x_iload_n dX1_pair_20 3 rfl ?_
    refine x_bipush 9 dX1_pair_21 (by decide) ?_
    refine x_imul dX1_pair_23 ?_
    refine xgrd_e h (fun g1 h => ?_)
    refine y_aald hS dX1_pair_24 ((hS.f k0 1 202 rfl).2) (by decide) g1 ?_
    refine x_aload_n dX1_pair_25 1 rfl ?_
    refine xbnd_e h (fun q2 e2 h => ?_)
    refine y_callVl (As := [.ref (xr S (xr S v0 1) (v3 * 9).toNatClampNeg), .ref v1]) (q := q2) cv_RX1_49 dX1_pair_26 k2 rfl (Nat.le_of_ble_eq_true rfl) (by omega) (S_X3_where hS k2 ((hS.e ((hS.f k0 1 202 rfl).2) (by decide) (xin_lt g1)).2) k1 e2) ?_
    refine xgrd_e h (fun g3 h => ?_)
    refine xlet_e h (fun D4 eD4 h => ?_)
    refine y_last dX1_pair_29 ((hS.f k0 3 101 rfl).2) g3 eD4 ?_
    refine xlet_e h (fun v3_5 ev3_5 h => ?_)
    refine y_iinc v3_5 ev3_5 (by decide) [(3, .int v3_5), (0, .ref v0), (1, .ref v1), (2, .ref v2)] dX1_pair_30 3 rfl (by show _ < 6; decide) rfl ?_
    refine x_goto 2 dX1_pair_33 (by decide) ?_
    refine x_lv (lv' := [(0, .ref v0), (1, .ref v1), (2, .ref v2), (3, .int v3_5)]) [1, 2, 3, 0] rfl ?_
    exact hrec_2 k0 k1 k2 h
theorem t_X1_pair_2 {F P : Nat} {S : xSt} (hS : xWF S) : ∀ (n : Nat) {v0 : Nat} {v1 : Nat} {v2 : Nat} {v3 : Int32} {D : xDt} {r : Int32 × xDt}, xK S v0 1 → xK S v1 10 → xK S v2 3 → f_X1_pair_2 F P S n v0 v1 v2 v3 D = some r → yEx md_X1_pair 5 2 [(0, .ref v0), (1, .ref v1), (2, .ref v2), (3, .int v3)] [] S D (xQi S r) := by
  intro n
  induction n with
  | zero => intros; rename_i h; cases h
  | succ n ih =>
    intro v0 v1 v2 v3 D r k0 k1 k2 h
    exact t_X1_pair_2s hS (fun k0 k1 k2 h => ih k0 k1 k2 h) k0 k1 k2 h

def f_X1_pair (F P : Nat) (S : xSt) (v0 : Nat) (v1 : Nat) (v2 : Nat) (D : xDt) : Option (Int32 × xDt) :=
  f_X1_pair_2 F P S F v0 v1 v2 0 D
set_option maxHeartbeats 4000000 in
theorem S_X1_pair {F P : Nat} {S : xSt} (hS : xWF S) {v0 : Nat} {v1 : Nat} {v2 : Nat} {D : xDt} {r : Int32 × xDt} (k0 : xK S v0 1) (k1 : xK S v1 10) (k2 : xK S v2 3) (h : f_X1_pair F P S v0 v1 v2 D = some r) : xSp md_X1_pair (5, 0, 0) [.ref v0, .ref v1, .ref v2] (S, D) (xQi S r) := by
  unfold f_X1_pair at h
  refine xEntry (by decide) (Nat.le_of_ble_eq_true rfl) ?_
  refine x_lv (lv' := [(0, .ref v0), (1, .ref v1), (2, .ref v2)]) [0, 1, 2] rfl ?_
  refine x_iconst 0 dX1_pair_0 (by decide) ?_
  refine y_istore_n 0 rfl [(3, .int 0), (0, .ref v0), (1, .ref v1), (2, .ref v2)] dX1_pair_1 (by show _ < 6; decide) rfl ?_
  refine x_lv (lv' := [(0, .ref v0), (1, .ref v1), (2, .ref v2), (3, .int 0)]) [1, 2, 3, 0] rfl ?_
  exact t_X1_pair_2 hS F k0 k1 k2 h

theorem dX1_pairsOf_0 : decode cX1_pairsOf 0 = .ok (.lconst 0, 1) := by decide +kernel
theorem dX1_pairsOf_1 : decode cX1_pairsOf 1 = .ok (.lstore_n 3, 1) := by decide +kernel
theorem dX1_pairsOf_2 : decode cX1_pairsOf 2 = .ok (.iconst 0, 1) := by decide +kernel
theorem dX1_pairsOf_3 : decode cX1_pairsOf 3 = .ok (.istore 5, 2) := by decide +kernel
theorem dX1_pairsOf_5 : decode cX1_pairsOf 5 = .ok (.iload 5, 2) := by decide +kernel
theorem dX1_pairsOf_7 : decode cX1_pairsOf 7 = .ok (.iload_n 2, 1) := by decide +kernel
theorem dX1_pairsOf_8 : decode cX1_pairsOf 8 = .ok (.if_icmp .ge 27, 3) := by decide +kernel
theorem dX1_pairsOf_11 : decode cX1_pairsOf 11 = .ok (.lload_n 3, 1) := by decide +kernel
theorem dX1_pairsOf_12 : decode cX1_pairsOf 12 = .ok (.iload_n 1, 1) := by decide +kernel
theorem dX1_pairsOf_13 : decode cX1_pairsOf 13 = .ok (.aload_n 0, 1) := by decide +kernel
theorem dX1_pairsOf_14 : decode cX1_pairsOf 14 = .ok (.getfield 28, 3) := by decide +kernel
theorem dX1_pairsOf_17 : decode cX1_pairsOf 17 = .ok (.iload 5, 2) := by decide +kernel
theorem dX1_pairsOf_19 : decode cX1_pairsOf 19 = .ok (.iaload, 1) := by decide +kernel
theorem dX1_pairsOf_20 : decode cX1_pairsOf 20 = .ok (.ishr, 1) := by decide +kernel
theorem dX1_pairsOf_21 : decode cX1_pairsOf 21 = .ok (.iconst 1, 1) := by decide +kernel
theorem dX1_pairsOf_22 : decode cX1_pairsOf 22 = .ok (.iand, 1) := by decide +kernel
theorem dX1_pairsOf_23 : decode cX1_pairsOf 23 = .ok (.i2l, 1) := by decide +kernel
theorem dX1_pairsOf_24 : decode cX1_pairsOf 24 = .ok (.iload 5, 2) := by decide +kernel
theorem dX1_pairsOf_26 : decode cX1_pairsOf 26 = .ok (.lshl, 1) := by decide +kernel
theorem dX1_pairsOf_27 : decode cX1_pairsOf 27 = .ok (.lor, 1) := by decide +kernel
theorem dX1_pairsOf_28 : decode cX1_pairsOf 28 = .ok (.lstore_n 3, 1) := by decide +kernel
theorem dX1_pairsOf_29 : decode cX1_pairsOf 29 = .ok (.iinc 5 1, 3) := by decide +kernel
theorem dX1_pairsOf_32 : decode cX1_pairsOf 32 = .ok (.goto (-27), 3) := by decide +kernel
theorem dX1_pairsOf_35 : decode cX1_pairsOf 35 = .ok (.lload_n 3, 1) := by decide +kernel
theorem dX1_pairsOf_36 : decode cX1_pairsOf 36 = .ok (.lreturn, 1) := by decide +kernel
def f_X1_pairsOf_5s (F P : Nat) (S : xSt) (rec_5 : Nat → Int32 → Int32 → Int64 → Int32 → xDt → Option (Int64 × xDt)) (v0 : Nat) (v1 : Int32) (v2 : Int32) (v3 : Int64) (v5 : Int32) (D : xDt) : Option (Int64 × xDt) :=
  if v2 ≤ v5 then (some (v3, D)) else (xgrd (xin v5 (xl S (xr S v0 5))) (xlet (v3 ||| (jlshl (((jishr v1 (D.1 (xr S v0 5) (v5).toNatClampNeg)) &&& 1).toInt64) v5)) fun v3_2 => xlet (v5 + 1) fun v5_3 => rec_5 v0 v1 v2 v3_2 v5_3 D))
def f_X1_pairsOf_5 (F P : Nat) (S : xSt) : Nat → Nat → Int32 → Int32 → Int64 → Int32 → xDt → Option (Int64 × xDt)
  | 0 => fun _ _ _ _ _ _ => none
  | n + 1 => f_X1_pairsOf_5s F P S (f_X1_pairsOf_5 F P S n)
set_option maxHeartbeats 4000000 in
theorem t_X1_pairsOf_5s {F P : Nat} {S : xSt} (hS : xWF S) {rec_5 : Nat → Int32 → Int32 → Int64 → Int32 → xDt → Option (Int64 × xDt)} (hrec_5 : ∀ {v0 : Nat} {v1 : Int32} {v2 : Int32} {v3 : Int64} {v5 : Int32} {D : xDt} {r : Int64 × xDt}, xK S v0 1 → rec_5 v0 v1 v2 v3 v5 D = some r → yEx md_X1_pairsOf 0 5 [(0, .ref v0), (1, .int v1), (2, .int v2), (3, .long v3), (5, .int v5)] [] S D (xQl S r)) {v0 : Nat} {v1 : Int32} {v2 : Int32} {v3 : Int64} {v5 : Int32} {D : xDt} {r : Int64 × xDt} (k0 : xK S v0 1) (h : f_X1_pairsOf_5s F P S rec_5 v0 v1 v2 v3 v5 D = some r) : yEx md_X1_pairsOf 0 5 [(0, .ref v0), (1, .int v1), (2, .int v2), (3, .long v3), (5, .int v5)] [] S D (xQl S r) := by
  unfold f_X1_pairsOf_5s at h
  refine x_iload dX1_pairsOf_5 4 rfl ?_
  refine x_iload_n dX1_pairsOf_7 2 rfl ?_
  refine x_icmp_ge 35 dX1_pairsOf_8 (by decide) (fun c => ?_) (fun c => ?_)
  · rw [if_pos c] at h
    refine x_lload_n dX1_pairsOf_35 3 rfl ?_
    obtain rfl := Option.some.inj h
    exact y_lret rfl dX1_pairsOf_36
  · rw [if_neg c] at h
    refine x_lload_n dX1_pairsOf_11 3 rfl ?_
    refine x_iload_n dX1_pairsOf_12 1 rfl ?_
    refine x_aload_n dX1_pairsOf_13 0 rfl ?_
    refine y_getr (kd := 100) hS fl_RX1_28 dX1_pairsOf_14 rfl k0 ?_
    refine x_iload dX1_pairsOf_17 4 rfl ?_
    refine xgrd_e h (fun g1 h => ?_)
    refine y_iald dX1_pairsOf_19 ((hS.f k0 5 100 rfl).2) g1 ?_
    refine x_ishr dX1_pairsOf_20 ?_
    refine x_iconst 1 dX1_pairsOf_21 (by decide) ?_
    refine x_iand dX1_pairsOf_22 ?_
    refine x_i2l dX1_pairsOf_23 ?_
    refine x_iload dX1_pairsOf_24 4 rfl ?_
    refine x_lshl dX1_pairsOf_26 ?_
    refine x_lor dX1_pairsOf_27 ?_
    refine xlet_e h (fun v3_2 ev3_2 h => ?_)
    refine y_lstore_n v3_2 ev3_2 [(3, .long v3_2), (0, .ref v0), (1, .int v1), (2, .int v2), (5, .int v5)] dX1_pairsOf_28 (by show _ < 6; decide) rfl ?_
    refine xlet_e h (fun v5_3 ev5_3 h => ?_)
    refine y_iinc v5_3 ev5_3 (by decide) [(5, .int v5_3), (3, .long v3_2), (0, .ref v0), (1, .int v1), (2, .int v2)] dX1_pairsOf_29 4 rfl (by show _ < 6; decide) rfl ?_
    refine x_goto 5 dX1_pairsOf_32 (by decide) ?_
    refine x_lv (lv' := [(0, .ref v0), (1, .int v1), (2, .int v2), (3, .long v3_2), (5, .int v5_3)]) [2, 3, 4, 1, 0] rfl ?_
    exact hrec_5 k0 h
theorem t_X1_pairsOf_5 {F P : Nat} {S : xSt} (hS : xWF S) : ∀ (n : Nat) {v0 : Nat} {v1 : Int32} {v2 : Int32} {v3 : Int64} {v5 : Int32} {D : xDt} {r : Int64 × xDt}, xK S v0 1 → f_X1_pairsOf_5 F P S n v0 v1 v2 v3 v5 D = some r → yEx md_X1_pairsOf 0 5 [(0, .ref v0), (1, .int v1), (2, .int v2), (3, .long v3), (5, .int v5)] [] S D (xQl S r) := by
  intro n
  induction n with
  | zero => intros; rename_i h; cases h
  | succ n ih =>
    intro v0 v1 v2 v3 v5 D r k0 h
    exact t_X1_pairsOf_5s hS (fun k0 h => ih k0 h) k0 h

def f_X1_pairsOf (F P : Nat) (S : xSt) (v0 : Nat) (v1 : Int32) (v2 : Int32) (D : xDt) : Option (Int64 × xDt) :=
  f_X1_pairsOf_5 F P S F v0 v1 v2 0 0 D
set_option maxHeartbeats 4000000 in
theorem S_X1_pairsOf {F P : Nat} {S : xSt} (hS : xWF S) {v0 : Nat} {v1 : Int32} {v2 : Int32} {D : xDt} {r : Int64 × xDt} (k0 : xK S v0 1) (h : f_X1_pairsOf F P S v0 v1 v2 D = some r) : xSp md_X1_pairsOf (0, 0, 0) [.ref v0, .int v1, .int v2] (S, D) (xQl S r) := by
  unfold f_X1_pairsOf at h
  refine xEntry (by decide) (Nat.le_of_ble_eq_true rfl) ?_
  refine x_lv (lv' := [(0, .ref v0), (1, .int v1), (2, .int v2)]) [0, 1, 2] rfl ?_
  refine x_lconst 0 dX1_pairsOf_0 (by decide) ?_
  refine y_lstore_n 0 rfl [(3, .long 0), (0, .ref v0), (1, .int v1), (2, .int v2)] dX1_pairsOf_1 (by show _ < 6; decide) rfl ?_
  refine x_iconst 0 dX1_pairsOf_2 (by decide) ?_
  refine y_istore 0 rfl [(5, .int 0), (3, .long 0), (0, .ref v0), (1, .int v1), (2, .int v2)] dX1_pairsOf_3 (by show _ < 6; decide) rfl ?_
  refine x_lv (lv' := [(0, .ref v0), (1, .int v1), (2, .int v2), (3, .long 0), (5, .int 0)]) [2, 3, 4, 1, 0] rfl ?_
  exact t_X1_pairsOf_5 hS F k0 h

theorem dX1_narrowCells_0 : decode cX1_narrowCells 0 = .ok (.iconst 0, 1) := by decide +kernel
theorem dX1_narrowCells_1 : decode cX1_narrowCells 1 = .ok (.istore_n 2, 1) := by decide +kernel
theorem dX1_narrowCells_2 : decode cX1_narrowCells 2 = .ok (.iload_n 2, 1) := by decide +kernel
theorem dX1_narrowCells_3 : decode cX1_narrowCells 3 = .ok (.iconst 4, 1) := by decide +kernel
theorem dX1_narrowCells_4 : decode cX1_narrowCells 4 = .ok (.if_icmp .ge 67, 3) := by decide +kernel
theorem dX1_narrowCells_7 : decode cX1_narrowCells 7 = .ok (.iconst 0, 1) := by decide +kernel
theorem dX1_narrowCells_8 : decode cX1_narrowCells 8 = .ok (.istore_n 3, 1) := by decide +kernel
theorem dX1_narrowCells_9 : decode cX1_narrowCells 9 = .ok (.iload_n 3, 1) := by decide +kernel
theorem dX1_narrowCells_10 : decode cX1_narrowCells 10 = .ok (.aload_n 1, 1) := by decide +kernel
theorem dX1_narrowCells_11 : decode cX1_narrowCells 11 = .ok (.getfield 54, 3) := by decide +kernel
theorem dX1_narrowCells_14 : decode cX1_narrowCells 14 = .ok (.if_icmp .ge 51, 3) := by decide +kernel
theorem dX1_narrowCells_17 : decode cX1_narrowCells 17 = .ok (.aload_n 0, 1) := by decide +kernel
theorem dX1_narrowCells_18 : decode cX1_narrowCells 18 = .ok (.getfield 17, 3) := by decide +kernel
theorem dX1_narrowCells_21 : decode cX1_narrowCells 21 = .ok (.iload_n 2, 1) := by decide +kernel
theorem dX1_narrowCells_22 : decode cX1_narrowCells 22 = .ok (.bipush 8, 2) := by decide +kernel
theorem dX1_narrowCells_24 : decode cX1_narrowCells 24 = .ok (.imul, 1) := by decide +kernel
theorem dX1_narrowCells_25 : decode cX1_narrowCells 25 = .ok (.aload_n 0, 1) := by decide +kernel
theorem dX1_narrowCells_26 : decode cX1_narrowCells 26 = .ok (.getfield 28, 3) := by decide +kernel
theorem dX1_narrowCells_29 : decode cX1_narrowCells 29 = .ok (.iload_n 3, 1) := by decide +kernel
theorem dX1_narrowCells_30 : decode cX1_narrowCells 30 = .ok (.iaload, 1) := by decide +kernel
theorem dX1_narrowCells_31 : decode cX1_narrowCells 31 = .ok (.iadd, 1) := by decide +kernel
theorem dX1_narrowCells_32 : decode cX1_narrowCells 32 = .ok (.iaload, 1) := by decide +kernel
theorem dX1_narrowCells_33 : decode cX1_narrowCells 33 = .ok (.istore 4, 2) := by decide +kernel
theorem dX1_narrowCells_35 : decode cX1_narrowCells 35 = .ok (.aload_n 1, 1) := by decide +kernel
theorem dX1_narrowCells_36 : decode cX1_narrowCells 36 = .ok (.getfield 57, 3) := by decide +kernel
theorem dX1_narrowCells_39 : decode cX1_narrowCells 39 = .ok (.iload_n 2, 1) := by decide +kernel
theorem dX1_narrowCells_40 : decode cX1_narrowCells 40 = .ok (.bipush 64, 2) := by decide +kernel
theorem dX1_narrowCells_42 : decode cX1_narrowCells 42 = .ok (.imul, 1) := by decide +kernel
theorem dX1_narrowCells_43 : decode cX1_narrowCells 43 = .ok (.iload_n 3, 1) := by decide +kernel
theorem dX1_narrowCells_44 : decode cX1_narrowCells 44 = .ok (.iadd, 1) := by decide +kernel
theorem dX1_narrowCells_45 : decode cX1_narrowCells 45 = .ok (.dup2, 1) := by decide +kernel
theorem dX1_narrowCells_46 : decode cX1_narrowCells 46 = .ok (.laload, 1) := by decide +kernel
theorem dX1_narrowCells_47 : decode cX1_narrowCells 47 = .ok (.aload_n 0, 1) := by decide +kernel
theorem dX1_narrowCells_48 : decode cX1_narrowCells 48 = .ok (.iload 4, 2) := by decide +kernel
theorem dX1_narrowCells_50 : decode cX1_narrowCells 50 = .ok (.aload_n 1, 1) := by decide +kernel
theorem dX1_narrowCells_51 : decode cX1_narrowCells 51 = .ok (.getfield 54, 3) := by decide +kernel
theorem dX1_narrowCells_54 : decode cX1_narrowCells 54 = .ok (.invokevirtual 59, 3) := by decide +kernel
theorem dX1_narrowCells_57 : decode cX1_narrowCells 57 = .ok (.land, 1) := by decide +kernel
theorem dX1_narrowCells_58 : decode cX1_narrowCells 58 = .ok (.lastore, 1) := by decide +kernel
theorem dX1_narrowCells_59 : decode cX1_narrowCells 59 = .ok (.iinc 3 1, 3) := by decide +kernel
theorem dX1_narrowCells_62 : decode cX1_narrowCells 62 = .ok (.goto (-53), 3) := by decide +kernel
theorem dX1_narrowCells_65 : decode cX1_narrowCells 65 = .ok (.iinc 2 1, 3) := by decide +kernel
theorem dX1_narrowCells_68 : decode cX1_narrowCells 68 = .ok (.goto (-66), 3) := by decide +kernel
theorem dX1_narrowCells_71 : decode cX1_narrowCells 71 = .ok (.return_, 1) := by decide +kernel
def f_X1_narrowCells_9s (F P : Nat) (S : xSt) (rec_2 : Nat → Nat → Int32 → xDt → Option (xDt)) (rec_9 : Nat → Nat → Int32 → Int32 → xDt → Option (xDt)) (v0 : Nat) (v1 : Nat) (v2 : Int32) (v3 : Int32) (D : xDt) : Option (xDt) :=
  if (D.1 v1 0) ≤ v3 then (xlet (v2 + 1) fun v2_1 => rec_2 v0 v1 v2_1 D) else (xgrd (xin v3 (xl S (xr S v0 5))) (xgrd (xin ((v2 * 8) + (D.1 (xr S v0 5) (v3).toNatClampNeg)) (xl S (xr S v0 2))) (xlet (D.1 (xr S v0 2) ((v2 * 8) + (D.1 (xr S v0 5) (v3).toNatClampNeg)).toNatClampNeg) fun v4_4 => xgrd (xin ((v2 * 64) + v3) (xl S (xr S v1 2))) ((f_X1_pairsOf F P S v0 v4_4 (D.1 v1 0) D).bind fun q6 => xgrd (xin ((v2 * 64) + v3) (xl S (xr S v1 2))) (xlet (q6.2.1, xup q6.2.2 (xr S v1 2) ((v2 * 64) + v3).toNatClampNeg ((D.2 (xr S v1 2) ((v2 * 64) + v3).toNatClampNeg) &&& q6.1)) fun D8 => xlet (v3 + 1) fun v3_9 => rec_9 v0 v1 v2 v3_9 D8)))))
def f_X1_narrowCells_9 (F P : Nat) (S : xSt) (rec_2 : Nat → Nat → Int32 → xDt → Option (xDt)) : Nat → Nat → Nat → Int32 → Int32 → xDt → Option (xDt)
  | 0 => fun _ _ _ _ _ => none
  | n + 1 => f_X1_narrowCells_9s F P S rec_2 (f_X1_narrowCells_9 F P S rec_2 n)
set_option maxHeartbeats 4000000 in
theorem t_X1_narrowCells_9s {F P : Nat} {S : xSt} (hS : xWF S) {rec_2 : Nat → Nat → Int32 → xDt → Option (xDt)} (hrec_2 : ∀ {v0 : Nat} {v1 : Nat} {v2 : Int32} {D : xDt} {r : xDt}, xK S v0 1 → xK S v1 10 → rec_2 v0 v1 v2 D = some r → yEx md_X1_narrowCells 1 2 [(0, .ref v0), (1, .ref v1), (2, .int v2)] [] S D (xQv S r)) {rec_9 : Nat → Nat → Int32 → Int32 → xDt → Option (xDt)} (hrec_9 : ∀ {v0 : Nat} {v1 : Nat} {v2 : Int32} {v3 : Int32} {D : xDt} {r : xDt}, xK S v0 1 → xK S v1 10 → rec_9 v0 v1 v2 v3 D = some r → yEx md_X1_narrowCells 1 9 [(0, .ref v0), (1, .ref v1), (2, .int v2), (3, .int v3)] [] S D (xQv S r)) {v0 : Nat} {v1 : Nat} {v2 : Int32} {v3 : Int32} {D : xDt} {r : xDt} (k0 : xK S v0 1) (k1 : xK S v1 10) (h : f_X1_narrowCells_9s F P S rec_2 rec_9 v0 v1 v2 v3 D = some r) : yEx md_X1_narrowCells 1 9 [(0, .ref v0), (1, .ref v1), (2, .int v2), (3, .int v3)] [] S D (xQv S r) := by
  unfold f_X1_narrowCells_9s at h
  refine x_iload_n dX1_narrowCells_9 3 rfl ?_
  refine x_aload_n dX1_narrowCells_10 1 rfl ?_
  refine y_geti fl_RX1_54 dX1_narrowCells_11 rfl k1 ?_
  refine x_icmp_ge 65 dX1_narrowCells_14 (by decide) (fun c => ?_) (fun c => ?_)
  · rw [if_pos c] at h
    refine xlet_e h (fun v2_1 ev2_1 h => ?_)
    refine y_iinc v2_1 ev2_1 (by decide) [(2, .int v2_1), (0, .ref v0), (1, .ref v1), (3, .int v3)] dX1_narrowCells_65 2 rfl (by show _ < 5; decide) rfl ?_
    refine x_goto 2 dX1_narrowCells_68 (by decide) ?_
    refine x_lv (lv' := [(0, .ref v0), (1, .ref v1), (2, .int v2_1)]) [1, 2, 0] rfl ?_
    exact hrec_2 k0 k1 h
  · rw [if_neg c] at h
    refine x_aload_n dX1_narrowCells_17 0 rfl ?_
    refine y_getr (kd := 100) hS fl_RX1_17 dX1_narrowCells_18 rfl k0 ?_
    refine x_iload_n dX1_narrowCells_21 2 rfl ?_
    refine x_bipush 8 dX1_narrowCells_22 (by decide) ?_
    refine x_imul dX1_narrowCells_24 ?_
    refine x_aload_n dX1_narrowCells_25 0 rfl ?_
    refine y_getr (kd := 100) hS fl_RX1_28 dX1_narrowCells_26 rfl k0 ?_
    refine x_iload_n dX1_narrowCells_29 3 rfl ?_
    refine xgrd_e h (fun g2 h => ?_)
    refine y_iald dX1_narrowCells_30 ((hS.f k0 5 100 rfl).2) g2 ?_
    refine x_iadd dX1_narrowCells_31 ?_
    refine xgrd_e h (fun g3 h => ?_)
    refine y_iald dX1_narrowCells_32 ((hS.f k0 2 100 rfl).2) g3 ?_
    refine xlet_e h (fun v4_4 ev4_4 h => ?_)
    refine y_istore v4_4 ev4_4 [(4, .int v4_4), (0, .ref v0), (1, .ref v1), (2, .int v2), (3, .int v3)] dX1_narrowCells_33 (by show _ < 5; decide) rfl ?_
    refine x_aload_n dX1_narrowCells_35 2 rfl ?_
    refine y_getr (kd := 101) hS fl_RX1_57 dX1_narrowCells_36 rfl k1 ?_
    refine x_iload_n dX1_narrowCells_39 3 rfl ?_
    refine x_bipush 64 dX1_narrowCells_40 (by decide) ?_
    refine x_imul dX1_narrowCells_42 ?_
    refine x_iload_n dX1_narrowCells_43 4 rfl ?_
    refine x_iadd dX1_narrowCells_44 ?_
    refine x_dup2 dX1_narrowCells_45 rfl rfl ?_
    refine xgrd_e h (fun g5 h => ?_)
    refine y_lald dX1_narrowCells_46 ((hS.f k1 2 101 rfl).2) g5 ?_
    refine x_aload_n dX1_narrowCells_47 1 rfl ?_
    refine x_iload dX1_narrowCells_48 0 rfl ?_
    refine x_aload_n dX1_narrowCells_50 2 rfl ?_
    refine y_geti fl_RX1_54 dX1_narrowCells_51 rfl k1 ?_
    refine xbnd_e h (fun q6 e6 h => ?_)
    refine y_callVl (As := [.int v4_4, .int (D.1 v1 0)]) (q := q6) cv_RX1_59 dX1_narrowCells_54 k0 rfl (Nat.le_of_ble_eq_true rfl) (by omega) (S_X1_pairsOf hS k0 e6) ?_
    refine x_land dX1_narrowCells_57 ?_
    refine xgrd_e h (fun g7 h => ?_)
    refine xlet_e h (fun D8 eD8 h => ?_)
    refine y_last dX1_narrowCells_58 ((hS.f k1 2 101 rfl).2) g7 eD8 ?_
    refine xlet_e h (fun v3_9 ev3_9 h => ?_)
    refine y_iinc v3_9 ev3_9 (by decide) [(3, .int v3_9), (4, .int v4_4), (0, .ref v0), (1, .ref v1), (2, .int v2)] dX1_narrowCells_59 4 rfl (by show _ < 5; decide) rfl ?_
    refine x_goto 9 dX1_narrowCells_62 (by decide) ?_
    refine x_lv (lv' := [(0, .ref v0), (1, .ref v1), (2, .int v2), (3, .int v3_9)]) [2, 3, 4, 0] rfl ?_
    exact hrec_9 k0 k1 h
theorem t_X1_narrowCells_9 {F P : Nat} {S : xSt} (hS : xWF S) {rec_2 : Nat → Nat → Int32 → xDt → Option (xDt)} (hrec_2 : ∀ {v0 : Nat} {v1 : Nat} {v2 : Int32} {D : xDt} {r : xDt}, xK S v0 1 → xK S v1 10 → rec_2 v0 v1 v2 D = some r → yEx md_X1_narrowCells 1 2 [(0, .ref v0), (1, .ref v1), (2, .int v2)] [] S D (xQv S r)) : ∀ (n : Nat) {v0 : Nat} {v1 : Nat} {v2 : Int32} {v3 : Int32} {D : xDt} {r : xDt}, xK S v0 1 → xK S v1 10 → f_X1_narrowCells_9 F P S rec_2 n v0 v1 v2 v3 D = some r → yEx md_X1_narrowCells 1 9 [(0, .ref v0), (1, .ref v1), (2, .int v2), (3, .int v3)] [] S D (xQv S r) := by
  intro n
  induction n with
  | zero => intros; rename_i h; cases h
  | succ n ih =>
    intro v0 v1 v2 v3 D r k0 k1 h
    exact t_X1_narrowCells_9s hS hrec_2 (fun k0 k1 h => ih k0 k1 h) k0 k1 h

def f_X1_narrowCells_2s (F P : Nat) (S : xSt) (rec_2 : Nat → Nat → Int32 → xDt → Option (xDt)) (v0 : Nat) (v1 : Nat) (v2 : Int32) (D : xDt) : Option (xDt) :=
  if 4 ≤ v2 then (some D) else (f_X1_narrowCells_9 F P S rec_2 F v0 v1 v2 0 D)
def f_X1_narrowCells_2 (F P : Nat) (S : xSt) : Nat → Nat → Nat → Int32 → xDt → Option (xDt)
  | 0 => fun _ _ _ _ => none
  | n + 1 => f_X1_narrowCells_2s F P S (f_X1_narrowCells_2 F P S n)
set_option maxHeartbeats 4000000 in
theorem t_X1_narrowCells_2s {F P : Nat} {S : xSt} (hS : xWF S) {rec_2 : Nat → Nat → Int32 → xDt → Option (xDt)} (hrec_2 : ∀ {v0 : Nat} {v1 : Nat} {v2 : Int32} {D : xDt} {r : xDt}, xK S v0 1 → xK S v1 10 → rec_2 v0 v1 v2 D = some r → yEx md_X1_narrowCells 1 2 [(0, .ref v0), (1, .ref v1), (2, .int v2)] [] S D (xQv S r)) {v0 : Nat} {v1 : Nat} {v2 : Int32} {D : xDt} {r : xDt} (k0 : xK S v0 1) (k1 : xK S v1 10) (h : f_X1_narrowCells_2s F P S rec_2 v0 v1 v2 D = some r) : yEx md_X1_narrowCells 1 2 [(0, .ref v0), (1, .ref v1), (2, .int v2)] [] S D (xQv S r) := by
  unfold f_X1_narrowCells_2s at h
  refine x_iload_n dX1_narrowCells_2 2 rfl ?_
  refine x_iconst 4 dX1_narrowCells_3 (by decide) ?_
  refine x_icmp_ge 71 dX1_narrowCells_4 (by decide) (fun c => ?_) (fun c => ?_)
  · rw [if_pos c] at h
    obtain rfl := Option.some.inj h
    exact y_vret rfl dX1_narrowCells_71
  · rw [if_neg c] at h
    refine x_iconst 0 dX1_narrowCells_7 (by decide) ?_
    refine y_istore_n 0 rfl [(3, .int 0), (0, .ref v0), (1, .ref v1), (2, .int v2)] dX1_narrowCells_8 (by show _ < 5; decide) rfl ?_
    refine x_lv (lv' := [(0, .ref v0), (1, .ref v1), (2, .int v2), (3, .int 0)]) [1, 2, 3, 0] rfl ?_
    exact t_X1_narrowCells_9 hS hrec_2 F k0 k1 h
theorem t_X1_narrowCells_2 {F P : Nat} {S : xSt} (hS : xWF S) : ∀ (n : Nat) {v0 : Nat} {v1 : Nat} {v2 : Int32} {D : xDt} {r : xDt}, xK S v0 1 → xK S v1 10 → f_X1_narrowCells_2 F P S n v0 v1 v2 D = some r → yEx md_X1_narrowCells 1 2 [(0, .ref v0), (1, .ref v1), (2, .int v2)] [] S D (xQv S r) := by
  intro n
  induction n with
  | zero => intros; rename_i h; cases h
  | succ n ih =>
    intro v0 v1 v2 D r k0 k1 h
    exact t_X1_narrowCells_2s hS (fun k0 k1 h => ih k0 k1 h) k0 k1 h

def f_X1_narrowCells (F P : Nat) (S : xSt) (v0 : Nat) (v1 : Nat) (D : xDt) : Option (xDt) :=
  f_X1_narrowCells_2 F P S F v0 v1 0 D
set_option maxHeartbeats 4000000 in
theorem S_X1_narrowCells {F P : Nat} {S : xSt} (hS : xWF S) {v0 : Nat} {v1 : Nat} {D : xDt} {r : xDt} (k0 : xK S v0 1) (k1 : xK S v1 10) (h : f_X1_narrowCells F P S v0 v1 D = some r) : xSp md_X1_narrowCells (1, 0, 0) [.ref v0, .ref v1] (S, D) (xQv S r) := by
  unfold f_X1_narrowCells at h
  refine xEntry (by decide) (Nat.le_of_ble_eq_true rfl) ?_
  refine x_lv (lv' := [(0, .ref v0), (1, .ref v1)]) [0, 1] rfl ?_
  refine x_iconst 0 dX1_narrowCells_0 (by decide) ?_
  refine y_istore_n 0 rfl [(2, .int 0), (0, .ref v0), (1, .ref v1)] dX1_narrowCells_1 (by show _ < 5; decide) rfl ?_
  refine x_lv (lv' := [(0, .ref v0), (1, .ref v1), (2, .int 0)]) [1, 2, 0] rfl ?_
  exact t_X1_narrowCells_2 hS F k0 k1 h

theorem dX10_setAtom_0 : decode cX10_setAtom 0 = .ok (.lconst 1, 1) := by decide +kernel
theorem dX10_setAtom_1 : decode cX10_setAtom 1 = .ok (.iload_n 1, 1) := by decide +kernel
theorem dX10_setAtom_2 : decode cX10_setAtom 2 = .ok (.lshl, 1) := by decide +kernel
theorem dX10_setAtom_3 : decode cX10_setAtom 3 = .ok (.lstore 4, 2) := by decide +kernel
theorem dX10_setAtom_5 : decode cX10_setAtom 5 = .ok (.aload_n 0, 1) := by decide +kernel
theorem dX10_setAtom_6 : decode cX10_setAtom 6 = .ok (.getfield 9, 3) := by decide +kernel
theorem dX10_setAtom_9 : decode cX10_setAtom 9 = .ok (.iload_n 2, 1) := by decide +kernel
theorem dX10_setAtom_10 : decode cX10_setAtom 10 = .ok (.iload_n 3, 1) := by decide +kernel
theorem dX10_setAtom_11 : decode cX10_setAtom 11 = .ok (.ifCond .eq 15, 3) := by decide +kernel
theorem dX10_setAtom_14 : decode cX10_setAtom 14 = .ok (.aload_n 0, 1) := by decide +kernel
theorem dX10_setAtom_15 : decode cX10_setAtom 15 = .ok (.getfield 9, 3) := by decide +kernel
theorem dX10_setAtom_18 : decode cX10_setAtom 18 = .ok (.iload_n 2, 1) := by decide +kernel
theorem dX10_setAtom_19 : decode cX10_setAtom 19 = .ok (.laload, 1) := by decide +kernel
theorem dX10_setAtom_20 : decode cX10_setAtom 20 = .ok (.lload 4, 2) := by decide +kernel
theorem dX10_setAtom_22 : decode cX10_setAtom 22 = .ok (.lor, 1) := by decide +kernel
theorem dX10_setAtom_23 : decode cX10_setAtom 23 = .ok (.goto 16, 3) := by decide +kernel
theorem dX10_setAtom_26 : decode cX10_setAtom 26 = .ok (.aload_n 0, 1) := by decide +kernel
theorem dX10_setAtom_27 : decode cX10_setAtom 27 = .ok (.getfield 9, 3) := by decide +kernel
theorem dX10_setAtom_30 : decode cX10_setAtom 30 = .ok (.iload_n 2, 1) := by decide +kernel
theorem dX10_setAtom_31 : decode cX10_setAtom 31 = .ok (.laload, 1) := by decide +kernel
theorem dX10_setAtom_32 : decode cX10_setAtom 32 = .ok (.lload 4, 2) := by decide +kernel
theorem dX10_setAtom_34 : decode cX10_setAtom 34 = .ok (.ldc2_w 22, 3) := by decide +kernel
theorem dX10_setAtom_37 : decode cX10_setAtom 37 = .ok (.lxor, 1) := by decide +kernel
theorem dX10_setAtom_38 : decode cX10_setAtom 38 = .ok (.land, 1) := by decide +kernel
theorem dX10_setAtom_39 : decode cX10_setAtom 39 = .ok (.lastore, 1) := by decide +kernel
theorem dX10_setAtom_40 : decode cX10_setAtom 40 = .ok (.return_, 1) := by decide +kernel
def f_X10_setAtom (F P : Nat) (S : xSt) (v0 : Nat) (v1 : Int32) (v2 : Int32) (v3 : Int32) (D : xDt) : Option (xDt) :=
  xlet (jlshl 1 v1) fun v4_1 => if v3 = 0 then (xgrd (xin v2 (xl S (xr S v0 1))) (xgrd (xin v2 (xl S (xr S v0 1))) (xlet (D.1, xup D.2 (xr S v0 1) (v2).toNatClampNeg ((D.2 (xr S v0 1) (v2).toNatClampNeg) &&& (v4_1 ^^^ (-1)))) fun D4 => some D4))) else (xgrd (xin v2 (xl S (xr S v0 1))) (xgrd (xin v2 (xl S (xr S v0 1))) (xlet (D.1, xup D.2 (xr S v0 1) (v2).toNatClampNeg ((D.2 (xr S v0 1) (v2).toNatClampNeg) ||| v4_1)) fun D7 => some D7)))
set_option maxHeartbeats 4000000 in
theorem S_X10_setAtom {F P : Nat} {S : xSt} (hS : xWF S) {v0 : Nat} {v1 : Int32} {v2 : Int32} {v3 : Int32} {D : xDt} {r : xDt} (k0 : xK S v0 10) (h : f_X10_setAtom F P S v0 v1 v2 v3 D = some r) : xSp md_X10_setAtom (0, 0, 0) [.ref v0, .int v1, .int v2, .int v3] (S, D) (xQv S r) := by
  unfold f_X10_setAtom at h
  refine xEntry (by decide) (Nat.le_of_ble_eq_true rfl) ?_
  refine x_lv (lv' := [(0, .ref v0), (1, .int v1), (2, .int v2), (3, .int v3)]) [0, 1, 2, 3] rfl ?_
  refine x_lconst 1 dX10_setAtom_0 (by decide) ?_
  refine x_iload_n dX10_setAtom_1 1 rfl ?_
  refine x_lshl dX10_setAtom_2 ?_
  refine xlet_e h (fun v4_1 ev4_1 h => ?_)
  refine y_lstore v4_1 ev4_1 [(4, .long v4_1), (0, .ref v0), (1, .int v1), (2, .int v2), (3, .int v3)] dX10_setAtom_3 (by show _ < 6; decide) rfl ?_
  refine x_aload_n dX10_setAtom_5 1 rfl ?_
  refine y_getr (kd := 101) hS fl_RX10_9 dX10_setAtom_6 rfl k0 ?_
  refine x_iload_n dX10_setAtom_9 3 rfl ?_
  refine x_iload_n dX10_setAtom_10 4 rfl ?_
  refine x_if_eq 26 dX10_setAtom_11 (by decide) (fun c => ?_) (fun c => ?_)
  · rw [if_pos c] at h
    refine x_aload_n dX10_setAtom_26 1 rfl ?_
    refine y_getr (kd := 101) hS fl_RX10_9 dX10_setAtom_27 rfl k0 ?_
    refine x_iload_n dX10_setAtom_30 3 rfl ?_
    refine xgrd_e h (fun g2 h => ?_)
    refine y_lald dX10_setAtom_31 ((hS.f k0 1 101 rfl).2) g2 ?_
    refine x_lload dX10_setAtom_32 0 rfl ?_
    refine x_ldc2 (-1) dX10_setAtom_34 wd_425 ?_
    refine x_lxor dX10_setAtom_37 ?_
    refine x_land dX10_setAtom_38 ?_
    refine xgrd_e h (fun g3 h => ?_)
    refine xlet_e h (fun D4 eD4 h => ?_)
    refine y_last dX10_setAtom_39 ((hS.f k0 1 101 rfl).2) g3 eD4 ?_
    obtain rfl := Option.some.inj h
    exact y_vret rfl dX10_setAtom_40
  · rw [if_neg c] at h
    refine x_aload_n dX10_setAtom_14 1 rfl ?_
    refine y_getr (kd := 101) hS fl_RX10_9 dX10_setAtom_15 rfl k0 ?_
    refine x_iload_n dX10_setAtom_18 3 rfl ?_
    refine xgrd_e h (fun g5 h => ?_)
    refine y_lald dX10_setAtom_19 ((hS.f k0 1 101 rfl).2) g5 ?_
    refine x_lload dX10_setAtom_20 0 rfl ?_
    refine x_lor dX10_setAtom_22 ?_
    refine x_goto 39 dX10_setAtom_23 (by decide) ?_
    refine xgrd_e h (fun g6 h => ?_)
    refine xlet_e h (fun D7 eD7 h => ?_)
    refine y_last dX10_setAtom_39 ((hS.f k0 1 101 rfl).2) g6 eD7 ?_
    obtain rfl := Option.some.inj h
    exact y_vret rfl dX10_setAtom_40

theorem dX1_changeAtom_0 : decode cX1_changeAtom 0 = .ok (.iconst 0, 1) := by decide +kernel
theorem dX1_changeAtom_1 : decode cX1_changeAtom 1 = .ok (.istore 6, 2) := by decide +kernel
theorem dX1_changeAtom_3 : decode cX1_changeAtom 3 = .ok (.iload 6, 2) := by decide +kernel
theorem dX1_changeAtom_5 : decode cX1_changeAtom 5 = .ok (.aload_n 1, 1) := by decide +kernel
theorem dX1_changeAtom_6 : decode cX1_changeAtom 6 = .ok (.getfield 54, 3) := by decide +kernel
theorem dX1_changeAtom_9 : decode cX1_changeAtom 9 = .ok (.if_icmp .ge 49, 3) := by decide +kernel
theorem dX1_changeAtom_12 : decode cX1_changeAtom 12 = .ok (.aload_n 0, 1) := by decide +kernel
theorem dX1_changeAtom_13 : decode cX1_changeAtom 13 = .ok (.getfield 28, 3) := by decide +kernel
theorem dX1_changeAtom_16 : decode cX1_changeAtom 16 = .ok (.iload 6, 2) := by decide +kernel
theorem dX1_changeAtom_18 : decode cX1_changeAtom 18 = .ok (.iaload, 1) := by decide +kernel
theorem dX1_changeAtom_19 : decode cX1_changeAtom 19 = .ok (.iload_n 2, 1) := by decide +kernel
theorem dX1_changeAtom_20 : decode cX1_changeAtom 20 = .ok (.if_icmp .ne 32, 3) := by decide +kernel
theorem dX1_changeAtom_23 : decode cX1_changeAtom 23 = .ok (.aload_n 1, 1) := by decide +kernel
theorem dX1_changeAtom_24 : decode cX1_changeAtom 24 = .ok (.iload 6, 2) := by decide +kernel
theorem dX1_changeAtom_26 : decode cX1_changeAtom 26 = .ok (.iload_n 3, 1) := by decide +kernel
theorem dX1_changeAtom_27 : decode cX1_changeAtom 27 = .ok (.lload 4, 2) := by decide +kernel
theorem dX1_changeAtom_29 : decode cX1_changeAtom 29 = .ok (.aload_n 0, 1) := by decide +kernel
theorem dX1_changeAtom_30 : decode cX1_changeAtom 30 = .ok (.getfield 25, 3) := by decide +kernel
theorem dX1_changeAtom_33 : decode cX1_changeAtom 33 = .ok (.iload 6, 2) := by decide +kernel
theorem dX1_changeAtom_35 : decode cX1_changeAtom 35 = .ok (.iaload, 1) := by decide +kernel
theorem dX1_changeAtom_36 : decode cX1_changeAtom 36 = .ok (.lushr, 1) := by decide +kernel
theorem dX1_changeAtom_37 : decode cX1_changeAtom 37 = .ok (.lconst 1, 1) := by decide +kernel
theorem dX1_changeAtom_38 : decode cX1_changeAtom 38 = .ok (.land, 1) := by decide +kernel
theorem dX1_changeAtom_39 : decode cX1_changeAtom 39 = .ok (.lconst 0, 1) := by decide +kernel
theorem dX1_changeAtom_40 : decode cX1_changeAtom 40 = .ok (.lcmp, 1) := by decide +kernel
theorem dX1_changeAtom_41 : decode cX1_changeAtom 41 = .ok (.ifCond .eq 7, 3) := by decide +kernel
theorem dX1_changeAtom_44 : decode cX1_changeAtom 44 = .ok (.iconst 1, 1) := by decide +kernel
theorem dX1_changeAtom_45 : decode cX1_changeAtom 45 = .ok (.goto 4, 3) := by decide +kernel
theorem dX1_changeAtom_48 : decode cX1_changeAtom 48 = .ok (.iconst 0, 1) := by decide +kernel
theorem dX1_changeAtom_49 : decode cX1_changeAtom 49 = .ok (.invokevirtual 67, 3) := by decide +kernel
theorem dX1_changeAtom_52 : decode cX1_changeAtom 52 = .ok (.iinc 6 1, 3) := by decide +kernel
theorem dX1_changeAtom_55 : decode cX1_changeAtom 55 = .ok (.goto (-52), 3) := by decide +kernel
theorem dX1_changeAtom_58 : decode cX1_changeAtom 58 = .ok (.return_, 1) := by decide +kernel
def f_X1_changeAtom_52 (F P : Nat) (S : xSt) (rec_3 : Nat → Nat → Int32 → Int32 → Int64 → Int32 → xDt → Option (xDt)) (v0 : Nat) (v1 : Nat) (v2 : Int32) (v3 : Int32) (v4 : Int64) (v6 : Int32) (D : xDt) : Option (xDt) :=
  xlet (v6 + 1) fun v6_1 => rec_3 v0 v1 v2 v3 v4 v6_1 D
set_option maxHeartbeats 4000000 in
theorem t_X1_changeAtom_52 {F P : Nat} {S : xSt} (hS : xWF S) {rec_3 : Nat → Nat → Int32 → Int32 → Int64 → Int32 → xDt → Option (xDt)} (hrec_3 : ∀ {v0 : Nat} {v1 : Nat} {v2 : Int32} {v3 : Int32} {v4 : Int64} {v6 : Int32} {D : xDt} {r : xDt}, xK S v0 1 → xK S v1 10 → rec_3 v0 v1 v2 v3 v4 v6 D = some r → yEx md_X1_changeAtom 1 3 [(0, .ref v0), (1, .ref v1), (2, .int v2), (3, .int v3), (4, .long v4), (6, .int v6)] [] S D (xQv S r)) {v0 : Nat} {v1 : Nat} {v2 : Int32} {v3 : Int32} {v4 : Int64} {v6 : Int32} {D : xDt} {r : xDt} (k0 : xK S v0 1) (k1 : xK S v1 10) (h : f_X1_changeAtom_52 F P S rec_3 v0 v1 v2 v3 v4 v6 D = some r) : yEx md_X1_changeAtom 1 52 [(0, .ref v0), (1, .ref v1), (2, .int v2), (3, .int v3), (4, .long v4), (6, .int v6)] [] S D (xQv S r) := by
  unfold f_X1_changeAtom_52 at h
  refine xlet_e h (fun v6_1 ev6_1 h => ?_)
  refine y_iinc v6_1 ev6_1 (by decide) [(6, .int v6_1), (0, .ref v0), (1, .ref v1), (2, .int v2), (3, .int v3), (4, .long v4)] dX1_changeAtom_52 5 rfl (by show _ < 7; decide) rfl ?_
  refine x_goto 3 dX1_changeAtom_55 (by decide) ?_
  refine x_lv (lv' := [(0, .ref v0), (1, .ref v1), (2, .int v2), (3, .int v3), (4, .long v4), (6, .int v6_1)]) [1, 2, 3, 4, 5, 0] rfl ?_
  exact hrec_3 k0 k1 h

def f_X1_changeAtom_49 (F P : Nat) (S : xSt) (rec_3 : Nat → Nat → Int32 → Int32 → Int64 → Int32 → xDt → Option (xDt)) (v0 : Nat) (v1 : Nat) (v2 : Int32) (v3 : Int32) (v4 : Int64) (v6 : Int32) (s0 : Int32) (s1 : Int32) (s2 : Int32) (s3 : Nat) (D : xDt) : Option (xDt) :=
  (f_X10_setAtom F P S s3 s2 s1 s0 D).bind fun q1 => f_X1_changeAtom_52 F P S rec_3 v0 v1 v2 v3 v4 v6 q1
set_option maxHeartbeats 4000000 in
theorem t_X1_changeAtom_49 {F P : Nat} {S : xSt} (hS : xWF S) {rec_3 : Nat → Nat → Int32 → Int32 → Int64 → Int32 → xDt → Option (xDt)} (hrec_3 : ∀ {v0 : Nat} {v1 : Nat} {v2 : Int32} {v3 : Int32} {v4 : Int64} {v6 : Int32} {D : xDt} {r : xDt}, xK S v0 1 → xK S v1 10 → rec_3 v0 v1 v2 v3 v4 v6 D = some r → yEx md_X1_changeAtom 1 3 [(0, .ref v0), (1, .ref v1), (2, .int v2), (3, .int v3), (4, .long v4), (6, .int v6)] [] S D (xQv S r)) {v0 : Nat} {v1 : Nat} {v2 : Int32} {v3 : Int32} {v4 : Int64} {v6 : Int32} {s0 : Int32} {s1 : Int32} {s2 : Int32} {s3 : Nat} {D : xDt} {r : xDt} (k0 : xK S v0 1) (k1 : xK S v1 10) (ks3 : xK S s3 10) (h : f_X1_changeAtom_49 F P S rec_3 v0 v1 v2 v3 v4 v6 s0 s1 s2 s3 D = some r) : yEx md_X1_changeAtom 1 49 [(0, .ref v0), (1, .ref v1), (2, .int v2), (3, .int v3), (4, .long v4), (6, .int v6)] [.int s0, .int s1, .int s2, .ref s3] S D (xQv S r) := by
  unfold f_X1_changeAtom_49 at h
  refine xbnd_e h (fun q1 e1 h => ?_)
  refine y_callVv (As := [.int s2, .int s1, .int s0]) (q := q1) cv_RX1_67 dX1_changeAtom_49 ks3 rfl (Nat.le_of_ble_eq_true rfl) (by omega) (S_X10_setAtom hS ks3 e1) ?_
  exact t_X1_changeAtom_52 hS hrec_3 k0 k1 h

def f_X1_changeAtom_3s (F P : Nat) (S : xSt) (rec_3 : Nat → Nat → Int32 → Int32 → Int64 → Int32 → xDt → Option (xDt)) (v0 : Nat) (v1 : Nat) (v2 : Int32) (v3 : Int32) (v4 : Int64) (v6 : Int32) (D : xDt) : Option (xDt) :=
  if (D.1 v1 0) ≤ v6 then (some D) else (xgrd (xin v6 (xl S (xr S v0 5))) (if (D.1 (xr S v0 5) (v6).toNatClampNeg) = v2 then (xgrd (xin v6 (xl S (xr S v0 4))) (if (lg_cmp ((jlushr v4 (D.1 (xr S v0 4) (v6).toNatClampNeg)) &&& 1) 0) = 0 then (f_X1_changeAtom_49 F P S rec_3 v0 v1 v2 v3 v4 v6 0 v3 v6 v1 D) else (f_X1_changeAtom_49 F P S rec_3 v0 v1 v2 v3 v4 v6 1 v3 v6 v1 D))) else (f_X1_changeAtom_52 F P S rec_3 v0 v1 v2 v3 v4 v6 D)))
def f_X1_changeAtom_3 (F P : Nat) (S : xSt) : Nat → Nat → Nat → Int32 → Int32 → Int64 → Int32 → xDt → Option (xDt)
  | 0 => fun _ _ _ _ _ _ _ => none
  | n + 1 => f_X1_changeAtom_3s F P S (f_X1_changeAtom_3 F P S n)
set_option maxHeartbeats 4000000 in
theorem t_X1_changeAtom_3s {F P : Nat} {S : xSt} (hS : xWF S) {rec_3 : Nat → Nat → Int32 → Int32 → Int64 → Int32 → xDt → Option (xDt)} (hrec_3 : ∀ {v0 : Nat} {v1 : Nat} {v2 : Int32} {v3 : Int32} {v4 : Int64} {v6 : Int32} {D : xDt} {r : xDt}, xK S v0 1 → xK S v1 10 → rec_3 v0 v1 v2 v3 v4 v6 D = some r → yEx md_X1_changeAtom 1 3 [(0, .ref v0), (1, .ref v1), (2, .int v2), (3, .int v3), (4, .long v4), (6, .int v6)] [] S D (xQv S r)) {v0 : Nat} {v1 : Nat} {v2 : Int32} {v3 : Int32} {v4 : Int64} {v6 : Int32} {D : xDt} {r : xDt} (k0 : xK S v0 1) (k1 : xK S v1 10) (h : f_X1_changeAtom_3s F P S rec_3 v0 v1 v2 v3 v4 v6 D = some r) : yEx md_X1_changeAtom 1 3 [(0, .ref v0), (1, .ref v1), (2, .int v2), (3, .int v3), (4, .long v4), (6, .int v6)] [] S D (xQv S r) := by
  unfold f_X1_changeAtom_3s at h
  refine x_iload dX1_changeAtom_3 5 rfl ?_
  refine x_aload_n dX1_changeAtom_5 1 rfl ?_
  refine y_geti fl_RX1_54 dX1_changeAtom_6 rfl k1 ?_
  refine x_icmp_ge 58 dX1_changeAtom_9 (by decide) (fun c => ?_) (fun c => ?_)
  · rw [if_pos c] at h
    obtain rfl := Option.some.inj h
    exact y_vret rfl dX1_changeAtom_58
  · rw [if_neg c] at h
    refine x_aload_n dX1_changeAtom_12 0 rfl ?_
    refine y_getr (kd := 100) hS fl_RX1_28 dX1_changeAtom_13 rfl k0 ?_
    refine x_iload dX1_changeAtom_16 5 rfl ?_
    refine xgrd_e h (fun g1 h => ?_)
    refine y_iald dX1_changeAtom_18 ((hS.f k0 5 100 rfl).2) g1 ?_
    refine x_iload_n dX1_changeAtom_19 2 rfl ?_
    refine x_icmp_ne 52 dX1_changeAtom_20 (by decide) (fun c => ?_) (fun c => ?_)
    · rw [if_neg c] at h
      exact t_X1_changeAtom_52 hS hrec_3 k0 k1 h
    · rw [if_pos c] at h
      refine x_aload_n dX1_changeAtom_23 1 rfl ?_
      refine x_iload dX1_changeAtom_24 5 rfl ?_
      refine x_iload_n dX1_changeAtom_26 3 rfl ?_
      refine x_lload dX1_changeAtom_27 4 rfl ?_
      refine x_aload_n dX1_changeAtom_29 0 rfl ?_
      refine y_getr (kd := 100) hS fl_RX1_25 dX1_changeAtom_30 rfl k0 ?_
      refine x_iload dX1_changeAtom_33 5 rfl ?_
      refine xgrd_e h (fun g2 h => ?_)
      refine y_iald dX1_changeAtom_35 ((hS.f k0 4 100 rfl).2) g2 ?_
      refine x_lushr dX1_changeAtom_36 ?_
      refine x_lconst 1 dX1_changeAtom_37 (by decide) ?_
      refine x_land dX1_changeAtom_38 ?_
      refine x_lconst 0 dX1_changeAtom_39 (by decide) ?_
      refine x_lcmp dX1_changeAtom_40 ?_
      refine x_if_eq 48 dX1_changeAtom_41 (by decide) (fun c => ?_) (fun c => ?_)
      · rw [if_pos c] at h
        refine x_iconst 0 dX1_changeAtom_48 (by decide) ?_
        exact t_X1_changeAtom_49 hS hrec_3 k0 k1 k1 h
      · rw [if_neg c] at h
        refine x_iconst 1 dX1_changeAtom_44 (by decide) ?_
        refine x_goto 49 dX1_changeAtom_45 (by decide) ?_
        exact t_X1_changeAtom_49 hS hrec_3 k0 k1 k1 h
theorem t_X1_changeAtom_3 {F P : Nat} {S : xSt} (hS : xWF S) : ∀ (n : Nat) {v0 : Nat} {v1 : Nat} {v2 : Int32} {v3 : Int32} {v4 : Int64} {v6 : Int32} {D : xDt} {r : xDt}, xK S v0 1 → xK S v1 10 → f_X1_changeAtom_3 F P S n v0 v1 v2 v3 v4 v6 D = some r → yEx md_X1_changeAtom 1 3 [(0, .ref v0), (1, .ref v1), (2, .int v2), (3, .int v3), (4, .long v4), (6, .int v6)] [] S D (xQv S r) := by
  intro n
  induction n with
  | zero => intros; rename_i h; cases h
  | succ n ih =>
    intro v0 v1 v2 v3 v4 v6 D r k0 k1 h
    exact t_X1_changeAtom_3s hS (fun k0 k1 h => ih k0 k1 h) k0 k1 h

def f_X1_changeAtom (F P : Nat) (S : xSt) (v0 : Nat) (v1 : Nat) (v2 : Int32) (v3 : Int32) (v4 : Int64) (D : xDt) : Option (xDt) :=
  f_X1_changeAtom_3 F P S F v0 v1 v2 v3 v4 0 D
set_option maxHeartbeats 4000000 in
theorem S_X1_changeAtom {F P : Nat} {S : xSt} (hS : xWF S) {v0 : Nat} {v1 : Nat} {v2 : Int32} {v3 : Int32} {v4 : Int64} {D : xDt} {r : xDt} (k0 : xK S v0 1) (k1 : xK S v1 10) (h : f_X1_changeAtom F P S v0 v1 v2 v3 v4 D = some r) : xSp md_X1_changeAtom (1, 0, 0) [.ref v0, .ref v1, .int v2, .int v3, .long v4] (S, D) (xQv S r) := by
  unfold f_X1_changeAtom at h
  refine xEntry (by decide) (Nat.le_of_ble_eq_true rfl) ?_
  refine x_lv (lv' := [(0, .ref v0), (1, .ref v1), (2, .int v2), (3, .int v3), (4, .long v4)]) [0, 1, 2, 3, 4] rfl ?_
  refine x_iconst 0 dX1_changeAtom_0 (by decide) ?_
  refine y_istore 0 rfl [(6, .int 0), (0, .ref v0), (1, .ref v1), (2, .int v2), (3, .int v3), (4, .long v4)] dX1_changeAtom_1 (by show _ < 7; decide) rfl ?_
  refine x_lv (lv' := [(0, .ref v0), (1, .ref v1), (2, .int v2), (3, .int v3), (4, .long v4), (6, .int 0)]) [1, 2, 3, 4, 5, 0] rfl ?_
  exact t_X1_changeAtom_3 hS F k0 k1 h

theorem dX1_changeAtoms_0 : decode cX1_changeAtoms 0 = .ok (.iconst 0, 1) := by decide +kernel
theorem dX1_changeAtoms_1 : decode cX1_changeAtoms 1 = .ok (.istore 4, 2) := by decide +kernel
theorem dX1_changeAtoms_3 : decode cX1_changeAtoms 3 = .ok (.iload 4, 2) := by decide +kernel
theorem dX1_changeAtoms_5 : decode cX1_changeAtoms 5 = .ok (.aload_n 0, 1) := by decide +kernel
theorem dX1_changeAtoms_6 : decode cX1_changeAtoms 6 = .ok (.getfield 34, 3) := by decide +kernel
theorem dX1_changeAtoms_9 : decode cX1_changeAtoms 9 = .ok (.if_icmp .ge 66, 3) := by decide +kernel
theorem dX1_changeAtoms_12 : decode cX1_changeAtoms 12 = .ok (.iconst 0, 1) := by decide +kernel
theorem dX1_changeAtoms_13 : decode cX1_changeAtoms 13 = .ok (.istore 5, 2) := by decide +kernel
theorem dX1_changeAtoms_15 : decode cX1_changeAtoms 15 = .ok (.iload 5, 2) := by decide +kernel
theorem dX1_changeAtoms_17 : decode cX1_changeAtoms 17 = .ok (.bipush 8, 2) := by decide +kernel
theorem dX1_changeAtoms_19 : decode cX1_changeAtoms 19 = .ok (.if_icmp .ge 50, 3) := by decide +kernel
theorem dX1_changeAtoms_22 : decode cX1_changeAtoms 22 = .ok (.aload_n 0, 1) := by decide +kernel
theorem dX1_changeAtoms_23 : decode cX1_changeAtoms 23 = .ok (.getfield 13, 3) := by decide +kernel
theorem dX1_changeAtoms_26 : decode cX1_changeAtoms 26 = .ok (.iload 4, 2) := by decide +kernel
theorem dX1_changeAtoms_28 : decode cX1_changeAtoms 28 = .ok (.bipush 9, 2) := by decide +kernel
theorem dX1_changeAtoms_30 : decode cX1_changeAtoms 30 = .ok (.imul, 1) := by decide +kernel
theorem dX1_changeAtoms_31 : decode cX1_changeAtoms 31 = .ok (.iconst 1, 1) := by decide +kernel
theorem dX1_changeAtoms_32 : decode cX1_changeAtoms 32 = .ok (.iadd, 1) := by decide +kernel
theorem dX1_changeAtoms_33 : decode cX1_changeAtoms 33 = .ok (.iload 5, 2) := by decide +kernel
theorem dX1_changeAtoms_35 : decode cX1_changeAtoms 35 = .ok (.iadd, 1) := by decide +kernel
theorem dX1_changeAtoms_36 : decode cX1_changeAtoms 36 = .ok (.aaload, 1) := by decide +kernel
theorem dX1_changeAtoms_37 : decode cX1_changeAtoms 37 = .ok (.astore 6, 2) := by decide +kernel
theorem dX1_changeAtoms_39 : decode cX1_changeAtoms 39 = .ok (.aload 6, 2) := by decide +kernel
theorem dX1_changeAtoms_41 : decode cX1_changeAtoms 41 = .ok (.getfield 38, 3) := by decide +kernel
theorem dX1_changeAtoms_44 : decode cX1_changeAtoms 44 = .ok (.ifCond .le 19, 3) := by decide +kernel
theorem dX1_changeAtoms_47 : decode cX1_changeAtoms 47 = .ok (.aload_n 0, 1) := by decide +kernel
theorem dX1_changeAtoms_48 : decode cX1_changeAtoms 48 = .ok (.aload_n 1, 1) := by decide +kernel
theorem dX1_changeAtoms_49 : decode cX1_changeAtoms 49 = .ok (.iload 4, 2) := by decide +kernel
theorem dX1_changeAtoms_51 : decode cX1_changeAtoms 51 = .ok (.iload 5, 2) := by decide +kernel
theorem dX1_changeAtoms_53 : decode cX1_changeAtoms 53 = .ok (.aload_n 3, 1) := by decide +kernel
theorem dX1_changeAtoms_54 : decode cX1_changeAtoms 54 = .ok (.aload 6, 2) := by decide +kernel
theorem dX1_changeAtoms_56 : decode cX1_changeAtoms 56 = .ok (.aload_n 2, 1) := by decide +kernel
theorem dX1_changeAtoms_57 : decode cX1_changeAtoms 57 = .ok (.invokevirtual 49, 3) := by decide +kernel
theorem dX1_changeAtoms_60 : decode cX1_changeAtoms 60 = .ok (.invokevirtual 63, 3) := by decide +kernel
theorem dX1_changeAtoms_63 : decode cX1_changeAtoms 63 = .ok (.iinc 5 1, 3) := by decide +kernel
theorem dX1_changeAtoms_66 : decode cX1_changeAtoms 66 = .ok (.goto (-51), 3) := by decide +kernel
theorem dX1_changeAtoms_69 : decode cX1_changeAtoms 69 = .ok (.iinc 4 1, 3) := by decide +kernel
theorem dX1_changeAtoms_72 : decode cX1_changeAtoms 72 = .ok (.goto (-69), 3) := by decide +kernel
theorem dX1_changeAtoms_75 : decode cX1_changeAtoms 75 = .ok (.return_, 1) := by decide +kernel
def f_X1_changeAtoms_63 (F P : Nat) (S : xSt) (rec_3 : Nat → Nat → Nat → Nat → Int32 → xDt → Option (xDt)) (rec_15 : Nat → Nat → Nat → Nat → Int32 → Int32 → xDt → Option (xDt)) (v0 : Nat) (v1 : Nat) (v2 : Nat) (v3 : Nat) (v4 : Int32) (v5 : Int32) (D : xDt) : Option (xDt) :=
  xlet (v5 + 1) fun v5_1 => rec_15 v0 v1 v2 v3 v4 v5_1 D
set_option maxHeartbeats 4000000 in
theorem t_X1_changeAtoms_63 {F P : Nat} {S : xSt} (hS : xWF S) {rec_3 : Nat → Nat → Nat → Nat → Int32 → xDt → Option (xDt)} (hrec_3 : ∀ {v0 : Nat} {v1 : Nat} {v2 : Nat} {v3 : Nat} {v4 : Int32} {D : xDt} {r : xDt}, xK S v0 1 → xK S v1 10 → xK S v2 10 → xK S v3 3 → rec_3 v0 v1 v2 v3 v4 D = some r → yEx md_X1_changeAtoms 5 3 [(0, .ref v0), (1, .ref v1), (2, .ref v2), (3, .ref v3), (4, .int v4)] [] S D (xQv S r)) {rec_15 : Nat → Nat → Nat → Nat → Int32 → Int32 → xDt → Option (xDt)} (hrec_15 : ∀ {v0 : Nat} {v1 : Nat} {v2 : Nat} {v3 : Nat} {v4 : Int32} {v5 : Int32} {D : xDt} {r : xDt}, xK S v0 1 → xK S v1 10 → xK S v2 10 → xK S v3 3 → rec_15 v0 v1 v2 v3 v4 v5 D = some r → yEx md_X1_changeAtoms 5 15 [(0, .ref v0), (1, .ref v1), (2, .ref v2), (3, .ref v3), (4, .int v4), (5, .int v5)] [] S D (xQv S r)) {v0 : Nat} {v1 : Nat} {v2 : Nat} {v3 : Nat} {v4 : Int32} {v5 : Int32} {D : xDt} {r : xDt} (k0 : xK S v0 1) (k1 : xK S v1 10) (k2 : xK S v2 10) (k3 : xK S v3 3) (h : f_X1_changeAtoms_63 F P S rec_3 rec_15 v0 v1 v2 v3 v4 v5 D = some r) : yEx md_X1_changeAtoms 5 63 [(0, .ref v0), (1, .ref v1), (2, .ref v2), (3, .ref v3), (4, .int v4), (5, .int v5)] [] S D (xQv S r) := by
  unfold f_X1_changeAtoms_63 at h
  refine xlet_e h (fun v5_1 ev5_1 h => ?_)
  refine y_iinc v5_1 ev5_1 (by decide) [(5, .int v5_1), (0, .ref v0), (1, .ref v1), (2, .ref v2), (3, .ref v3), (4, .int v4)] dX1_changeAtoms_63 5 rfl (by show _ < 7; decide) rfl ?_
  refine x_goto 15 dX1_changeAtoms_66 (by decide) ?_
  refine x_lv (lv' := [(0, .ref v0), (1, .ref v1), (2, .ref v2), (3, .ref v3), (4, .int v4), (5, .int v5_1)]) [1, 2, 3, 4, 5, 0] rfl ?_
  exact hrec_15 k0 k1 k2 k3 h

def f_X1_changeAtoms_15s (F P : Nat) (S : xSt) (rec_3 : Nat → Nat → Nat → Nat → Int32 → xDt → Option (xDt)) (rec_15 : Nat → Nat → Nat → Nat → Int32 → Int32 → xDt → Option (xDt)) (v0 : Nat) (v1 : Nat) (v2 : Nat) (v3 : Nat) (v4 : Int32) (v5 : Int32) (D : xDt) : Option (xDt) :=
  if 8 ≤ v5 then (xlet (v4 + 1) fun v4_1 => rec_3 v0 v1 v2 v3 v4_1 D) else (xgrd (xin (((v4 * 9) + 1) + v5) (xl S (xr S v0 1))) (if (D.1 (xr S (xr S v0 1) (((v4 * 9) + 1) + v5).toNatClampNeg) 1) ≤ 0 then (f_X1_changeAtoms_63 F P S rec_3 rec_15 v0 v1 v2 v3 v4 v5 D) else ((f_X3_where F P S v3 (xr S (xr S v0 1) (((v4 * 9) + 1) + v5).toNatClampNeg) v2 D).bind fun q3 => (f_X1_changeAtom F P S v0 v1 v4 v5 q3.1 q3.2).bind fun q4 => f_X1_changeAtoms_63 F P S rec_3 rec_15 v0 v1 v2 v3 v4 v5 q4)))
def f_X1_changeAtoms_15 (F P : Nat) (S : xSt) (rec_3 : Nat → Nat → Nat → Nat → Int32 → xDt → Option (xDt)) : Nat → Nat → Nat → Nat → Nat → Int32 → Int32 → xDt → Option (xDt)
  | 0 => fun _ _ _ _ _ _ _ => none
  | n + 1 => f_X1_changeAtoms_15s F P S rec_3 (f_X1_changeAtoms_15 F P S rec_3 n)
set_option maxHeartbeats 4000000 in
theorem t_X1_changeAtoms_15s {F P : Nat} {S : xSt} (hS : xWF S) {rec_3 : Nat → Nat → Nat → Nat → Int32 → xDt → Option (xDt)} (hrec_3 : ∀ {v0 : Nat} {v1 : Nat} {v2 : Nat} {v3 : Nat} {v4 : Int32} {D : xDt} {r : xDt}, xK S v0 1 → xK S v1 10 → xK S v2 10 → xK S v3 3 → rec_3 v0 v1 v2 v3 v4 D = some r → yEx md_X1_changeAtoms 5 3 [(0, .ref v0), (1, .ref v1), (2, .ref v2), (3, .ref v3), (4, .int v4)] [] S D (xQv S r)) {rec_15 : Nat → Nat → Nat → Nat → Int32 → Int32 → xDt → Option (xDt)} (hrec_15 : ∀ {v0 : Nat} {v1 : Nat} {v2 : Nat} {v3 : Nat} {v4 : Int32} {v5 : Int32} {D : xDt} {r : xDt}, xK S v0 1 → xK S v1 10 → xK S v2 10 → xK S v3 3 → rec_15 v0 v1 v2 v3 v4 v5 D = some r → yEx md_X1_changeAtoms 5 15 [(0, .ref v0), (1, .ref v1), (2, .ref v2), (3, .ref v3), (4, .int v4), (5, .int v5)] [] S D (xQv S r)) {v0 : Nat} {v1 : Nat} {v2 : Nat} {v3 : Nat} {v4 : Int32} {v5 : Int32} {D : xDt} {r : xDt} (k0 : xK S v0 1) (k1 : xK S v1 10) (k2 : xK S v2 10) (k3 : xK S v3 3) (h : f_X1_changeAtoms_15s F P S rec_3 rec_15 v0 v1 v2 v3 v4 v5 D = some r) : yEx md_X1_changeAtoms 5 15 [(0, .ref v0), (1, .ref v1), (2, .ref v2), (3, .ref v3), (4, .int v4), (5, .int v5)] [] S D (xQv S r) := by
  unfold f_X1_changeAtoms_15s at h
  refine x_iload dX1_changeAtoms_15 5 rfl ?_
  refine x_bipush 8 dX1_changeAtoms_17 (by decide) ?_
  refine x_icmp_ge 69 dX1_changeAtoms_19 (by decide) (fun c => ?_) (fun c => ?_)
  · rw [if_pos c] at h
    refine xlet_e h (fun v4_1 ev4_1 h => ?_)
    refine y_iinc v4_1 ev4_1 (by decide) [(4, .int v4_1), (0, .ref v0), (1, .ref v1), (2, .ref v2), (3, .ref v3), (5, .int v5)] dX1_changeAtoms_69 4 rfl (by show _ < 7; decide) rfl ?_
    refine x_goto 3 dX1_changeAtoms_72 (by decide) ?_
    refine x_lv (lv' := [(0, .ref v0), (1, .ref v1), (2, .ref v2), (3, .ref v3), (4, .int v4_1)]) [1, 2, 3, 4, 0] rfl ?_
    exact hrec_3 k0 k1 k2 k3 h
  · rw [if_neg c] at h
    refine x_aload_n dX1_changeAtoms_22 0 rfl ?_
    refine y_getr (kd := 202) hS fl_RX1_13 dX1_changeAtoms_23 rfl k0 ?_
    refine x_iload dX1_changeAtoms_26 4 rfl ?_
    refine x_bipush 9 dX1_changeAtoms_28 (by decide) ?_
    refine x_imul dX1_changeAtoms_30 ?_
    refine x_iconst 1 dX1_changeAtoms_31 (by decide) ?_
    refine x_iadd dX1_changeAtoms_32 ?_
    refine x_iload dX1_changeAtoms_33 5 rfl ?_
    refine x_iadd dX1_changeAtoms_35 ?_
    refine xgrd_e h (fun g2 h => ?_)
    refine y_aald hS dX1_changeAtoms_36 ((hS.f k0 1 202 rfl).2) (by decide) g2 ?_
    refine x_astore [(6, .ref (xr S (xr S v0 1) (((v4 * 9) + 1) + v5).toNatClampNeg)), (0, .ref v0), (1, .ref v1), (2, .ref v2), (3, .ref v3), (4, .int v4), (5, .int v5)] dX1_changeAtoms_37 (by show _ < 7; decide) rfl ?_
    refine x_aload dX1_changeAtoms_39 0 rfl ?_
    refine y_geti fl_RX1_38 dX1_changeAtoms_41 rfl ((hS.e ((hS.f k0 1 202 rfl).2) (by decide) (xin_lt g2)).2) ?_
    refine x_if_le 63 dX1_changeAtoms_44 (by decide) (fun c => ?_) (fun c => ?_)
    · rw [if_pos c] at h
      refine x_lv (lv' := [(0, .ref v0), (1, .ref v1), (2, .ref v2), (3, .ref v3), (4, .int v4), (5, .int v5)]) [1, 2, 3, 4, 5, 6] rfl ?_
      exact t_X1_changeAtoms_63 hS hrec_3 hrec_15 k0 k1 k2 k3 h
    · rw [if_neg c] at h
      refine x_aload_n dX1_changeAtoms_47 1 rfl ?_
      refine x_aload_n dX1_changeAtoms_48 2 rfl ?_
      refine x_iload dX1_changeAtoms_49 5 rfl ?_
      refine x_iload dX1_changeAtoms_51 6 rfl ?_
      refine x_aload_n dX1_changeAtoms_53 4 rfl ?_
      refine x_aload dX1_changeAtoms_54 0 rfl ?_
      refine x_aload_n dX1_changeAtoms_56 3 rfl ?_
      refine xbnd_e h (fun q3 e3 h => ?_)
      refine y_callVl (As := [.ref (xr S (xr S v0 1) (((v4 * 9) + 1) + v5).toNatClampNeg), .ref v2]) (q := q3) cv_RX1_49 dX1_changeAtoms_57 k3 rfl (Nat.le_of_ble_eq_true rfl) (by omega) (S_X3_where hS k3 ((hS.e ((hS.f k0 1 202 rfl).2) (by decide) (xin_lt g2)).2) k2 e3) ?_
      refine xbnd_e h (fun q4 e4 h => ?_)
      refine y_callVv (As := [.ref v1, .int v4, .int v5, .long q3.1]) (q := q4) cv_RX1_63 dX1_changeAtoms_60 k0 rfl (Nat.le_of_ble_eq_true rfl) (by omega) (S_X1_changeAtom hS k0 k1 e4) ?_
      refine x_lv (lv' := [(0, .ref v0), (1, .ref v1), (2, .ref v2), (3, .ref v3), (4, .int v4), (5, .int v5)]) [1, 2, 3, 4, 5, 6] rfl ?_
      exact t_X1_changeAtoms_63 hS hrec_3 hrec_15 k0 k1 k2 k3 h
theorem t_X1_changeAtoms_15 {F P : Nat} {S : xSt} (hS : xWF S) {rec_3 : Nat → Nat → Nat → Nat → Int32 → xDt → Option (xDt)} (hrec_3 : ∀ {v0 : Nat} {v1 : Nat} {v2 : Nat} {v3 : Nat} {v4 : Int32} {D : xDt} {r : xDt}, xK S v0 1 → xK S v1 10 → xK S v2 10 → xK S v3 3 → rec_3 v0 v1 v2 v3 v4 D = some r → yEx md_X1_changeAtoms 5 3 [(0, .ref v0), (1, .ref v1), (2, .ref v2), (3, .ref v3), (4, .int v4)] [] S D (xQv S r)) : ∀ (n : Nat) {v0 : Nat} {v1 : Nat} {v2 : Nat} {v3 : Nat} {v4 : Int32} {v5 : Int32} {D : xDt} {r : xDt}, xK S v0 1 → xK S v1 10 → xK S v2 10 → xK S v3 3 → f_X1_changeAtoms_15 F P S rec_3 n v0 v1 v2 v3 v4 v5 D = some r → yEx md_X1_changeAtoms 5 15 [(0, .ref v0), (1, .ref v1), (2, .ref v2), (3, .ref v3), (4, .int v4), (5, .int v5)] [] S D (xQv S r) := by
  intro n
  induction n with
  | zero => intros; rename_i h; cases h
  | succ n ih =>
    intro v0 v1 v2 v3 v4 v5 D r k0 k1 k2 k3 h
    exact t_X1_changeAtoms_15s hS hrec_3 (fun k0 k1 k2 k3 h => ih k0 k1 k2 k3 h) k0 k1 k2 k3 h

def f_X1_changeAtoms_3s (F P : Nat) (S : xSt) (rec_3 : Nat → Nat → Nat → Nat → Int32 → xDt → Option (xDt)) (v0 : Nat) (v1 : Nat) (v2 : Nat) (v3 : Nat) (v4 : Int32) (D : xDt) : Option (xDt) :=
  if (D.1 v0 0) ≤ v4 then (some D) else (f_X1_changeAtoms_15 F P S rec_3 F v0 v1 v2 v3 v4 0 D)
def f_X1_changeAtoms_3 (F P : Nat) (S : xSt) : Nat → Nat → Nat → Nat → Nat → Int32 → xDt → Option (xDt)
  | 0 => fun _ _ _ _ _ _ => none
  | n + 1 => f_X1_changeAtoms_3s F P S (f_X1_changeAtoms_3 F P S n)
set_option maxHeartbeats 4000000 in
theorem t_X1_changeAtoms_3s {F P : Nat} {S : xSt} (hS : xWF S) {rec_3 : Nat → Nat → Nat → Nat → Int32 → xDt → Option (xDt)} (hrec_3 : ∀ {v0 : Nat} {v1 : Nat} {v2 : Nat} {v3 : Nat} {v4 : Int32} {D : xDt} {r : xDt}, xK S v0 1 → xK S v1 10 → xK S v2 10 → xK S v3 3 → rec_3 v0 v1 v2 v3 v4 D = some r → yEx md_X1_changeAtoms 5 3 [(0, .ref v0), (1, .ref v1), (2, .ref v2), (3, .ref v3), (4, .int v4)] [] S D (xQv S r)) {v0 : Nat} {v1 : Nat} {v2 : Nat} {v3 : Nat} {v4 : Int32} {D : xDt} {r : xDt} (k0 : xK S v0 1) (k1 : xK S v1 10) (k2 : xK S v2 10) (k3 : xK S v3 3) (h : f_X1_changeAtoms_3s F P S rec_3 v0 v1 v2 v3 v4 D = some r) : yEx md_X1_changeAtoms 5 3 [(0, .ref v0), (1, .ref v1), (2, .ref v2), (3, .ref v3), (4, .int v4)] [] S D (xQv S r) := by
  unfold f_X1_changeAtoms_3s at h
  refine x_iload dX1_changeAtoms_3 4 rfl ?_
  refine x_aload_n dX1_changeAtoms_5 0 rfl ?_
  refine y_geti fl_RX1_34 dX1_changeAtoms_6 rfl k0 ?_
  refine x_icmp_ge 75 dX1_changeAtoms_9 (by decide) (fun c => ?_) (fun c => ?_)
  · rw [if_pos c] at h
    obtain rfl := Option.some.inj h
    exact y_vret rfl dX1_changeAtoms_75
  · rw [if_neg c] at h
    refine x_iconst 0 dX1_changeAtoms_12 (by decide) ?_
    refine y_istore 0 rfl [(5, .int 0), (0, .ref v0), (1, .ref v1), (2, .ref v2), (3, .ref v3), (4, .int v4)] dX1_changeAtoms_13 (by show _ < 7; decide) rfl ?_
    refine x_lv (lv' := [(0, .ref v0), (1, .ref v1), (2, .ref v2), (3, .ref v3), (4, .int v4), (5, .int 0)]) [1, 2, 3, 4, 5, 0] rfl ?_
    exact t_X1_changeAtoms_15 hS hrec_3 F k0 k1 k2 k3 h
theorem t_X1_changeAtoms_3 {F P : Nat} {S : xSt} (hS : xWF S) : ∀ (n : Nat) {v0 : Nat} {v1 : Nat} {v2 : Nat} {v3 : Nat} {v4 : Int32} {D : xDt} {r : xDt}, xK S v0 1 → xK S v1 10 → xK S v2 10 → xK S v3 3 → f_X1_changeAtoms_3 F P S n v0 v1 v2 v3 v4 D = some r → yEx md_X1_changeAtoms 5 3 [(0, .ref v0), (1, .ref v1), (2, .ref v2), (3, .ref v3), (4, .int v4)] [] S D (xQv S r) := by
  intro n
  induction n with
  | zero => intros; rename_i h; cases h
  | succ n ih =>
    intro v0 v1 v2 v3 v4 D r k0 k1 k2 k3 h
    exact t_X1_changeAtoms_3s hS (fun k0 k1 k2 k3 h => ih k0 k1 k2 k3 h) k0 k1 k2 k3 h

def f_X1_changeAtoms (F P : Nat) (S : xSt) (v0 : Nat) (v1 : Nat) (v2 : Nat) (v3 : Nat) (D : xDt) : Option (xDt) :=
  f_X1_changeAtoms_3 F P S F v0 v1 v2 v3 0 D
set_option maxHeartbeats 4000000 in
theorem S_X1_changeAtoms {F P : Nat} {S : xSt} (hS : xWF S) {v0 : Nat} {v1 : Nat} {v2 : Nat} {v3 : Nat} {D : xDt} {r : xDt} (k0 : xK S v0 1) (k1 : xK S v1 10) (k2 : xK S v2 10) (k3 : xK S v3 3) (h : f_X1_changeAtoms F P S v0 v1 v2 v3 D = some r) : xSp md_X1_changeAtoms (5, 0, 0) [.ref v0, .ref v1, .ref v2, .ref v3] (S, D) (xQv S r) := by
  unfold f_X1_changeAtoms at h
  refine xEntry (by decide) (Nat.le_of_ble_eq_true rfl) ?_
  refine x_lv (lv' := [(0, .ref v0), (1, .ref v1), (2, .ref v2), (3, .ref v3)]) [0, 1, 2, 3] rfl ?_
  refine x_iconst 0 dX1_changeAtoms_0 (by decide) ?_
  refine y_istore 0 rfl [(4, .int 0), (0, .ref v0), (1, .ref v1), (2, .ref v2), (3, .ref v3)] dX1_changeAtoms_1 (by show _ < 7; decide) rfl ?_
  refine x_lv (lv' := [(0, .ref v0), (1, .ref v1), (2, .ref v2), (3, .ref v3), (4, .int 0)]) [1, 2, 3, 4, 0] rfl ?_
  exact t_X1_changeAtoms_3 hS F k0 k1 k2 k3 h

theorem dX2_add_0 : decode cX2_add 0 = .ok (.aload_n 0, 1) := by decide +kernel
theorem dX2_add_1 : decode cX2_add 1 = .ok (.getfield 19, 3) := by decide +kernel
theorem dX2_add_4 : decode cX2_add 4 = .ok (.aload_n 0, 1) := by decide +kernel
theorem dX2_add_5 : decode cX2_add 5 = .ok (.getfield 13, 3) := by decide +kernel
theorem dX2_add_8 : decode cX2_add 8 = .ok (.arraylength, 1) := by decide +kernel
theorem dX2_add_9 : decode cX2_add 9 = .ok (.if_icmp .lt 5, 3) := by decide +kernel
theorem dX2_add_12 : decode cX2_add 12 = .ok (.iconst 0, 1) := by decide +kernel
theorem dX2_add_13 : decode cX2_add 13 = .ok (.ireturn, 1) := by decide +kernel
theorem dX2_add_14 : decode cX2_add 14 = .ok (.aload_n 0, 1) := by decide +kernel
theorem dX2_add_15 : decode cX2_add 15 = .ok (.getfield 13, 3) := by decide +kernel
theorem dX2_add_18 : decode cX2_add 18 = .ok (.aload_n 0, 1) := by decide +kernel
theorem dX2_add_19 : decode cX2_add 19 = .ok (.dup, 1) := by decide +kernel
theorem dX2_add_20 : decode cX2_add 20 = .ok (.getfield 19, 3) := by decide +kernel
theorem dX2_add_23 : decode cX2_add 23 = .ok (.dup_x1, 1) := by decide +kernel
theorem dX2_add_24 : decode cX2_add 24 = .ok (.iconst 1, 1) := by decide +kernel
theorem dX2_add_25 : decode cX2_add 25 = .ok (.iadd, 1) := by decide +kernel
theorem dX2_add_26 : decode cX2_add 26 = .ok (.putfield 19, 3) := by decide +kernel
theorem dX2_add_29 : decode cX2_add 29 = .ok (.iload_n 1, 1) := by decide +kernel
theorem dX2_add_30 : decode cX2_add 30 = .ok (.iastore, 1) := by decide +kernel
theorem dX2_add_31 : decode cX2_add 31 = .ok (.iconst 1, 1) := by decide +kernel
theorem dX2_add_32 : decode cX2_add 32 = .ok (.ireturn, 1) := by decide +kernel
def f_X2_add (F P : Nat) (S : xSt) (v0 : Nat) (v1 : Int32) (D : xDt) : Option (Int32 × xDt) :=
  if (D.1 v0 1) < (Int32.ofNat (xl S (xr S v0 0))) then (xlet (xup D.1 v0 1 ((D.1 v0 1) + 1), D.2) fun D1 => xgrd (xin (D.1 v0 1) (xl S (xr S v0 0))) (xlet (xup D1.1 (xr S v0 0) (D.1 v0 1).toNatClampNeg v1, D1.2) fun D3 => some (1, D3))) else (some (0, D))
set_option maxHeartbeats 4000000 in
theorem S_X2_add {F P : Nat} {S : xSt} (hS : xWF S) {v0 : Nat} {v1 : Int32} {D : xDt} {r : Int32 × xDt} (k0 : xK S v0 2) (h : f_X2_add F P S v0 v1 D = some r) : xSp md_X2_add (0, 0, 0) [.ref v0, .int v1] (S, D) (xQi S r) := by
  unfold f_X2_add at h
  refine xEntry (by decide) (Nat.le_of_ble_eq_true rfl) ?_
  refine x_lv (lv' := [(0, .ref v0), (1, .int v1)]) [0, 1] rfl ?_
  refine x_aload_n dX2_add_0 0 rfl ?_
  refine y_geti fl_RX2_19 dX2_add_1 rfl k0 ?_
  refine x_aload_n dX2_add_4 0 rfl ?_
  refine y_getr (kd := 100) hS fl_RX2_13 dX2_add_5 rfl k0 ?_
  refine y_alen dX2_add_8 ((hS.f k0 0 100 rfl).2) (by decide) ?_
  refine x_icmp_lt 14 dX2_add_9 (by decide) (fun c => ?_) (fun c => ?_)
  · rw [if_pos c] at h
    refine x_aload_n dX2_add_14 0 rfl ?_
    refine y_getr (kd := 100) hS fl_RX2_13 dX2_add_15 rfl k0 ?_
    refine x_aload_n dX2_add_18 0 rfl ?_
    refine x_dup dX2_add_19 rfl ?_
    refine y_geti fl_RX2_19 dX2_add_20 rfl k0 ?_
    refine x_dup_x1 dX2_add_23 rfl rfl ?_
    refine x_iconst 1 dX2_add_24 (by decide) ?_
    refine x_iadd dX2_add_25 ?_
    refine xlet_e h (fun D1 eD1 h => ?_)
    refine y_puti fp_RX2_19 dX2_add_26 rfl k0 eD1 ?_
    refine x_iload_n dX2_add_29 1 rfl ?_
    refine xgrd_e h (fun g2 h => ?_)
    refine xlet_e h (fun D3 eD3 h => ?_)
    refine y_iast dX2_add_30 ((hS.f k0 0 100 rfl).2) g2 eD3 ?_
    refine x_iconst 1 dX2_add_31 (by decide) ?_
    obtain rfl := Option.some.inj h
    exact y_zret rfl rfl dX2_add_32
  · rw [if_neg c] at h
    refine x_iconst 0 dX2_add_12 (by decide) ?_
    obtain rfl := Option.some.inj h
    exact y_zret rfl rfl dX2_add_13

theorem dX2_insert_0 : decode cX2_insert 0 = .ok (.iload_n 1, 1) := by decide +kernel
theorem dX2_insert_1 : decode cX2_insert 1 = .ok (.ifCond .lt 23, 3) := by decide +kernel
theorem dX2_insert_4 : decode cX2_insert 4 = .ok (.iload_n 1, 1) := by decide +kernel
theorem dX2_insert_5 : decode cX2_insert 5 = .ok (.aload_n 0, 1) := by decide +kernel
theorem dX2_insert_6 : decode cX2_insert 6 = .ok (.getfield 19, 3) := by decide +kernel
theorem dX2_insert_9 : decode cX2_insert 9 = .ok (.if_icmp .gt 15, 3) := by decide +kernel
theorem dX2_insert_12 : decode cX2_insert 12 = .ok (.aload_n 0, 1) := by decide +kernel
theorem dX2_insert_13 : decode cX2_insert 13 = .ok (.getfield 19, 3) := by decide +kernel
theorem dX2_insert_16 : decode cX2_insert 16 = .ok (.aload_n 0, 1) := by decide +kernel
theorem dX2_insert_17 : decode cX2_insert 17 = .ok (.getfield 13, 3) := by decide +kernel
theorem dX2_insert_20 : decode cX2_insert 20 = .ok (.arraylength, 1) := by decide +kernel
theorem dX2_insert_21 : decode cX2_insert 21 = .ok (.if_icmp .lt 5, 3) := by decide +kernel
theorem dX2_insert_24 : decode cX2_insert 24 = .ok (.iconst 0, 1) := by decide +kernel
theorem dX2_insert_25 : decode cX2_insert 25 = .ok (.ireturn, 1) := by decide +kernel
theorem dX2_insert_26 : decode cX2_insert 26 = .ok (.aload_n 0, 1) := by decide +kernel
theorem dX2_insert_27 : decode cX2_insert 27 = .ok (.getfield 19, 3) := by decide +kernel
theorem dX2_insert_30 : decode cX2_insert 30 = .ok (.istore_n 3, 1) := by decide +kernel
theorem dX2_insert_31 : decode cX2_insert 31 = .ok (.iload_n 3, 1) := by decide +kernel
theorem dX2_insert_32 : decode cX2_insert 32 = .ok (.iload_n 1, 1) := by decide +kernel
theorem dX2_insert_33 : decode cX2_insert 33 = .ok (.if_icmp .le 23, 3) := by decide +kernel
theorem dX2_insert_36 : decode cX2_insert 36 = .ok (.aload_n 0, 1) := by decide +kernel
theorem dX2_insert_37 : decode cX2_insert 37 = .ok (.getfield 13, 3) := by decide +kernel
theorem dX2_insert_40 : decode cX2_insert 40 = .ok (.iload_n 3, 1) := by decide +kernel
theorem dX2_insert_41 : decode cX2_insert 41 = .ok (.aload_n 0, 1) := by decide +kernel
theorem dX2_insert_42 : decode cX2_insert 42 = .ok (.getfield 13, 3) := by decide +kernel
theorem dX2_insert_45 : decode cX2_insert 45 = .ok (.iload_n 3, 1) := by decide +kernel
theorem dX2_insert_46 : decode cX2_insert 46 = .ok (.iconst 1, 1) := by decide +kernel
theorem dX2_insert_47 : decode cX2_insert 47 = .ok (.isub, 1) := by decide +kernel
theorem dX2_insert_48 : decode cX2_insert 48 = .ok (.iaload, 1) := by decide +kernel
theorem dX2_insert_49 : decode cX2_insert 49 = .ok (.iastore, 1) := by decide +kernel
theorem dX2_insert_50 : decode cX2_insert 50 = .ok (.iinc 3 (-1), 3) := by decide +kernel
theorem dX2_insert_53 : decode cX2_insert 53 = .ok (.goto (-22), 3) := by decide +kernel
theorem dX2_insert_56 : decode cX2_insert 56 = .ok (.aload_n 0, 1) := by decide +kernel
theorem dX2_insert_57 : decode cX2_insert 57 = .ok (.getfield 13, 3) := by decide +kernel
theorem dX2_insert_60 : decode cX2_insert 60 = .ok (.iload_n 1, 1) := by decide +kernel
theorem dX2_insert_61 : decode cX2_insert 61 = .ok (.iload_n 2, 1) := by decide +kernel
theorem dX2_insert_62 : decode cX2_insert 62 = .ok (.iastore, 1) := by decide +kernel
theorem dX2_insert_63 : decode cX2_insert 63 = .ok (.aload_n 0, 1) := by decide +kernel
theorem dX2_insert_64 : decode cX2_insert 64 = .ok (.dup, 1) := by decide +kernel
theorem dX2_insert_65 : decode cX2_insert 65 = .ok (.getfield 19, 3) := by decide +kernel
theorem dX2_insert_68 : decode cX2_insert 68 = .ok (.iconst 1, 1) := by decide +kernel
theorem dX2_insert_69 : decode cX2_insert 69 = .ok (.iadd, 1) := by decide +kernel
theorem dX2_insert_70 : decode cX2_insert 70 = .ok (.putfield 19, 3) := by decide +kernel
theorem dX2_insert_73 : decode cX2_insert 73 = .ok (.iconst 1, 1) := by decide +kernel
theorem dX2_insert_74 : decode cX2_insert 74 = .ok (.ireturn, 1) := by decide +kernel
def f_X2_insert_31s (F P : Nat) (S : xSt) (rec_31 : Nat → Int32 → Int32 → Int32 → xDt → Option (Int32 × xDt)) (v0 : Nat) (v1 : Int32) (v2 : Int32) (v3 : Int32) (D : xDt) : Option (Int32 × xDt) :=
  if v3 ≤ v1 then (xgrd (xin v1 (xl S (xr S v0 0))) (xlet (xup D.1 (xr S v0 0) (v1).toNatClampNeg v2, D.2) fun D2 => xlet (xup D2.1 v0 1 ((D2.1 v0 1) + 1), D2.2) fun D3 => some (1, D3))) else (xgrd (xin (v3 - 1) (xl S (xr S v0 0))) (xgrd (xin v3 (xl S (xr S v0 0))) (xlet (xup D.1 (xr S v0 0) (v3).toNatClampNeg (D.1 (xr S v0 0) (v3 - 1).toNatClampNeg), D.2) fun D6 => xlet (v3 + (-1)) fun v3_7 => rec_31 v0 v1 v2 v3_7 D6)))
def f_X2_insert_31 (F P : Nat) (S : xSt) : Nat → Nat → Int32 → Int32 → Int32 → xDt → Option (Int32 × xDt)
  | 0 => fun _ _ _ _ _ => none
  | n + 1 => f_X2_insert_31s F P S (f_X2_insert_31 F P S n)
set_option maxHeartbeats 4000000 in
theorem t_X2_insert_31s {F P : Nat} {S : xSt} (hS : xWF S) {rec_31 : Nat → Int32 → Int32 → Int32 → xDt → Option (Int32 × xDt)} (hrec_31 : ∀ {v0 : Nat} {v1 : Int32} {v2 : Int32} {v3 : Int32} {D : xDt} {r : Int32 × xDt}, xK S v0 2 → rec_31 v0 v1 v2 v3 D = some r → yEx md_X2_insert 0 31 [(0, .ref v0), (1, .int v1), (2, .int v2), (3, .int v3)] [] S D (xQi S r)) {v0 : Nat} {v1 : Int32} {v2 : Int32} {v3 : Int32} {D : xDt} {r : Int32 × xDt} (k0 : xK S v0 2) (h : f_X2_insert_31s F P S rec_31 v0 v1 v2 v3 D = some r) : yEx md_X2_insert 0 31 [(0, .ref v0), (1, .int v1), (2, .int v2), (3, .int v3)] [] S D (xQi S r) := by
  unfold f_X2_insert_31s at h
  refine x_iload_n dX2_insert_31 3 rfl ?_
  refine x_iload_n dX2_insert_32 1 rfl ?_
  refine x_icmp_le 56 dX2_insert_33 (by decide) (fun c => ?_) (fun c => ?_)
  · rw [if_pos c] at h
    refine x_aload_n dX2_insert_56 0 rfl ?_
    refine y_getr (kd := 100) hS fl_RX2_13 dX2_insert_57 rfl k0 ?_
    refine x_iload_n dX2_insert_60 1 rfl ?_
    refine x_iload_n dX2_insert_61 2 rfl ?_
    refine xgrd_e h (fun g1 h => ?_)
    refine xlet_e h (fun D2 eD2 h => ?_)
    refine y_iast dX2_insert_62 ((hS.f k0 0 100 rfl).2) g1 eD2 ?_
    refine x_aload_n dX2_insert_63 0 rfl ?_
    refine x_dup dX2_insert_64 rfl ?_
    refine y_geti fl_RX2_19 dX2_insert_65 rfl k0 ?_
    refine x_iconst 1 dX2_insert_68 (by decide) ?_
    refine x_iadd dX2_insert_69 ?_
    refine xlet_e h (fun D3 eD3 h => ?_)
    refine y_puti fp_RX2_19 dX2_insert_70 rfl k0 eD3 ?_
    refine x_iconst 1 dX2_insert_73 (by decide) ?_
    obtain rfl := Option.some.inj h
    exact y_zret rfl rfl dX2_insert_74
  · rw [if_neg c] at h
    refine x_aload_n dX2_insert_36 0 rfl ?_
    refine y_getr (kd := 100) hS fl_RX2_13 dX2_insert_37 rfl k0 ?_
    refine x_iload_n dX2_insert_40 3 rfl ?_
    refine x_aload_n dX2_insert_41 0 rfl ?_
    refine y_getr (kd := 100) hS fl_RX2_13 dX2_insert_42 rfl k0 ?_
    refine x_iload_n dX2_insert_45 3 rfl ?_
    refine x_iconst 1 dX2_insert_46 (by decide) ?_
    refine x_isub dX2_insert_47 ?_
    refine xgrd_e h (fun g4 h => ?_)
    refine y_iald dX2_insert_48 ((hS.f k0 0 100 rfl).2) g4 ?_
    refine xgrd_e h (fun g5 h => ?_)
    refine xlet_e h (fun D6 eD6 h => ?_)
    refine y_iast dX2_insert_49 ((hS.f k0 0 100 rfl).2) g5 eD6 ?_
    refine xlet_e h (fun v3_7 ev3_7 h => ?_)
    refine y_iinc v3_7 ev3_7 (by decide) [(3, .int v3_7), (0, .ref v0), (1, .int v1), (2, .int v2)] dX2_insert_50 3 rfl (by show _ < 4; decide) rfl ?_
    refine x_goto 31 dX2_insert_53 (by decide) ?_
    refine x_lv (lv' := [(0, .ref v0), (1, .int v1), (2, .int v2), (3, .int v3_7)]) [1, 2, 3, 0] rfl ?_
    exact hrec_31 k0 h
theorem t_X2_insert_31 {F P : Nat} {S : xSt} (hS : xWF S) : ∀ (n : Nat) {v0 : Nat} {v1 : Int32} {v2 : Int32} {v3 : Int32} {D : xDt} {r : Int32 × xDt}, xK S v0 2 → f_X2_insert_31 F P S n v0 v1 v2 v3 D = some r → yEx md_X2_insert 0 31 [(0, .ref v0), (1, .int v1), (2, .int v2), (3, .int v3)] [] S D (xQi S r) := by
  intro n
  induction n with
  | zero => intros; rename_i h; cases h
  | succ n ih =>
    intro v0 v1 v2 v3 D r k0 h
    exact t_X2_insert_31s hS (fun k0 h => ih k0 h) k0 h

def f_X2_insert (F P : Nat) (S : xSt) (v0 : Nat) (v1 : Int32) (v2 : Int32) (D : xDt) : Option (Int32 × xDt) :=
  if v1 < 0 then (some (0, D)) else (if (D.1 v0 1) < v1 then (some (0, D)) else (if (D.1 v0 1) < (Int32.ofNat (xl S (xr S v0 0))) then (xlet (D.1 v0 1) fun v3_1 => f_X2_insert_31 F P S F v0 v1 v2 v3_1 D) else (some (0, D))))
set_option maxHeartbeats 4000000 in
theorem S_X2_insert {F P : Nat} {S : xSt} (hS : xWF S) {v0 : Nat} {v1 : Int32} {v2 : Int32} {D : xDt} {r : Int32 × xDt} (k0 : xK S v0 2) (h : f_X2_insert F P S v0 v1 v2 D = some r) : xSp md_X2_insert (0, 0, 0) [.ref v0, .int v1, .int v2] (S, D) (xQi S r) := by
  unfold f_X2_insert at h
  refine xEntry (by decide) (Nat.le_of_ble_eq_true rfl) ?_
  refine x_lv (lv' := [(0, .ref v0), (1, .int v1), (2, .int v2)]) [0, 1, 2] rfl ?_
  refine x_iload_n dX2_insert_0 1 rfl ?_
  refine x_if_lt 24 dX2_insert_1 (by decide) (fun c => ?_) (fun c => ?_)
  · rw [if_pos c] at h
    refine x_iconst 0 dX2_insert_24 (by decide) ?_
    obtain rfl := Option.some.inj h
    exact y_zret rfl rfl dX2_insert_25
  · rw [if_neg c] at h
    refine x_iload_n dX2_insert_4 1 rfl ?_
    refine x_aload_n dX2_insert_5 0 rfl ?_
    refine y_geti fl_RX2_19 dX2_insert_6 rfl k0 ?_
    refine x_icmp_gt 24 dX2_insert_9 (by decide) (fun c => ?_) (fun c => ?_)
    · rw [if_pos c] at h
      refine x_iconst 0 dX2_insert_24 (by decide) ?_
      obtain rfl := Option.some.inj h
      exact y_zret rfl rfl dX2_insert_25
    · rw [if_neg c] at h
      refine x_aload_n dX2_insert_12 0 rfl ?_
      refine y_geti fl_RX2_19 dX2_insert_13 rfl k0 ?_
      refine x_aload_n dX2_insert_16 0 rfl ?_
      refine y_getr (kd := 100) hS fl_RX2_13 dX2_insert_17 rfl k0 ?_
      refine y_alen dX2_insert_20 ((hS.f k0 0 100 rfl).2) (by decide) ?_
      refine x_icmp_lt 26 dX2_insert_21 (by decide) (fun c => ?_) (fun c => ?_)
      · rw [if_pos c] at h
        refine x_aload_n dX2_insert_26 0 rfl ?_
        refine y_geti fl_RX2_19 dX2_insert_27 rfl k0 ?_
        refine xlet_e h (fun v3_1 ev3_1 h => ?_)
        refine y_istore_n v3_1 ev3_1 [(3, .int v3_1), (0, .ref v0), (1, .int v1), (2, .int v2)] dX2_insert_30 (by show _ < 4; decide) rfl ?_
        refine x_lv (lv' := [(0, .ref v0), (1, .int v1), (2, .int v2), (3, .int v3_1)]) [1, 2, 3, 0] rfl ?_
        exact t_X2_insert_31 hS F k0 h
      · rw [if_neg c] at h
        refine x_iconst 0 dX2_insert_24 (by decide) ?_
        obtain rfl := Option.some.inj h
        exact y_zret rfl rfl dX2_insert_25

theorem dX11_isKnowing_0 : decode cX11_isKnowing 0 = .ok (.iload_n 0, 1) := by decide +kernel
theorem dX11_isKnowing_1 : decode cX11_isKnowing 1 = .ok (.bipush 75, 2) := by decide +kernel
theorem dX11_isKnowing_3 : decode cX11_isKnowing 3 = .ok (.if_icmp .eq 27, 3) := by decide +kernel
theorem dX11_isKnowing_6 : decode cX11_isKnowing 6 = .ok (.iload_n 0, 1) := by decide +kernel
theorem dX11_isKnowing_7 : decode cX11_isKnowing 7 = .ok (.bipush 80, 2) := by decide +kernel
theorem dX11_isKnowing_9 : decode cX11_isKnowing 9 = .ok (.if_icmp .eq 21, 3) := by decide +kernel
theorem dX11_isKnowing_12 : decode cX11_isKnowing 12 = .ok (.iload_n 0, 1) := by decide +kernel
theorem dX11_isKnowing_13 : decode cX11_isKnowing 13 = .ok (.bipush 69, 2) := by decide +kernel
theorem dX11_isKnowing_15 : decode cX11_isKnowing 15 = .ok (.if_icmp .eq 15, 3) := by decide +kernel
theorem dX11_isKnowing_18 : decode cX11_isKnowing 18 = .ok (.iload_n 0, 1) := by decide +kernel
theorem dX11_isKnowing_19 : decode cX11_isKnowing 19 = .ok (.bipush 67, 2) := by decide +kernel
theorem dX11_isKnowing_21 : decode cX11_isKnowing 21 = .ok (.if_icmp .eq 9, 3) := by decide +kernel
theorem dX11_isKnowing_24 : decode cX11_isKnowing 24 = .ok (.iload_n 0, 1) := by decide +kernel
theorem dX11_isKnowing_25 : decode cX11_isKnowing 25 = .ok (.bipush 68, 2) := by decide +kernel
theorem dX11_isKnowing_27 : decode cX11_isKnowing 27 = .ok (.if_icmp .ne 7, 3) := by decide +kernel
theorem dX11_isKnowing_30 : decode cX11_isKnowing 30 = .ok (.iconst 1, 1) := by decide +kernel
theorem dX11_isKnowing_31 : decode cX11_isKnowing 31 = .ok (.goto 4, 3) := by decide +kernel
theorem dX11_isKnowing_34 : decode cX11_isKnowing 34 = .ok (.iconst 0, 1) := by decide +kernel
theorem dX11_isKnowing_35 : decode cX11_isKnowing 35 = .ok (.ireturn, 1) := by decide +kernel
def f_X11_isKnowing_30 (F P : Nat) (S : xSt) (D : xDt) : Option (Int32 × xDt) :=
  some (1, D)
set_option maxHeartbeats 4000000 in
theorem t_X11_isKnowing_30 {F P : Nat} {S : xSt} (hS : xWF S) {D : xDt} {r : Int32 × xDt} (h : f_X11_isKnowing_30 F P S D = some r) : yEx md_X11_isKnowing 0 30 [] [] S D (xQi S r) := by
  unfold f_X11_isKnowing_30 at h
  refine x_iconst 1 dX11_isKnowing_30 (by decide) ?_
  refine x_goto 35 dX11_isKnowing_31 (by decide) ?_
  obtain rfl := Option.some.inj h
  exact y_zret rfl rfl dX11_isKnowing_35

def f_X11_isKnowing (F P : Nat) (S : xSt) (v0 : Int32) (D : xDt) : Option (Int32 × xDt) :=
  if v0 = 75 then (f_X11_isKnowing_30 F P S D) else (if v0 = 80 then (f_X11_isKnowing_30 F P S D) else (if v0 = 69 then (f_X11_isKnowing_30 F P S D) else (if v0 = 67 then (f_X11_isKnowing_30 F P S D) else (if v0 = 68 then (f_X11_isKnowing_30 F P S D) else (some (0, D))))))
set_option maxHeartbeats 4000000 in
theorem S_X11_isKnowing {F P : Nat} {S : xSt} (hS : xWF S) {v0 : Int32} {D : xDt} {r : Int32 × xDt} (h : f_X11_isKnowing F P S v0 D = some r) : xSp md_X11_isKnowing (0, 0, 0) [.int v0] (S, D) (xQi S r) := by
  unfold f_X11_isKnowing at h
  refine xEntry (by decide) (Nat.le_of_ble_eq_true rfl) ?_
  refine x_lv (lv' := [(0, .int v0)]) [0] rfl ?_
  refine x_iload_n dX11_isKnowing_0 0 rfl ?_
  refine x_bipush 75 dX11_isKnowing_1 (by decide) ?_
  refine x_icmp_eq 30 dX11_isKnowing_3 (by decide) (fun c => ?_) (fun c => ?_)
  · rw [if_pos c] at h
    refine x_lv (lv' := []) [] rfl ?_
    exact t_X11_isKnowing_30 hS h
  · rw [if_neg c] at h
    refine x_iload_n dX11_isKnowing_6 0 rfl ?_
    refine x_bipush 80 dX11_isKnowing_7 (by decide) ?_
    refine x_icmp_eq 30 dX11_isKnowing_9 (by decide) (fun c => ?_) (fun c => ?_)
    · rw [if_pos c] at h
      refine x_lv (lv' := []) [] rfl ?_
      exact t_X11_isKnowing_30 hS h
    · rw [if_neg c] at h
      refine x_iload_n dX11_isKnowing_12 0 rfl ?_
      refine x_bipush 69 dX11_isKnowing_13 (by decide) ?_
      refine x_icmp_eq 30 dX11_isKnowing_15 (by decide) (fun c => ?_) (fun c => ?_)
      · rw [if_pos c] at h
        refine x_lv (lv' := []) [] rfl ?_
        exact t_X11_isKnowing_30 hS h
      · rw [if_neg c] at h
        refine x_iload_n dX11_isKnowing_18 0 rfl ?_
        refine x_bipush 67 dX11_isKnowing_19 (by decide) ?_
        refine x_icmp_eq 30 dX11_isKnowing_21 (by decide) (fun c => ?_) (fun c => ?_)
        · rw [if_pos c] at h
          refine x_lv (lv' := []) [] rfl ?_
          exact t_X11_isKnowing_30 hS h
        · rw [if_neg c] at h
          refine x_iload_n dX11_isKnowing_24 0 rfl ?_
          refine x_bipush 68 dX11_isKnowing_25 (by decide) ?_
          refine x_icmp_ne 34 dX11_isKnowing_27 (by decide) (fun c => ?_) (fun c => ?_)
          · rw [if_neg c] at h
            refine x_iconst 0 dX11_isKnowing_34 (by decide) ?_
            obtain rfl := Option.some.inj h
            exact y_zret rfl rfl dX11_isKnowing_35
          · rw [if_pos c] at h
            refine x_lv (lv' := []) [] rfl ?_
            exact t_X11_isKnowing_30 hS h

theorem dX2_depth_0 : decode cX2_depth 0 = .ok (.iconst 0, 1) := by decide +kernel
theorem dX2_depth_1 : decode cX2_depth 1 = .ok (.istore_n 2, 1) := by decide +kernel
theorem dX2_depth_2 : decode cX2_depth 2 = .ok (.aload_n 0, 1) := by decide +kernel
theorem dX2_depth_3 : decode cX2_depth 3 = .ok (.getfield 19, 3) := by decide +kernel
theorem dX2_depth_6 : decode cX2_depth 6 = .ok (.iconst 1, 1) := by decide +kernel
theorem dX2_depth_7 : decode cX2_depth 7 = .ok (.isub, 1) := by decide +kernel
theorem dX2_depth_8 : decode cX2_depth 8 = .ok (.istore_n 3, 1) := by decide +kernel
theorem dX2_depth_9 : decode cX2_depth 9 = .ok (.iload_n 3, 1) := by decide +kernel
theorem dX2_depth_10 : decode cX2_depth 10 = .ok (.ifCond .lt 101, 3) := by decide +kernel
theorem dX2_depth_13 : decode cX2_depth 13 = .ok (.aload_n 0, 1) := by decide +kernel
theorem dX2_depth_14 : decode cX2_depth 14 = .ok (.getfield 13, 3) := by decide +kernel
theorem dX2_depth_17 : decode cX2_depth 17 = .ok (.iload_n 3, 1) := by decide +kernel
theorem dX2_depth_18 : decode cX2_depth 18 = .ok (.iaload, 1) := by decide +kernel
theorem dX2_depth_19 : decode cX2_depth 19 = .ok (.invokestatic 33, 3) := by decide +kernel
theorem dX2_depth_22 : decode cX2_depth 22 = .ok (.istore 4, 2) := by decide +kernel
theorem dX2_depth_24 : decode cX2_depth 24 = .ok (.iload 4, 2) := by decide +kernel
theorem dX2_depth_26 : decode cX2_depth 26 = .ok (.invokestatic 44, 3) := by decide +kernel
theorem dX2_depth_29 : decode cX2_depth 29 = .ok (.ifCond .eq 19, 3) := by decide +kernel
theorem dX2_depth_32 : decode cX2_depth 32 = .ok (.iload_n 2, 1) := by decide +kernel
theorem dX2_depth_33 : decode cX2_depth 33 = .ok (.aload_n 1, 1) := by decide +kernel
theorem dX2_depth_34 : decode cX2_depth 34 = .ok (.arraylength, 1) := by decide +kernel
theorem dX2_depth_35 : decode cX2_depth 35 = .ok (.if_icmp .ge 13, 3) := by decide +kernel
theorem dX2_depth_38 : decode cX2_depth 38 = .ok (.aload_n 1, 1) := by decide +kernel
theorem dX2_depth_39 : decode cX2_depth 39 = .ok (.iload_n 2, 1) := by decide +kernel
theorem dX2_depth_40 : decode cX2_depth 40 = .ok (.iinc 2 1, 3) := by decide +kernel
theorem dX2_depth_43 : decode cX2_depth 43 = .ok (.iconst 0, 1) := by decide +kernel
theorem dX2_depth_44 : decode cX2_depth 44 = .ok (.iastore, 1) := by decide +kernel
theorem dX2_depth_45 : decode cX2_depth 45 = .ok (.goto 60, 3) := by decide +kernel
theorem dX2_depth_48 : decode cX2_depth 48 = .ok (.iload 4, 2) := by decide +kernel
theorem dX2_depth_50 : decode cX2_depth 50 = .ok (.invokestatic 48, 3) := by decide +kernel
theorem dX2_depth_53 : decode cX2_depth 53 = .ok (.ifCond .eq 30, 3) := by decide +kernel
theorem dX2_depth_56 : decode cX2_depth 56 = .ok (.iload_n 2, 1) := by decide +kernel
theorem dX2_depth_57 : decode cX2_depth 57 = .ok (.iconst 2, 1) := by decide +kernel
theorem dX2_depth_58 : decode cX2_depth 58 = .ok (.if_icmp .lt 25, 3) := by decide +kernel
theorem dX2_depth_61 : decode cX2_depth 61 = .ok (.iinc 2 (-1), 3) := by decide +kernel
theorem dX2_depth_64 : decode cX2_depth 64 = .ok (.aload_n 1, 1) := by decide +kernel
theorem dX2_depth_65 : decode cX2_depth 65 = .ok (.iload_n 2, 1) := by decide +kernel
theorem dX2_depth_66 : decode cX2_depth 66 = .ok (.iconst 1, 1) := by decide +kernel
theorem dX2_depth_67 : decode cX2_depth 67 = .ok (.isub, 1) := by decide +kernel
theorem dX2_depth_68 : decode cX2_depth 68 = .ok (.aload_n 1, 1) := by decide +kernel
theorem dX2_depth_69 : decode cX2_depth 69 = .ok (.iload_n 2, 1) := by decide +kernel
theorem dX2_depth_70 : decode cX2_depth 70 = .ok (.iconst 1, 1) := by decide +kernel
theorem dX2_depth_71 : decode cX2_depth 71 = .ok (.isub, 1) := by decide +kernel
theorem dX2_depth_72 : decode cX2_depth 72 = .ok (.iaload, 1) := by decide +kernel
theorem dX2_depth_73 : decode cX2_depth 73 = .ok (.aload_n 1, 1) := by decide +kernel
theorem dX2_depth_74 : decode cX2_depth 74 = .ok (.iload_n 2, 1) := by decide +kernel
theorem dX2_depth_75 : decode cX2_depth 75 = .ok (.iaload, 1) := by decide +kernel
theorem dX2_depth_76 : decode cX2_depth 76 = .ok (.invokestatic 7, 3) := by decide +kernel
theorem dX2_depth_79 : decode cX2_depth 79 = .ok (.iastore, 1) := by decide +kernel
theorem dX2_depth_80 : decode cX2_depth 80 = .ok (.goto 25, 3) := by decide +kernel
theorem dX2_depth_83 : decode cX2_depth 83 = .ok (.iload 4, 2) := by decide +kernel
theorem dX2_depth_85 : decode cX2_depth 85 = .ok (.invokestatic 51, 3) := by decide +kernel
theorem dX2_depth_88 : decode cX2_depth 88 = .ok (.ifCond .eq 17, 3) := by decide +kernel
theorem dX2_depth_91 : decode cX2_depth 91 = .ok (.iload_n 2, 1) := by decide +kernel
theorem dX2_depth_92 : decode cX2_depth 92 = .ok (.iconst 1, 1) := by decide +kernel
theorem dX2_depth_93 : decode cX2_depth 93 = .ok (.if_icmp .lt 12, 3) := by decide +kernel
theorem dX2_depth_96 : decode cX2_depth 96 = .ok (.aload_n 1, 1) := by decide +kernel
theorem dX2_depth_97 : decode cX2_depth 97 = .ok (.iload_n 2, 1) := by decide +kernel
theorem dX2_depth_98 : decode cX2_depth 98 = .ok (.iconst 1, 1) := by decide +kernel
theorem dX2_depth_99 : decode cX2_depth 99 = .ok (.isub, 1) := by decide +kernel
theorem dX2_depth_100 : decode cX2_depth 100 = .ok (.dup2, 1) := by decide +kernel
theorem dX2_depth_101 : decode cX2_depth 101 = .ok (.iaload, 1) := by decide +kernel
theorem dX2_depth_102 : decode cX2_depth 102 = .ok (.iconst 1, 1) := by decide +kernel
theorem dX2_depth_103 : decode cX2_depth 103 = .ok (.iadd, 1) := by decide +kernel
theorem dX2_depth_104 : decode cX2_depth 104 = .ok (.iastore, 1) := by decide +kernel
theorem dX2_depth_105 : decode cX2_depth 105 = .ok (.iinc 3 (-1), 3) := by decide +kernel
theorem dX2_depth_108 : decode cX2_depth 108 = .ok (.goto (-99), 3) := by decide +kernel
theorem dX2_depth_111 : decode cX2_depth 111 = .ok (.iload_n 2, 1) := by decide +kernel
theorem dX2_depth_112 : decode cX2_depth 112 = .ok (.ifCond .le 9, 3) := by decide +kernel
theorem dX2_depth_115 : decode cX2_depth 115 = .ok (.aload_n 1, 1) := by decide +kernel
theorem dX2_depth_116 : decode cX2_depth 116 = .ok (.iconst 0, 1) := by decide +kernel
theorem dX2_depth_117 : decode cX2_depth 117 = .ok (.iaload, 1) := by decide +kernel
theorem dX2_depth_118 : decode cX2_depth 118 = .ok (.goto 4, 3) := by decide +kernel
theorem dX2_depth_121 : decode cX2_depth 121 = .ok (.iconst 0, 1) := by decide +kernel
theorem dX2_depth_122 : decode cX2_depth 122 = .ok (.ireturn, 1) := by decide +kernel
def f_X2_depth_105 (F P : Nat) (S : xSt) (rec_9 : Nat → Nat → Int32 → Int32 → xDt → Option (Int32 × xDt)) (v0 : Nat) (v1 : Nat) (v2 : Int32) (v3 : Int32) (D : xDt) : Option (Int32 × xDt) :=
  xlet (v3 + (-1)) fun v3_1 => rec_9 v0 v1 v2 v3_1 D
set_option maxHeartbeats 4000000 in
theorem t_X2_depth_105 {F P : Nat} {S : xSt} (hS : xWF S) {rec_9 : Nat → Nat → Int32 → Int32 → xDt → Option (Int32 × xDt)} (hrec_9 : ∀ {v0 : Nat} {v1 : Nat} {v2 : Int32} {v3 : Int32} {D : xDt} {r : Int32 × xDt}, xK S v0 2 → xK S v1 100 → rec_9 v0 v1 v2 v3 D = some r → yEx md_X2_depth 2 9 [(0, .ref v0), (1, .ref v1), (2, .int v2), (3, .int v3)] [] S D (xQi S r)) {v0 : Nat} {v1 : Nat} {v2 : Int32} {v3 : Int32} {D : xDt} {r : Int32 × xDt} (k0 : xK S v0 2) (k1 : xK S v1 100) (h : f_X2_depth_105 F P S rec_9 v0 v1 v2 v3 D = some r) : yEx md_X2_depth 2 105 [(0, .ref v0), (1, .ref v1), (2, .int v2), (3, .int v3)] [] S D (xQi S r) := by
  unfold f_X2_depth_105 at h
  refine xlet_e h (fun v3_1 ev3_1 h => ?_)
  refine y_iinc v3_1 ev3_1 (by decide) [(3, .int v3_1), (0, .ref v0), (1, .ref v1), (2, .int v2)] dX2_depth_105 3 rfl (by show _ < 5; decide) rfl ?_
  refine x_goto 9 dX2_depth_108 (by decide) ?_
  refine x_lv (lv' := [(0, .ref v0), (1, .ref v1), (2, .int v2), (3, .int v3_1)]) [1, 2, 3, 0] rfl ?_
  exact hrec_9 k0 k1 h

def f_X2_depth_83 (F P : Nat) (S : xSt) (rec_9 : Nat → Nat → Int32 → Int32 → xDt → Option (Int32 × xDt)) (v0 : Nat) (v1 : Nat) (v2 : Int32) (v3 : Int32) (v4 : Int32) (D : xDt) : Option (Int32 × xDt) :=
  (f_X11_isKnowing F P S v4 D).bind fun q1 => if q1.1 = 0 then (f_X2_depth_105 F P S rec_9 v0 v1 v2 v3 q1.2) else (if v2 < 1 then (f_X2_depth_105 F P S rec_9 v0 v1 v2 v3 q1.2) else (xgrd (xin (v2 - 1) (xl S v1)) (xgrd (xin (v2 - 1) (xl S v1)) (xlet (xup q1.2.1 v1 (v2 - 1).toNatClampNeg ((q1.2.1 v1 (v2 - 1).toNatClampNeg) + 1), q1.2.2) fun D4 => f_X2_depth_105 F P S rec_9 v0 v1 v2 v3 D4))))
set_option maxHeartbeats 4000000 in
theorem t_X2_depth_83 {F P : Nat} {S : xSt} (hS : xWF S) {rec_9 : Nat → Nat → Int32 → Int32 → xDt → Option (Int32 × xDt)} (hrec_9 : ∀ {v0 : Nat} {v1 : Nat} {v2 : Int32} {v3 : Int32} {D : xDt} {r : Int32 × xDt}, xK S v0 2 → xK S v1 100 → rec_9 v0 v1 v2 v3 D = some r → yEx md_X2_depth 2 9 [(0, .ref v0), (1, .ref v1), (2, .int v2), (3, .int v3)] [] S D (xQi S r)) {v0 : Nat} {v1 : Nat} {v2 : Int32} {v3 : Int32} {v4 : Int32} {D : xDt} {r : Int32 × xDt} (k0 : xK S v0 2) (k1 : xK S v1 100) (h : f_X2_depth_83 F P S rec_9 v0 v1 v2 v3 v4 D = some r) : yEx md_X2_depth 2 83 [(0, .ref v0), (1, .ref v1), (2, .int v2), (3, .int v3), (4, .int v4)] [] S D (xQi S r) := by
  unfold f_X2_depth_83 at h
  refine x_iload dX2_depth_83 4 rfl ?_
  refine xbnd_e h (fun q1 e1 h => ?_)
  refine y_callNi (As := [.int v4]) (q := q1) cn_RX2_51 dX2_depth_85 rfl (Nat.le_of_ble_eq_true rfl) (by omega) (S_X11_isKnowing hS e1) ?_
  refine x_if_eq 105 dX2_depth_88 (by decide) (fun c => ?_) (fun c => ?_)
  · rw [if_pos c] at h
    refine x_lv (lv' := [(0, .ref v0), (1, .ref v1), (2, .int v2), (3, .int v3)]) [0, 1, 2, 3] rfl ?_
    exact t_X2_depth_105 hS hrec_9 k0 k1 h
  · rw [if_neg c] at h
    refine x_iload_n dX2_depth_91 2 rfl ?_
    refine x_iconst 1 dX2_depth_92 (by decide) ?_
    refine x_icmp_lt 105 dX2_depth_93 (by decide) (fun c => ?_) (fun c => ?_)
    · rw [if_pos c] at h
      refine x_lv (lv' := [(0, .ref v0), (1, .ref v1), (2, .int v2), (3, .int v3)]) [0, 1, 2, 3] rfl ?_
      exact t_X2_depth_105 hS hrec_9 k0 k1 h
    · rw [if_neg c] at h
      refine x_aload_n dX2_depth_96 1 rfl ?_
      refine x_iload_n dX2_depth_97 2 rfl ?_
      refine x_iconst 1 dX2_depth_98 (by decide) ?_
      refine x_isub dX2_depth_99 ?_
      refine x_dup2 dX2_depth_100 rfl rfl ?_
      refine xgrd_e h (fun g2 h => ?_)
      refine y_iald dX2_depth_101 k1 g2 ?_
      refine x_iconst 1 dX2_depth_102 (by decide) ?_
      refine x_iadd dX2_depth_103 ?_
      refine xgrd_e h (fun g3 h => ?_)
      refine xlet_e h (fun D4 eD4 h => ?_)
      refine y_iast dX2_depth_104 k1 g3 eD4 ?_
      refine x_lv (lv' := [(0, .ref v0), (1, .ref v1), (2, .int v2), (3, .int v3)]) [0, 1, 2, 3] rfl ?_
      exact t_X2_depth_105 hS hrec_9 k0 k1 h

def f_X2_depth_48 (F P : Nat) (S : xSt) (rec_9 : Nat → Nat → Int32 → Int32 → xDt → Option (Int32 × xDt)) (v0 : Nat) (v1 : Nat) (v2 : Int32) (v3 : Int32) (v4 : Int32) (D : xDt) : Option (Int32 × xDt) :=
  (f_X11_hasTwoParts F P S v4 D).bind fun q1 => if q1.1 = 0 then (f_X2_depth_83 F P S rec_9 v0 v1 v2 v3 v4 q1.2) else (if v2 < 2 then (f_X2_depth_83 F P S rec_9 v0 v1 v2 v3 v4 q1.2) else (xlet (v2 + (-1)) fun v2_2 => xgrd (xin (v2_2 - 1) (xl S v1)) (xgrd (xin v2_2 (xl S v1)) (xgrd (xin (v2_2 - 1) (xl S v1)) (xlet (xup q1.2.1 v1 (v2_2 - 1).toNatClampNeg (jmax (q1.2.1 v1 (v2_2 - 1).toNatClampNeg) (q1.2.1 v1 (v2_2).toNatClampNeg)), q1.2.2) fun D6 => f_X2_depth_105 F P S rec_9 v0 v1 v2_2 v3 D6)))))
set_option maxHeartbeats 4000000 in
theorem t_X2_depth_48 {F P : Nat} {S : xSt} (hS : xWF S) {rec_9 : Nat → Nat → Int32 → Int32 → xDt → Option (Int32 × xDt)} (hrec_9 : ∀ {v0 : Nat} {v1 : Nat} {v2 : Int32} {v3 : Int32} {D : xDt} {r : Int32 × xDt}, xK S v0 2 → xK S v1 100 → rec_9 v0 v1 v2 v3 D = some r → yEx md_X2_depth 2 9 [(0, .ref v0), (1, .ref v1), (2, .int v2), (3, .int v3)] [] S D (xQi S r)) {v0 : Nat} {v1 : Nat} {v2 : Int32} {v3 : Int32} {v4 : Int32} {D : xDt} {r : Int32 × xDt} (k0 : xK S v0 2) (k1 : xK S v1 100) (h : f_X2_depth_48 F P S rec_9 v0 v1 v2 v3 v4 D = some r) : yEx md_X2_depth 2 48 [(0, .ref v0), (1, .ref v1), (2, .int v2), (3, .int v3), (4, .int v4)] [] S D (xQi S r) := by
  unfold f_X2_depth_48 at h
  refine x_iload dX2_depth_48 4 rfl ?_
  refine xbnd_e h (fun q1 e1 h => ?_)
  refine y_callNi (As := [.int v4]) (q := q1) cn_RX2_48 dX2_depth_50 rfl (Nat.le_of_ble_eq_true rfl) (by omega) (S_X11_hasTwoParts hS e1) ?_
  refine x_if_eq 83 dX2_depth_53 (by decide) (fun c => ?_) (fun c => ?_)
  · rw [if_pos c] at h
    exact t_X2_depth_83 hS hrec_9 k0 k1 h
  · rw [if_neg c] at h
    refine x_iload_n dX2_depth_56 2 rfl ?_
    refine x_iconst 2 dX2_depth_57 (by decide) ?_
    refine x_icmp_lt 83 dX2_depth_58 (by decide) (fun c => ?_) (fun c => ?_)
    · rw [if_pos c] at h
      exact t_X2_depth_83 hS hrec_9 k0 k1 h
    · rw [if_neg c] at h
      refine xlet_e h (fun v2_2 ev2_2 h => ?_)
      refine y_iinc v2_2 ev2_2 (by decide) [(2, .int v2_2), (0, .ref v0), (1, .ref v1), (3, .int v3), (4, .int v4)] dX2_depth_61 2 rfl (by show _ < 5; decide) rfl ?_
      refine x_aload_n dX2_depth_64 2 rfl ?_
      refine x_iload_n dX2_depth_65 0 rfl ?_
      refine x_iconst 1 dX2_depth_66 (by decide) ?_
      refine x_isub dX2_depth_67 ?_
      refine x_aload_n dX2_depth_68 2 rfl ?_
      refine x_iload_n dX2_depth_69 0 rfl ?_
      refine x_iconst 1 dX2_depth_70 (by decide) ?_
      refine x_isub dX2_depth_71 ?_
      refine xgrd_e h (fun g3 h => ?_)
      refine y_iald dX2_depth_72 k1 g3 ?_
      refine x_aload_n dX2_depth_73 2 rfl ?_
      refine x_iload_n dX2_depth_74 0 rfl ?_
      refine xgrd_e h (fun g4 h => ?_)
      refine y_iald dX2_depth_75 k1 g4 ?_
      refine y_max mm_RX2_7 dX2_depth_76 (Nat.le_of_ble_eq_true rfl) (by omega) ?_
      refine xgrd_e h (fun g5 h => ?_)
      refine xlet_e h (fun D6 eD6 h => ?_)
      refine y_iast dX2_depth_79 k1 g5 eD6 ?_
      refine x_goto 105 dX2_depth_80 (by decide) ?_
      refine x_lv (lv' := [(0, .ref v0), (1, .ref v1), (2, .int v2_2), (3, .int v3)]) [1, 2, 0, 3] rfl ?_
      exact t_X2_depth_105 hS hrec_9 k0 k1 h

def f_X2_depth_9s (F P : Nat) (S : xSt) (rec_9 : Nat → Nat → Int32 → Int32 → xDt → Option (Int32 × xDt)) (v0 : Nat) (v1 : Nat) (v2 : Int32) (v3 : Int32) (D : xDt) : Option (Int32 × xDt) :=
  if v3 < 0 then (if v2 ≤ 0 then (some (0, D)) else (xgrd (xin 0 (xl S v1)) (some (D.1 v1 (0 : Int32).toNatClampNeg, D)))) else (xgrd (xin v3 (xl S (xr S v0 0))) ((f_X11_signOf F P S (D.1 (xr S v0 0) (v3).toNatClampNeg) D).bind fun q3 => (f_X11_isLeaf F P S q3.1 q3.2).bind fun q4 => if q4.1 = 0 then (f_X2_depth_48 F P S rec_9 v0 v1 v2 v3 q3.1 q4.2) else (if (Int32.ofNat (xl S v1)) ≤ v2 then (f_X2_depth_48 F P S rec_9 v0 v1 v2 v3 q3.1 q4.2) else (xlet (v2 + 1) fun v2_5 => xgrd (xin v2 (xl S v1)) (xlet (xup q4.2.1 v1 (v2).toNatClampNeg 0, q4.2.2) fun D7 => f_X2_depth_105 F P S rec_9 v0 v1 v2_5 v3 D7)))))
def f_X2_depth_9 (F P : Nat) (S : xSt) : Nat → Nat → Nat → Int32 → Int32 → xDt → Option (Int32 × xDt)
  | 0 => fun _ _ _ _ _ => none
  | n + 1 => f_X2_depth_9s F P S (f_X2_depth_9 F P S n)
set_option maxHeartbeats 4000000 in
theorem t_X2_depth_9s {F P : Nat} {S : xSt} (hS : xWF S) {rec_9 : Nat → Nat → Int32 → Int32 → xDt → Option (Int32 × xDt)} (hrec_9 : ∀ {v0 : Nat} {v1 : Nat} {v2 : Int32} {v3 : Int32} {D : xDt} {r : Int32 × xDt}, xK S v0 2 → xK S v1 100 → rec_9 v0 v1 v2 v3 D = some r → yEx md_X2_depth 2 9 [(0, .ref v0), (1, .ref v1), (2, .int v2), (3, .int v3)] [] S D (xQi S r)) {v0 : Nat} {v1 : Nat} {v2 : Int32} {v3 : Int32} {D : xDt} {r : Int32 × xDt} (k0 : xK S v0 2) (k1 : xK S v1 100) (h : f_X2_depth_9s F P S rec_9 v0 v1 v2 v3 D = some r) : yEx md_X2_depth 2 9 [(0, .ref v0), (1, .ref v1), (2, .int v2), (3, .int v3)] [] S D (xQi S r) := by
  unfold f_X2_depth_9s at h
  refine x_iload_n dX2_depth_9 3 rfl ?_
  refine x_if_lt 111 dX2_depth_10 (by decide) (fun c => ?_) (fun c => ?_)
  · rw [if_pos c] at h
    refine x_iload_n dX2_depth_111 2 rfl ?_
    refine x_if_le 121 dX2_depth_112 (by decide) (fun c => ?_) (fun c => ?_)
    · rw [if_pos c] at h
      refine x_iconst 0 dX2_depth_121 (by decide) ?_
      obtain rfl := Option.some.inj h
      exact y_iret rfl dX2_depth_122
    · rw [if_neg c] at h
      refine x_aload_n dX2_depth_115 1 rfl ?_
      refine x_iconst 0 dX2_depth_116 (by decide) ?_
      refine xgrd_e h (fun g1 h => ?_)
      refine y_iald dX2_depth_117 k1 g1 ?_
      refine x_goto 122 dX2_depth_118 (by decide) ?_
      obtain rfl := Option.some.inj h
      exact y_iret rfl dX2_depth_122
  · rw [if_neg c] at h
    refine x_aload_n dX2_depth_13 0 rfl ?_
    refine y_getr (kd := 100) hS fl_RX2_13 dX2_depth_14 rfl k0 ?_
    refine x_iload_n dX2_depth_17 3 rfl ?_
    refine xgrd_e h (fun g2 h => ?_)
    refine y_iald dX2_depth_18 ((hS.f k0 0 100 rfl).2) g2 ?_
    refine xbnd_e h (fun q3 e3 h => ?_)
    refine y_callNi (As := [.int (D.1 (xr S v0 0) (v3).toNatClampNeg)]) (q := q3) cn_RX2_33 dX2_depth_19 rfl (Nat.le_of_ble_eq_true rfl) (by omega) (S_X11_signOf hS e3) ?_
    refine y_istore q3.1 rfl [(4, .int q3.1), (0, .ref v0), (1, .ref v1), (2, .int v2), (3, .int v3)] dX2_depth_22 (by show _ < 5; decide) rfl ?_
    refine x_iload dX2_depth_24 0 rfl ?_
    refine xbnd_e h (fun q4 e4 h => ?_)
    refine y_callNi (As := [.int q3.1]) (q := q4) cn_RX2_44 dX2_depth_26 rfl (Nat.le_of_ble_eq_true rfl) (by omega) (S_X11_isLeaf hS e4) ?_
    refine x_if_eq 48 dX2_depth_29 (by decide) (fun c => ?_) (fun c => ?_)
    · rw [if_pos c] at h
      refine x_lv (lv' := [(0, .ref v0), (1, .ref v1), (2, .int v2), (3, .int v3), (4, .int q3.1)]) [1, 2, 3, 4, 0] rfl ?_
      exact t_X2_depth_48 hS hrec_9 k0 k1 h
    · rw [if_neg c] at h
      refine x_iload_n dX2_depth_32 3 rfl ?_
      refine x_aload_n dX2_depth_33 2 rfl ?_
      refine y_alen dX2_depth_34 k1 (by decide) ?_
      refine x_icmp_ge 48 dX2_depth_35 (by decide) (fun c => ?_) (fun c => ?_)
      · rw [if_pos c] at h
        refine x_lv (lv' := [(0, .ref v0), (1, .ref v1), (2, .int v2), (3, .int v3), (4, .int q3.1)]) [1, 2, 3, 4, 0] rfl ?_
        exact t_X2_depth_48 hS hrec_9 k0 k1 h
      · rw [if_neg c] at h
        refine x_aload_n dX2_depth_38 2 rfl ?_
        refine x_iload_n dX2_depth_39 3 rfl ?_
        refine xlet_e h (fun v2_5 ev2_5 h => ?_)
        refine y_iinc v2_5 ev2_5 (by decide) [(2, .int v2_5), (4, .int q3.1), (0, .ref v0), (1, .ref v1), (3, .int v3)] dX2_depth_40 3 rfl (by show _ < 5; decide) rfl ?_
        refine x_iconst 0 dX2_depth_43 (by decide) ?_
        refine xgrd_e h (fun g6 h => ?_)
        refine xlet_e h (fun D7 eD7 h => ?_)
        refine y_iast dX2_depth_44 k1 g6 eD7 ?_
        refine x_goto 105 dX2_depth_45 (by decide) ?_
        refine x_lv (lv' := [(0, .ref v0), (1, .ref v1), (2, .int v2_5), (3, .int v3)]) [2, 3, 0, 4] rfl ?_
        exact t_X2_depth_105 hS hrec_9 k0 k1 h
theorem t_X2_depth_9 {F P : Nat} {S : xSt} (hS : xWF S) : ∀ (n : Nat) {v0 : Nat} {v1 : Nat} {v2 : Int32} {v3 : Int32} {D : xDt} {r : Int32 × xDt}, xK S v0 2 → xK S v1 100 → f_X2_depth_9 F P S n v0 v1 v2 v3 D = some r → yEx md_X2_depth 2 9 [(0, .ref v0), (1, .ref v1), (2, .int v2), (3, .int v3)] [] S D (xQi S r) := by
  intro n
  induction n with
  | zero => intros; rename_i h; cases h
  | succ n ih =>
    intro v0 v1 v2 v3 D r k0 k1 h
    exact t_X2_depth_9s hS (fun k0 k1 h => ih k0 k1 h) k0 k1 h

def f_X2_depth (F P : Nat) (S : xSt) (v0 : Nat) (v1 : Nat) (D : xDt) : Option (Int32 × xDt) :=
  xlet ((D.1 v0 1) - 1) fun v3_1 => f_X2_depth_9 F P S F v0 v1 0 v3_1 D
set_option maxHeartbeats 4000000 in
theorem S_X2_depth {F P : Nat} {S : xSt} (hS : xWF S) {v0 : Nat} {v1 : Nat} {D : xDt} {r : Int32 × xDt} (k0 : xK S v0 2) (k1 : xK S v1 100) (h : f_X2_depth F P S v0 v1 D = some r) : xSp md_X2_depth (2, 0, 0) [.ref v0, .ref v1] (S, D) (xQi S r) := by
  unfold f_X2_depth at h
  refine xEntry (by decide) (Nat.le_of_ble_eq_true rfl) ?_
  refine x_lv (lv' := [(0, .ref v0), (1, .ref v1)]) [0, 1] rfl ?_
  refine x_iconst 0 dX2_depth_0 (by decide) ?_
  refine y_istore_n 0 rfl [(2, .int 0), (0, .ref v0), (1, .ref v1)] dX2_depth_1 (by show _ < 5; decide) rfl ?_
  refine x_aload_n dX2_depth_2 1 rfl ?_
  refine y_geti fl_RX2_19 dX2_depth_3 rfl k0 ?_
  refine x_iconst 1 dX2_depth_6 (by decide) ?_
  refine x_isub dX2_depth_7 ?_
  refine xlet_e h (fun v3_1 ev3_1 h => ?_)
  refine y_istore_n v3_1 ev3_1 [(3, .int v3_1), (2, .int 0), (0, .ref v0), (1, .ref v1)] dX2_depth_8 (by show _ < 5; decide) rfl ?_
  refine x_lv (lv' := [(0, .ref v0), (1, .ref v1), (2, .int 0), (3, .int v3_1)]) [2, 3, 1, 0] rfl ?_
  exact t_X2_depth_9 hS F k0 k1 h

theorem dX10_atomsOf_0 : decode cX10_atomsOf 0 = .ok (.iconst 0, 1) := by decide +kernel
theorem dX10_atomsOf_1 : decode cX10_atomsOf 1 = .ok (.istore_n 2, 1) := by decide +kernel
theorem dX10_atomsOf_2 : decode cX10_atomsOf 2 = .ok (.iconst 0, 1) := by decide +kernel
theorem dX10_atomsOf_3 : decode cX10_atomsOf 3 = .ok (.istore_n 3, 1) := by decide +kernel
theorem dX10_atomsOf_4 : decode cX10_atomsOf 4 = .ok (.iload_n 3, 1) := by decide +kernel
theorem dX10_atomsOf_5 : decode cX10_atomsOf 5 = .ok (.bipush 8, 2) := by decide +kernel
theorem dX10_atomsOf_7 : decode cX10_atomsOf 7 = .ok (.if_icmp .ge 25, 3) := by decide +kernel
theorem dX10_atomsOf_10 : decode cX10_atomsOf 10 = .ok (.iload_n 2, 1) := by decide +kernel
theorem dX10_atomsOf_11 : decode cX10_atomsOf 11 = .ok (.aload_n 0, 1) := by decide +kernel
theorem dX10_atomsOf_12 : decode cX10_atomsOf 12 = .ok (.getfield 9, 3) := by decide +kernel
theorem dX10_atomsOf_15 : decode cX10_atomsOf 15 = .ok (.iload_n 3, 1) := by decide +kernel
theorem dX10_atomsOf_16 : decode cX10_atomsOf 16 = .ok (.laload, 1) := by decide +kernel
theorem dX10_atomsOf_17 : decode cX10_atomsOf 17 = .ok (.iload_n 1, 1) := by decide +kernel
theorem dX10_atomsOf_18 : decode cX10_atomsOf 18 = .ok (.lushr, 1) := by decide +kernel
theorem dX10_atomsOf_19 : decode cX10_atomsOf 19 = .ok (.lconst 1, 1) := by decide +kernel
theorem dX10_atomsOf_20 : decode cX10_atomsOf 20 = .ok (.land, 1) := by decide +kernel
theorem dX10_atomsOf_21 : decode cX10_atomsOf 21 = .ok (.l2i, 1) := by decide +kernel
theorem dX10_atomsOf_22 : decode cX10_atomsOf 22 = .ok (.iload_n 3, 1) := by decide +kernel
theorem dX10_atomsOf_23 : decode cX10_atomsOf 23 = .ok (.ishl, 1) := by decide +kernel
theorem dX10_atomsOf_24 : decode cX10_atomsOf 24 = .ok (.ior, 1) := by decide +kernel
theorem dX10_atomsOf_25 : decode cX10_atomsOf 25 = .ok (.istore_n 2, 1) := by decide +kernel
theorem dX10_atomsOf_26 : decode cX10_atomsOf 26 = .ok (.iinc 3 1, 3) := by decide +kernel
theorem dX10_atomsOf_29 : decode cX10_atomsOf 29 = .ok (.goto (-25), 3) := by decide +kernel
theorem dX10_atomsOf_32 : decode cX10_atomsOf 32 = .ok (.iload_n 2, 1) := by decide +kernel
theorem dX10_atomsOf_33 : decode cX10_atomsOf 33 = .ok (.ireturn, 1) := by decide +kernel
def f_X10_atomsOf_4s (F P : Nat) (S : xSt) (rec_4 : Nat → Int32 → Int32 → Int32 → xDt → Option (Int32 × xDt)) (v0 : Nat) (v1 : Int32) (v2 : Int32) (v3 : Int32) (D : xDt) : Option (Int32 × xDt) :=
  if 8 ≤ v3 then (some (v2, D)) else (xgrd (xin v3 (xl S (xr S v0 1))) (xlet (v2 ||| (jishl (((jlushr (D.2 (xr S v0 1) (v3).toNatClampNeg) v1) &&& 1).toInt32) v3)) fun v2_2 => xlet (v3 + 1) fun v3_3 => rec_4 v0 v1 v2_2 v3_3 D))
def f_X10_atomsOf_4 (F P : Nat) (S : xSt) : Nat → Nat → Int32 → Int32 → Int32 → xDt → Option (Int32 × xDt)
  | 0 => fun _ _ _ _ _ => none
  | n + 1 => f_X10_atomsOf_4s F P S (f_X10_atomsOf_4 F P S n)
set_option maxHeartbeats 4000000 in
theorem t_X10_atomsOf_4s {F P : Nat} {S : xSt} (hS : xWF S) {rec_4 : Nat → Int32 → Int32 → Int32 → xDt → Option (Int32 × xDt)} (hrec_4 : ∀ {v0 : Nat} {v1 : Int32} {v2 : Int32} {v3 : Int32} {D : xDt} {r : Int32 × xDt}, xK S v0 10 → rec_4 v0 v1 v2 v3 D = some r → yEx md_X10_atomsOf 0 4 [(0, .ref v0), (1, .int v1), (2, .int v2), (3, .int v3)] [] S D (xQi S r)) {v0 : Nat} {v1 : Int32} {v2 : Int32} {v3 : Int32} {D : xDt} {r : Int32 × xDt} (k0 : xK S v0 10) (h : f_X10_atomsOf_4s F P S rec_4 v0 v1 v2 v3 D = some r) : yEx md_X10_atomsOf 0 4 [(0, .ref v0), (1, .int v1), (2, .int v2), (3, .int v3)] [] S D (xQi S r) := by
  unfold f_X10_atomsOf_4s at h
  refine x_iload_n dX10_atomsOf_4 3 rfl ?_
  refine x_bipush 8 dX10_atomsOf_5 (by decide) ?_
  refine x_icmp_ge 32 dX10_atomsOf_7 (by decide) (fun c => ?_) (fun c => ?_)
  · rw [if_pos c] at h
    refine x_iload_n dX10_atomsOf_32 2 rfl ?_
    obtain rfl := Option.some.inj h
    exact y_iret rfl dX10_atomsOf_33
  · rw [if_neg c] at h
    refine x_iload_n dX10_atomsOf_10 2 rfl ?_
    refine x_aload_n dX10_atomsOf_11 0 rfl ?_
    refine y_getr (kd := 101) hS fl_RX10_9 dX10_atomsOf_12 rfl k0 ?_
    refine x_iload_n dX10_atomsOf_15 3 rfl ?_
    refine xgrd_e h (fun g1 h => ?_)
    refine y_lald dX10_atomsOf_16 ((hS.f k0 1 101 rfl).2) g1 ?_
    refine x_iload_n dX10_atomsOf_17 1 rfl ?_
    refine x_lushr dX10_atomsOf_18 ?_
    refine x_lconst 1 dX10_atomsOf_19 (by decide) ?_
    refine x_land dX10_atomsOf_20 ?_
    refine x_l2i dX10_atomsOf_21 ?_
    refine x_iload_n dX10_atomsOf_22 3 rfl ?_
    refine x_ishl dX10_atomsOf_23 ?_
    refine x_ior dX10_atomsOf_24 ?_
    refine xlet_e h (fun v2_2 ev2_2 h => ?_)
    refine y_istore_n v2_2 ev2_2 [(2, .int v2_2), (0, .ref v0), (1, .int v1), (3, .int v3)] dX10_atomsOf_25 (by show _ < 4; decide) rfl ?_
    refine xlet_e h (fun v3_3 ev3_3 h => ?_)
    refine y_iinc v3_3 ev3_3 (by decide) [(3, .int v3_3), (2, .int v2_2), (0, .ref v0), (1, .int v1)] dX10_atomsOf_26 3 rfl (by show _ < 4; decide) rfl ?_
    refine x_goto 4 dX10_atomsOf_29 (by decide) ?_
    refine x_lv (lv' := [(0, .ref v0), (1, .int v1), (2, .int v2_2), (3, .int v3_3)]) [2, 3, 1, 0] rfl ?_
    exact hrec_4 k0 h
theorem t_X10_atomsOf_4 {F P : Nat} {S : xSt} (hS : xWF S) : ∀ (n : Nat) {v0 : Nat} {v1 : Int32} {v2 : Int32} {v3 : Int32} {D : xDt} {r : Int32 × xDt}, xK S v0 10 → f_X10_atomsOf_4 F P S n v0 v1 v2 v3 D = some r → yEx md_X10_atomsOf 0 4 [(0, .ref v0), (1, .int v1), (2, .int v2), (3, .int v3)] [] S D (xQi S r) := by
  intro n
  induction n with
  | zero => intros; rename_i h; cases h
  | succ n ih =>
    intro v0 v1 v2 v3 D r k0 h
    exact t_X10_atomsOf_4s hS (fun k0 h => ih k0 h) k0 h

def f_X10_atomsOf (F P : Nat) (S : xSt) (v0 : Nat) (v1 : Int32) (D : xDt) : Option (Int32 × xDt) :=
  f_X10_atomsOf_4 F P S F v0 v1 0 0 D
set_option maxHeartbeats 4000000 in
theorem S_X10_atomsOf {F P : Nat} {S : xSt} (hS : xWF S) {v0 : Nat} {v1 : Int32} {D : xDt} {r : Int32 × xDt} (k0 : xK S v0 10) (h : f_X10_atomsOf F P S v0 v1 D = some r) : xSp md_X10_atomsOf (0, 0, 0) [.ref v0, .int v1] (S, D) (xQi S r) := by
  unfold f_X10_atomsOf at h
  refine xEntry (by decide) (Nat.le_of_ble_eq_true rfl) ?_
  refine x_lv (lv' := [(0, .ref v0), (1, .int v1)]) [0, 1] rfl ?_
  refine x_iconst 0 dX10_atomsOf_0 (by decide) ?_
  refine y_istore_n 0 rfl [(2, .int 0), (0, .ref v0), (1, .int v1)] dX10_atomsOf_1 (by show _ < 4; decide) rfl ?_
  refine x_iconst 0 dX10_atomsOf_2 (by decide) ?_
  refine y_istore_n 0 rfl [(3, .int 0), (2, .int 0), (0, .ref v0), (1, .int v1)] dX10_atomsOf_3 (by show _ < 4; decide) rfl ?_
  refine x_lv (lv' := [(0, .ref v0), (1, .int v1), (2, .int 0), (3, .int 0)]) [2, 3, 1, 0] rfl ?_
  exact t_X10_atomsOf_4 hS F k0 h

theorem dX4_start_0 : decode cX4_start 0 = .ok (.iconst 0, 1) := by decide +kernel
theorem dX4_start_1 : decode cX4_start 1 = .ok (.istore_n 2, 1) := by decide +kernel
theorem dX4_start_2 : decode cX4_start 2 = .ok (.iload_n 2, 1) := by decide +kernel
theorem dX4_start_3 : decode cX4_start 3 = .ok (.aload_n 1, 1) := by decide +kernel
theorem dX4_start_4 : decode cX4_start 4 = .ok (.getfield 33, 3) := by decide +kernel
theorem dX4_start_7 : decode cX4_start 7 = .ok (.if_icmp .ge 65, 3) := by decide +kernel
theorem dX4_start_10 : decode cX4_start 10 = .ok (.aload_n 0, 1) := by decide +kernel
theorem dX4_start_11 : decode cX4_start 11 = .ok (.getfield 22, 3) := by decide +kernel
theorem dX4_start_14 : decode cX4_start 14 = .ok (.iload_n 2, 1) := by decide +kernel
theorem dX4_start_15 : decode cX4_start 15 = .ok (.aload_n 1, 1) := by decide +kernel
theorem dX4_start_16 : decode cX4_start 16 = .ok (.iload_n 2, 1) := by decide +kernel
theorem dX4_start_17 : decode cX4_start 17 = .ok (.invokevirtual 39, 3) := by decide +kernel
theorem dX4_start_20 : decode cX4_start 20 = .ok (.iastore, 1) := by decide +kernel
theorem dX4_start_21 : decode cX4_start 21 = .ok (.aload_n 0, 1) := by decide +kernel
theorem dX4_start_22 : decode cX4_start 22 = .ok (.getfield 9, 3) := by decide +kernel
theorem dX4_start_25 : decode cX4_start 25 = .ok (.iload_n 2, 1) := by decide +kernel
theorem dX4_start_26 : decode cX4_start 26 = .ok (.iload_n 2, 1) := by decide +kernel
theorem dX4_start_27 : decode cX4_start 27 = .ok (.iastore, 1) := by decide +kernel
theorem dX4_start_28 : decode cX4_start 28 = .ok (.iconst 0, 1) := by decide +kernel
theorem dX4_start_29 : decode cX4_start 29 = .ok (.istore_n 3, 1) := by decide +kernel
theorem dX4_start_30 : decode cX4_start 30 = .ok (.iload_n 3, 1) := by decide +kernel
theorem dX4_start_31 : decode cX4_start 31 = .ok (.iload_n 2, 1) := by decide +kernel
theorem dX4_start_32 : decode cX4_start 32 = .ok (.if_icmp .ge 34, 3) := by decide +kernel
theorem dX4_start_35 : decode cX4_start 35 = .ok (.aload_n 0, 1) := by decide +kernel
theorem dX4_start_36 : decode cX4_start 36 = .ok (.getfield 22, 3) := by decide +kernel
theorem dX4_start_39 : decode cX4_start 39 = .ok (.iload_n 3, 1) := by decide +kernel
theorem dX4_start_40 : decode cX4_start 40 = .ok (.iaload, 1) := by decide +kernel
theorem dX4_start_41 : decode cX4_start 41 = .ok (.aload_n 0, 1) := by decide +kernel
theorem dX4_start_42 : decode cX4_start 42 = .ok (.getfield 22, 3) := by decide +kernel
theorem dX4_start_45 : decode cX4_start 45 = .ok (.iload_n 2, 1) := by decide +kernel
theorem dX4_start_46 : decode cX4_start 46 = .ok (.iaload, 1) := by decide +kernel
theorem dX4_start_47 : decode cX4_start 47 = .ok (.if_icmp .ne 13, 3) := by decide +kernel
theorem dX4_start_50 : decode cX4_start 50 = .ok (.aload_n 0, 1) := by decide +kernel
theorem dX4_start_51 : decode cX4_start 51 = .ok (.getfield 9, 3) := by decide +kernel
theorem dX4_start_54 : decode cX4_start 54 = .ok (.iload_n 2, 1) := by decide +kernel
theorem dX4_start_55 : decode cX4_start 55 = .ok (.iload_n 3, 1) := by decide +kernel
theorem dX4_start_56 : decode cX4_start 56 = .ok (.iastore, 1) := by decide +kernel
theorem dX4_start_57 : decode cX4_start 57 = .ok (.goto 9, 3) := by decide +kernel
theorem dX4_start_60 : decode cX4_start 60 = .ok (.iinc 3 1, 3) := by decide +kernel
theorem dX4_start_63 : decode cX4_start 63 = .ok (.goto (-33), 3) := by decide +kernel
theorem dX4_start_66 : decode cX4_start 66 = .ok (.iinc 2 1, 3) := by decide +kernel
theorem dX4_start_69 : decode cX4_start 69 = .ok (.goto (-67), 3) := by decide +kernel
theorem dX4_start_72 : decode cX4_start 72 = .ok (.return_, 1) := by decide +kernel
def f_X4_start_66 (F P : Nat) (S : xSt) (rec_2 : Nat → Nat → Int32 → xDt → Option (xDt)) (v0 : Nat) (v1 : Nat) (v2 : Int32) (D : xDt) : Option (xDt) :=
  xlet (v2 + 1) fun v2_1 => rec_2 v0 v1 v2_1 D
set_option maxHeartbeats 4000000 in
theorem t_X4_start_66 {F P : Nat} {S : xSt} (hS : xWF S) {rec_2 : Nat → Nat → Int32 → xDt → Option (xDt)} (hrec_2 : ∀ {v0 : Nat} {v1 : Nat} {v2 : Int32} {D : xDt} {r : xDt}, xK S v0 4 → xK S v1 10 → rec_2 v0 v1 v2 D = some r → yEx md_X4_start 1 2 [(0, .ref v0), (1, .ref v1), (2, .int v2)] [] S D (xQv S r)) {v0 : Nat} {v1 : Nat} {v2 : Int32} {D : xDt} {r : xDt} (k0 : xK S v0 4) (k1 : xK S v1 10) (h : f_X4_start_66 F P S rec_2 v0 v1 v2 D = some r) : yEx md_X4_start 1 66 [(0, .ref v0), (1, .ref v1), (2, .int v2)] [] S D (xQv S r) := by
  unfold f_X4_start_66 at h
  refine xlet_e h (fun v2_1 ev2_1 h => ?_)
  refine y_iinc v2_1 ev2_1 (by decide) [(2, .int v2_1), (0, .ref v0), (1, .ref v1)] dX4_start_66 2 rfl (by show _ < 4; decide) rfl ?_
  refine x_goto 2 dX4_start_69 (by decide) ?_
  refine x_lv (lv' := [(0, .ref v0), (1, .ref v1), (2, .int v2_1)]) [1, 2, 0] rfl ?_
  exact hrec_2 k0 k1 h

def f_X4_start_30s (F P : Nat) (S : xSt) (rec_2 : Nat → Nat → Int32 → xDt → Option (xDt)) (rec_30 : Nat → Nat → Int32 → Int32 → xDt → Option (xDt)) (v0 : Nat) (v1 : Nat) (v2 : Int32) (v3 : Int32) (D : xDt) : Option (xDt) :=
  if v2 ≤ v3 then (f_X4_start_66 F P S rec_2 v0 v1 v2 D) else (xgrd (xin v3 (xl S (xr S v0 3))) (xgrd (xin v2 (xl S (xr S v0 3))) (if (D.1 (xr S v0 3) (v3).toNatClampNeg) = (D.1 (xr S v0 3) (v2).toNatClampNeg) then (xgrd (xin v2 (xl S (xr S v0 0))) (xlet (xup D.1 (xr S v0 0) (v2).toNatClampNeg v3, D.2) fun D5 => f_X4_start_66 F P S rec_2 v0 v1 v2 D5)) else (xlet (v3 + 1) fun v3_3 => rec_30 v0 v1 v2 v3_3 D))))
def f_X4_start_30 (F P : Nat) (S : xSt) (rec_2 : Nat → Nat → Int32 → xDt → Option (xDt)) : Nat → Nat → Nat → Int32 → Int32 → xDt → Option (xDt)
  | 0 => fun _ _ _ _ _ => none
  | n + 1 => f_X4_start_30s F P S rec_2 (f_X4_start_30 F P S rec_2 n)
set_option maxHeartbeats 4000000 in
theorem t_X4_start_30s {F P : Nat} {S : xSt} (hS : xWF S) {rec_2 : Nat → Nat → Int32 → xDt → Option (xDt)} (hrec_2 : ∀ {v0 : Nat} {v1 : Nat} {v2 : Int32} {D : xDt} {r : xDt}, xK S v0 4 → xK S v1 10 → rec_2 v0 v1 v2 D = some r → yEx md_X4_start 1 2 [(0, .ref v0), (1, .ref v1), (2, .int v2)] [] S D (xQv S r)) {rec_30 : Nat → Nat → Int32 → Int32 → xDt → Option (xDt)} (hrec_30 : ∀ {v0 : Nat} {v1 : Nat} {v2 : Int32} {v3 : Int32} {D : xDt} {r : xDt}, xK S v0 4 → xK S v1 10 → rec_30 v0 v1 v2 v3 D = some r → yEx md_X4_start 1 30 [(0, .ref v0), (1, .ref v1), (2, .int v2), (3, .int v3)] [] S D (xQv S r)) {v0 : Nat} {v1 : Nat} {v2 : Int32} {v3 : Int32} {D : xDt} {r : xDt} (k0 : xK S v0 4) (k1 : xK S v1 10) (h : f_X4_start_30s F P S rec_2 rec_30 v0 v1 v2 v3 D = some r) : yEx md_X4_start 1 30 [(0, .ref v0), (1, .ref v1), (2, .int v2), (3, .int v3)] [] S D (xQv S r) := by
  unfold f_X4_start_30s at h
  refine x_iload_n dX4_start_30 3 rfl ?_
  refine x_iload_n dX4_start_31 2 rfl ?_
  refine x_icmp_ge 66 dX4_start_32 (by decide) (fun c => ?_) (fun c => ?_)
  · rw [if_pos c] at h
    refine x_lv (lv' := [(0, .ref v0), (1, .ref v1), (2, .int v2)]) [0, 1, 2] rfl ?_
    exact t_X4_start_66 hS hrec_2 k0 k1 h
  · rw [if_neg c] at h
    refine x_aload_n dX4_start_35 0 rfl ?_
    refine y_getr (kd := 100) hS fl_RX4_22 dX4_start_36 rfl k0 ?_
    refine x_iload_n dX4_start_39 3 rfl ?_
    refine xgrd_e h (fun g1 h => ?_)
    refine y_iald dX4_start_40 ((hS.f k0 3 100 rfl).2) g1 ?_
    refine x_aload_n dX4_start_41 0 rfl ?_
    refine y_getr (kd := 100) hS fl_RX4_22 dX4_start_42 rfl k0 ?_
    refine x_iload_n dX4_start_45 2 rfl ?_
    refine xgrd_e h (fun g2 h => ?_)
    refine y_iald dX4_start_46 ((hS.f k0 3 100 rfl).2) g2 ?_
    refine x_icmp_ne 60 dX4_start_47 (by decide) (fun c => ?_) (fun c => ?_)
    · rw [if_neg c] at h
      refine xlet_e h (fun v3_3 ev3_3 h => ?_)
      refine y_iinc v3_3 ev3_3 (by decide) [(3, .int v3_3), (0, .ref v0), (1, .ref v1), (2, .int v2)] dX4_start_60 3 rfl (by show _ < 4; decide) rfl ?_
      refine x_goto 30 dX4_start_63 (by decide) ?_
      refine x_lv (lv' := [(0, .ref v0), (1, .ref v1), (2, .int v2), (3, .int v3_3)]) [1, 2, 3, 0] rfl ?_
      exact hrec_30 k0 k1 h
    · rw [if_pos c] at h
      refine x_aload_n dX4_start_50 0 rfl ?_
      refine y_getr (kd := 100) hS fl_RX4_9 dX4_start_51 rfl k0 ?_
      refine x_iload_n dX4_start_54 2 rfl ?_
      refine x_iload_n dX4_start_55 3 rfl ?_
      refine xgrd_e h (fun g4 h => ?_)
      refine xlet_e h (fun D5 eD5 h => ?_)
      refine y_iast dX4_start_56 ((hS.f k0 0 100 rfl).2) g4 eD5 ?_
      refine x_goto 66 dX4_start_57 (by decide) ?_
      refine x_lv (lv' := [(0, .ref v0), (1, .ref v1), (2, .int v2)]) [0, 1, 2] rfl ?_
      exact t_X4_start_66 hS hrec_2 k0 k1 h
theorem t_X4_start_30 {F P : Nat} {S : xSt} (hS : xWF S) {rec_2 : Nat → Nat → Int32 → xDt → Option (xDt)} (hrec_2 : ∀ {v0 : Nat} {v1 : Nat} {v2 : Int32} {D : xDt} {r : xDt}, xK S v0 4 → xK S v1 10 → rec_2 v0 v1 v2 D = some r → yEx md_X4_start 1 2 [(0, .ref v0), (1, .ref v1), (2, .int v2)] [] S D (xQv S r)) : ∀ (n : Nat) {v0 : Nat} {v1 : Nat} {v2 : Int32} {v3 : Int32} {D : xDt} {r : xDt}, xK S v0 4 → xK S v1 10 → f_X4_start_30 F P S rec_2 n v0 v1 v2 v3 D = some r → yEx md_X4_start 1 30 [(0, .ref v0), (1, .ref v1), (2, .int v2), (3, .int v3)] [] S D (xQv S r) := by
  intro n
  induction n with
  | zero => intros; rename_i h; cases h
  | succ n ih =>
    intro v0 v1 v2 v3 D r k0 k1 h
    exact t_X4_start_30s hS hrec_2 (fun k0 k1 h => ih k0 k1 h) k0 k1 h

def f_X4_start_2s (F P : Nat) (S : xSt) (rec_2 : Nat → Nat → Int32 → xDt → Option (xDt)) (v0 : Nat) (v1 : Nat) (v2 : Int32) (D : xDt) : Option (xDt) :=
  if (D.1 v1 0) ≤ v2 then (some D) else ((f_X10_atomsOf F P S v1 v2 D).bind fun q1 => xgrd (xin v2 (xl S (xr S v0 3))) (xlet (xup q1.2.1 (xr S v0 3) (v2).toNatClampNeg q1.1, q1.2.2) fun D3 => xgrd (xin v2 (xl S (xr S v0 0))) (xlet (xup D3.1 (xr S v0 0) (v2).toNatClampNeg v2, D3.2) fun D5 => f_X4_start_30 F P S rec_2 F v0 v1 v2 0 D5)))
def f_X4_start_2 (F P : Nat) (S : xSt) : Nat → Nat → Nat → Int32 → xDt → Option (xDt)
  | 0 => fun _ _ _ _ => none
  | n + 1 => f_X4_start_2s F P S (f_X4_start_2 F P S n)
set_option maxHeartbeats 4000000 in
theorem t_X4_start_2s {F P : Nat} {S : xSt} (hS : xWF S) {rec_2 : Nat → Nat → Int32 → xDt → Option (xDt)} (hrec_2 : ∀ {v0 : Nat} {v1 : Nat} {v2 : Int32} {D : xDt} {r : xDt}, xK S v0 4 → xK S v1 10 → rec_2 v0 v1 v2 D = some r → yEx md_X4_start 1 2 [(0, .ref v0), (1, .ref v1), (2, .int v2)] [] S D (xQv S r)) {v0 : Nat} {v1 : Nat} {v2 : Int32} {D : xDt} {r : xDt} (k0 : xK S v0 4) (k1 : xK S v1 10) (h : f_X4_start_2s F P S rec_2 v0 v1 v2 D = some r) : yEx md_X4_start 1 2 [(0, .ref v0), (1, .ref v1), (2, .int v2)] [] S D (xQv S r) := by
  unfold f_X4_start_2s at h
  refine x_iload_n dX4_start_2 2 rfl ?_
  refine x_aload_n dX4_start_3 1 rfl ?_
  refine y_geti fl_RX4_33 dX4_start_4 rfl k1 ?_
  refine x_icmp_ge 72 dX4_start_7 (by decide) (fun c => ?_) (fun c => ?_)
  · rw [if_pos c] at h
    obtain rfl := Option.some.inj h
    exact y_vret rfl dX4_start_72
  · rw [if_neg c] at h
    refine x_aload_n dX4_start_10 0 rfl ?_
    refine y_getr (kd := 100) hS fl_RX4_22 dX4_start_11 rfl k0 ?_
    refine x_iload_n dX4_start_14 2 rfl ?_
    refine x_aload_n dX4_start_15 1 rfl ?_
    refine x_iload_n dX4_start_16 2 rfl ?_
    refine xbnd_e h (fun q1 e1 h => ?_)
    refine y_callVi (As := [.int v2]) (q := q1) cv_RX4_39 dX4_start_17 k1 rfl (Nat.le_of_ble_eq_true rfl) (by omega) (S_X10_atomsOf hS k1 e1) ?_
    refine xgrd_e h (fun g2 h => ?_)
    refine xlet_e h (fun D3 eD3 h => ?_)
    refine y_iast dX4_start_20 ((hS.f k0 3 100 rfl).2) g2 eD3 ?_
    refine x_aload_n dX4_start_21 0 rfl ?_
    refine y_getr (kd := 100) hS fl_RX4_9 dX4_start_22 rfl k0 ?_
    refine x_iload_n dX4_start_25 2 rfl ?_
    refine x_iload_n dX4_start_26 2 rfl ?_
    refine xgrd_e h (fun g4 h => ?_)
    refine xlet_e h (fun D5 eD5 h => ?_)
    refine y_iast dX4_start_27 ((hS.f k0 0 100 rfl).2) g4 eD5 ?_
    refine x_iconst 0 dX4_start_28 (by decide) ?_
    refine y_istore_n 0 rfl [(3, .int 0), (0, .ref v0), (1, .ref v1), (2, .int v2)] dX4_start_29 (by show _ < 4; decide) rfl ?_
    refine x_lv (lv' := [(0, .ref v0), (1, .ref v1), (2, .int v2), (3, .int 0)]) [1, 2, 3, 0] rfl ?_
    exact t_X4_start_30 hS hrec_2 F k0 k1 h
theorem t_X4_start_2 {F P : Nat} {S : xSt} (hS : xWF S) : ∀ (n : Nat) {v0 : Nat} {v1 : Nat} {v2 : Int32} {D : xDt} {r : xDt}, xK S v0 4 → xK S v1 10 → f_X4_start_2 F P S n v0 v1 v2 D = some r → yEx md_X4_start 1 2 [(0, .ref v0), (1, .ref v1), (2, .int v2)] [] S D (xQv S r) := by
  intro n
  induction n with
  | zero => intros; rename_i h; cases h
  | succ n ih =>
    intro v0 v1 v2 D r k0 k1 h
    exact t_X4_start_2s hS (fun k0 k1 h => ih k0 k1 h) k0 k1 h

def f_X4_start (F P : Nat) (S : xSt) (v0 : Nat) (v1 : Nat) (D : xDt) : Option (xDt) :=
  f_X4_start_2 F P S F v0 v1 0 D
set_option maxHeartbeats 4000000 in
theorem S_X4_start {F P : Nat} {S : xSt} (hS : xWF S) {v0 : Nat} {v1 : Nat} {D : xDt} {r : xDt} (k0 : xK S v0 4) (k1 : xK S v1 10) (h : f_X4_start F P S v0 v1 D = some r) : xSp md_X4_start (1, 0, 0) [.ref v0, .ref v1] (S, D) (xQv S r) := by
  unfold f_X4_start at h
  refine xEntry (by decide) (Nat.le_of_ble_eq_true rfl) ?_
  refine x_lv (lv' := [(0, .ref v0), (1, .ref v1)]) [0, 1] rfl ?_
  refine x_iconst 0 dX4_start_0 (by decide) ?_
  refine y_istore_n 0 rfl [(2, .int 0), (0, .ref v0), (1, .ref v1)] dX4_start_1 (by show _ < 4; decide) rfl ?_
  refine x_lv (lv' := [(0, .ref v0), (1, .ref v1), (2, .int 0)]) [1, 2, 0] rfl ?_
  exact t_X4_start_2 hS F k0 k1 h

theorem dX11_lowest_0 : decode cX11_lowest 0 = .ok (.lload_n 0, 1) := by decide +kernel
theorem dX11_lowest_1 : decode cX11_lowest 1 = .ok (.lload_n 0, 1) := by decide +kernel
theorem dX11_lowest_2 : decode cX11_lowest 2 = .ok (.lneg, 1) := by decide +kernel
theorem dX11_lowest_3 : decode cX11_lowest 3 = .ok (.land, 1) := by decide +kernel
theorem dX11_lowest_4 : decode cX11_lowest 4 = .ok (.lconst 1, 1) := by decide +kernel
theorem dX11_lowest_5 : decode cX11_lowest 5 = .ok (.lsub, 1) := by decide +kernel
theorem dX11_lowest_6 : decode cX11_lowest 6 = .ok (.invokestatic 155, 3) := by decide +kernel
theorem dX11_lowest_9 : decode cX11_lowest 9 = .ok (.ireturn, 1) := by decide +kernel
def f_X11_lowest (F P : Nat) (S : xSt) (v0 : Int64) (D : xDt) : Option (Int32 × xDt) :=
  (f_J13_bitCount_95d88 F P S ((v0 &&& (-v0)) - 1) D).bind fun q1 => some (q1.1, q1.2)
set_option maxHeartbeats 4000000 in
theorem S_X11_lowest {F P : Nat} {S : xSt} (hS : xWF S) {v0 : Int64} {D : xDt} {r : Int32 × xDt} (h : f_X11_lowest F P S v0 D = some r) : xSp md_X11_lowest (1, 0, 0) [.long v0] (S, D) (xQi S r) := by
  unfold f_X11_lowest at h
  refine xEntry (by decide) (Nat.le_of_ble_eq_true rfl) ?_
  refine x_lv (lv' := [(0, .long v0)]) [0] rfl ?_
  refine x_lload_n dX11_lowest_0 0 rfl ?_
  refine x_lload_n dX11_lowest_1 0 rfl ?_
  refine x_lneg dX11_lowest_2 ?_
  refine x_land dX11_lowest_3 ?_
  refine x_lconst 1 dX11_lowest_4 (by decide) ?_
  refine x_lsub dX11_lowest_5 ?_
  refine xbnd_e h (fun q1 e1 h => ?_)
  refine y_callSi (As := [.long ((v0 &&& (-v0)) - 1)]) (q := q1) cs_RX11_155 dX11_lowest_6 rfl (Nat.le_of_ble_eq_true rfl) (by omega) (S_J13_bitCount_95d88 hS e1) ?_
  obtain rfl := Option.some.inj h
  exact y_iret rfl dX11_lowest_9

theorem dX4_firstsIn_0 : decode cX4_firstsIn 0 = .ok (.lconst 0, 1) := by decide +kernel
theorem dX4_firstsIn_1 : decode cX4_firstsIn 1 = .ok (.lstore 4, 2) := by decide +kernel
theorem dX4_firstsIn_3 : decode cX4_firstsIn 3 = .ok (.iconst 0, 1) := by decide +kernel
theorem dX4_firstsIn_4 : decode cX4_firstsIn 4 = .ok (.istore 6, 2) := by decide +kernel
theorem dX4_firstsIn_6 : decode cX4_firstsIn 6 = .ok (.iload 6, 2) := by decide +kernel
theorem dX4_firstsIn_8 : decode cX4_firstsIn 8 = .ok (.iload_n 3, 1) := by decide +kernel
theorem dX4_firstsIn_9 : decode cX4_firstsIn 9 = .ok (.if_icmp .ge 28, 3) := by decide +kernel
theorem dX4_firstsIn_12 : decode cX4_firstsIn 12 = .ok (.lload 4, 2) := by decide +kernel
theorem dX4_firstsIn_14 : decode cX4_firstsIn 14 = .ok (.lload_n 1, 1) := by decide +kernel
theorem dX4_firstsIn_15 : decode cX4_firstsIn 15 = .ok (.iload 6, 2) := by decide +kernel
theorem dX4_firstsIn_17 : decode cX4_firstsIn 17 = .ok (.lushr, 1) := by decide +kernel
theorem dX4_firstsIn_18 : decode cX4_firstsIn 18 = .ok (.lconst 1, 1) := by decide +kernel
theorem dX4_firstsIn_19 : decode cX4_firstsIn 19 = .ok (.land, 1) := by decide +kernel
theorem dX4_firstsIn_20 : decode cX4_firstsIn 20 = .ok (.aload_n 0, 1) := by decide +kernel
theorem dX4_firstsIn_21 : decode cX4_firstsIn 21 = .ok (.getfield 9, 3) := by decide +kernel
theorem dX4_firstsIn_24 : decode cX4_firstsIn 24 = .ok (.iload 6, 2) := by decide +kernel
theorem dX4_firstsIn_26 : decode cX4_firstsIn 26 = .ok (.iaload, 1) := by decide +kernel
theorem dX4_firstsIn_27 : decode cX4_firstsIn 27 = .ok (.lshl, 1) := by decide +kernel
theorem dX4_firstsIn_28 : decode cX4_firstsIn 28 = .ok (.lor, 1) := by decide +kernel
theorem dX4_firstsIn_29 : decode cX4_firstsIn 29 = .ok (.lstore 4, 2) := by decide +kernel
theorem dX4_firstsIn_31 : decode cX4_firstsIn 31 = .ok (.iinc 6 1, 3) := by decide +kernel
theorem dX4_firstsIn_34 : decode cX4_firstsIn 34 = .ok (.goto (-28), 3) := by decide +kernel
theorem dX4_firstsIn_37 : decode cX4_firstsIn 37 = .ok (.lload 4, 2) := by decide +kernel
theorem dX4_firstsIn_39 : decode cX4_firstsIn 39 = .ok (.lreturn, 1) := by decide +kernel
def f_X4_firstsIn_6s (F P : Nat) (S : xSt) (rec_6 : Nat → Int64 → Int32 → Int64 → Int32 → xDt → Option (Int64 × xDt)) (v0 : Nat) (v1 : Int64) (v3 : Int32) (v4 : Int64) (v6 : Int32) (D : xDt) : Option (Int64 × xDt) :=
  if v3 ≤ v6 then (some (v4, D)) else (xgrd (xin v6 (xl S (xr S v0 0))) (xlet (v4 ||| (jlshl ((jlushr v1 v6) &&& 1) (D.1 (xr S v0 0) (v6).toNatClampNeg))) fun v4_2 => xlet (v6 + 1) fun v6_3 => rec_6 v0 v1 v3 v4_2 v6_3 D))
def f_X4_firstsIn_6 (F P : Nat) (S : xSt) : Nat → Nat → Int64 → Int32 → Int64 → Int32 → xDt → Option (Int64 × xDt)
  | 0 => fun _ _ _ _ _ _ => none
  | n + 1 => f_X4_firstsIn_6s F P S (f_X4_firstsIn_6 F P S n)
set_option maxHeartbeats 4000000 in
theorem t_X4_firstsIn_6s {F P : Nat} {S : xSt} (hS : xWF S) {rec_6 : Nat → Int64 → Int32 → Int64 → Int32 → xDt → Option (Int64 × xDt)} (hrec_6 : ∀ {v0 : Nat} {v1 : Int64} {v3 : Int32} {v4 : Int64} {v6 : Int32} {D : xDt} {r : Int64 × xDt}, xK S v0 4 → rec_6 v0 v1 v3 v4 v6 D = some r → yEx md_X4_firstsIn 0 6 [(0, .ref v0), (1, .long v1), (3, .int v3), (4, .long v4), (6, .int v6)] [] S D (xQl S r)) {v0 : Nat} {v1 : Int64} {v3 : Int32} {v4 : Int64} {v6 : Int32} {D : xDt} {r : Int64 × xDt} (k0 : xK S v0 4) (h : f_X4_firstsIn_6s F P S rec_6 v0 v1 v3 v4 v6 D = some r) : yEx md_X4_firstsIn 0 6 [(0, .ref v0), (1, .long v1), (3, .int v3), (4, .long v4), (6, .int v6)] [] S D (xQl S r) := by
  unfold f_X4_firstsIn_6s at h
  refine x_iload dX4_firstsIn_6 4 rfl ?_
  refine x_iload_n dX4_firstsIn_8 2 rfl ?_
  refine x_icmp_ge 37 dX4_firstsIn_9 (by decide) (fun c => ?_) (fun c => ?_)
  · rw [if_pos c] at h
    refine x_lload dX4_firstsIn_37 3 rfl ?_
    obtain rfl := Option.some.inj h
    exact y_lret rfl dX4_firstsIn_39
  · rw [if_neg c] at h
    refine x_lload dX4_firstsIn_12 3 rfl ?_
    refine x_lload_n dX4_firstsIn_14 1 rfl ?_
    refine x_iload dX4_firstsIn_15 4 rfl ?_
    refine x_lushr dX4_firstsIn_17 ?_
    refine x_lconst 1 dX4_firstsIn_18 (by decide) ?_
    refine x_land dX4_firstsIn_19 ?_
    refine x_aload_n dX4_firstsIn_20 0 rfl ?_
    refine y_getr (kd := 100) hS fl_RX4_9 dX4_firstsIn_21 rfl k0 ?_
    refine x_iload dX4_firstsIn_24 4 rfl ?_
    refine xgrd_e h (fun g1 h => ?_)
    refine y_iald dX4_firstsIn_26 ((hS.f k0 0 100 rfl).2) g1 ?_
    refine x_lshl dX4_firstsIn_27 ?_
    refine x_lor dX4_firstsIn_28 ?_
    refine xlet_e h (fun v4_2 ev4_2 h => ?_)
    refine y_lstore v4_2 ev4_2 [(4, .long v4_2), (0, .ref v0), (1, .long v1), (3, .int v3), (6, .int v6)] dX4_firstsIn_29 (by show _ < 7; decide) rfl ?_
    refine xlet_e h (fun v6_3 ev6_3 h => ?_)
    refine y_iinc v6_3 ev6_3 (by decide) [(6, .int v6_3), (4, .long v4_2), (0, .ref v0), (1, .long v1), (3, .int v3)] dX4_firstsIn_31 4 rfl (by show _ < 7; decide) rfl ?_
    refine x_goto 6 dX4_firstsIn_34 (by decide) ?_
    refine x_lv (lv' := [(0, .ref v0), (1, .long v1), (3, .int v3), (4, .long v4_2), (6, .int v6_3)]) [2, 3, 4, 1, 0] rfl ?_
    exact hrec_6 k0 h
theorem t_X4_firstsIn_6 {F P : Nat} {S : xSt} (hS : xWF S) : ∀ (n : Nat) {v0 : Nat} {v1 : Int64} {v3 : Int32} {v4 : Int64} {v6 : Int32} {D : xDt} {r : Int64 × xDt}, xK S v0 4 → f_X4_firstsIn_6 F P S n v0 v1 v3 v4 v6 D = some r → yEx md_X4_firstsIn 0 6 [(0, .ref v0), (1, .long v1), (3, .int v3), (4, .long v4), (6, .int v6)] [] S D (xQl S r) := by
  intro n
  induction n with
  | zero => intros; rename_i h; cases h
  | succ n ih =>
    intro v0 v1 v3 v4 v6 D r k0 h
    exact t_X4_firstsIn_6s hS (fun k0 h => ih k0 h) k0 h

def f_X4_firstsIn (F P : Nat) (S : xSt) (v0 : Nat) (v1 : Int64) (v3 : Int32) (D : xDt) : Option (Int64 × xDt) :=
  f_X4_firstsIn_6 F P S F v0 v1 v3 0 0 D
set_option maxHeartbeats 4000000 in
theorem S_X4_firstsIn {F P : Nat} {S : xSt} (hS : xWF S) {v0 : Nat} {v1 : Int64} {v3 : Int32} {D : xDt} {r : Int64 × xDt} (k0 : xK S v0 4) (h : f_X4_firstsIn F P S v0 v1 v3 D = some r) : xSp md_X4_firstsIn (0, 0, 0) [.ref v0, .long v1, .int v3] (S, D) (xQl S r) := by
  unfold f_X4_firstsIn at h
  refine xEntry (by decide) (Nat.le_of_ble_eq_true rfl) ?_
  refine x_lv (lv' := [(0, .ref v0), (1, .long v1), (3, .int v3)]) [0, 1, 2] rfl ?_
  refine x_lconst 0 dX4_firstsIn_0 (by decide) ?_
  refine y_lstore 0 rfl [(4, .long 0), (0, .ref v0), (1, .long v1), (3, .int v3)] dX4_firstsIn_1 (by show _ < 7; decide) rfl ?_
  refine x_iconst 0 dX4_firstsIn_3 (by decide) ?_
  refine y_istore 0 rfl [(6, .int 0), (4, .long 0), (0, .ref v0), (1, .long v1), (3, .int v3)] dX4_firstsIn_4 (by show _ < 7; decide) rfl ?_
  refine x_lv (lv' := [(0, .ref v0), (1, .long v1), (3, .int v3), (4, .long 0), (6, .int 0)]) [2, 3, 4, 1, 0] rfl ?_
  exact t_X4_firstsIn_6 hS F k0 h

theorem dX4_look_0 : decode cX4_look 0 = .ok (.iconst 0, 1) := by decide +kernel
theorem dX4_look_1 : decode cX4_look 1 = .ok (.istore_n 2, 1) := by decide +kernel
theorem dX4_look_2 : decode cX4_look 2 = .ok (.iload_n 2, 1) := by decide +kernel
theorem dX4_look_3 : decode cX4_look 3 = .ok (.iconst 4, 1) := by decide +kernel
theorem dX4_look_4 : decode cX4_look 4 = .ok (.if_icmp .ge 84, 3) := by decide +kernel
theorem dX4_look_7 : decode cX4_look 7 = .ok (.iconst 0, 1) := by decide +kernel
theorem dX4_look_8 : decode cX4_look 8 = .ok (.istore_n 3, 1) := by decide +kernel
theorem dX4_look_9 : decode cX4_look 9 = .ok (.iload_n 3, 1) := by decide +kernel
theorem dX4_look_10 : decode cX4_look 10 = .ok (.aload_n 1, 1) := by decide +kernel
theorem dX4_look_11 : decode cX4_look 11 = .ok (.getfield 33, 3) := by decide +kernel
theorem dX4_look_14 : decode cX4_look 14 = .ok (.if_icmp .ge 68, 3) := by decide +kernel
theorem dX4_look_17 : decode cX4_look 17 = .ok (.aload_n 1, 1) := by decide +kernel
theorem dX4_look_18 : decode cX4_look 18 = .ok (.iload_n 2, 1) := by decide +kernel
theorem dX4_look_19 : decode cX4_look 19 = .ok (.iload_n 3, 1) := by decide +kernel
theorem dX4_look_20 : decode cX4_look 20 = .ok (.invokevirtual 56, 3) := by decide +kernel
theorem dX4_look_23 : decode cX4_look 23 = .ok (.lstore 4, 2) := by decide +kernel
theorem dX4_look_25 : decode cX4_look 25 = .ok (.lload 4, 2) := by decide +kernel
theorem dX4_look_27 : decode cX4_look 27 = .ok (.invokestatic 60, 3) := by decide +kernel
theorem dX4_look_30 : decode cX4_look 30 = .ok (.istore 6, 2) := by decide +kernel
theorem dX4_look_32 : decode cX4_look 32 = .ok (.iload_n 2, 1) := by decide +kernel
theorem dX4_look_33 : decode cX4_look 33 = .ok (.bipush 64, 2) := by decide +kernel
theorem dX4_look_35 : decode cX4_look 35 = .ok (.imul, 1) := by decide +kernel
theorem dX4_look_36 : decode cX4_look 36 = .ok (.istore 7, 2) := by decide +kernel
theorem dX4_look_38 : decode cX4_look 38 = .ok (.aload_n 0, 1) := by decide +kernel
theorem dX4_look_39 : decode cX4_look 39 = .ok (.getfield 15, 3) := by decide +kernel
theorem dX4_look_42 : decode cX4_look 42 = .ok (.iload 7, 2) := by decide +kernel
theorem dX4_look_44 : decode cX4_look 44 = .ok (.iload_n 3, 1) := by decide +kernel
theorem dX4_look_45 : decode cX4_look 45 = .ok (.iadd, 1) := by decide +kernel
theorem dX4_look_46 : decode cX4_look 46 = .ok (.iload 6, 2) := by decide +kernel
theorem dX4_look_48 : decode cX4_look 48 = .ok (.iload_n 3, 1) := by decide +kernel
theorem dX4_look_49 : decode cX4_look 49 = .ok (.if_icmp .ge 16, 3) := by decide +kernel
theorem dX4_look_52 : decode cX4_look 52 = .ok (.aload_n 0, 1) := by decide +kernel
theorem dX4_look_53 : decode cX4_look 53 = .ok (.getfield 15, 3) := by decide +kernel
theorem dX4_look_56 : decode cX4_look 56 = .ok (.iload 7, 2) := by decide +kernel
theorem dX4_look_58 : decode cX4_look 58 = .ok (.iload 6, 2) := by decide +kernel
theorem dX4_look_60 : decode cX4_look 60 = .ok (.iadd, 1) := by decide +kernel
theorem dX4_look_61 : decode cX4_look 61 = .ok (.laload, 1) := by decide +kernel
theorem dX4_look_62 : decode cX4_look 62 = .ok (.goto 13, 3) := by decide +kernel
theorem dX4_look_65 : decode cX4_look 65 = .ok (.aload_n 0, 1) := by decide +kernel
theorem dX4_look_66 : decode cX4_look 66 = .ok (.lload 4, 2) := by decide +kernel
theorem dX4_look_68 : decode cX4_look 68 = .ok (.aload_n 1, 1) := by decide +kernel
theorem dX4_look_69 : decode cX4_look 69 = .ok (.getfield 33, 3) := by decide +kernel
theorem dX4_look_72 : decode cX4_look 72 = .ok (.invokevirtual 64, 3) := by decide +kernel
theorem dX4_look_75 : decode cX4_look 75 = .ok (.lastore, 1) := by decide +kernel
theorem dX4_look_76 : decode cX4_look 76 = .ok (.iinc 3 1, 3) := by decide +kernel
theorem dX4_look_79 : decode cX4_look 79 = .ok (.goto (-70), 3) := by decide +kernel
theorem dX4_look_82 : decode cX4_look 82 = .ok (.iinc 2 1, 3) := by decide +kernel
theorem dX4_look_85 : decode cX4_look 85 = .ok (.goto (-83), 3) := by decide +kernel
theorem dX4_look_88 : decode cX4_look 88 = .ok (.return_, 1) := by decide +kernel
def f_X4_look_75 (F P : Nat) (S : xSt) (rec_2 : Nat → Nat → Int32 → xDt → Option (xDt)) (rec_9 : Nat → Nat → Int32 → Int32 → xDt → Option (xDt)) (v0 : Nat) (v1 : Nat) (v2 : Int32) (v3 : Int32) (s0 : Int64) (s1 : Int32) (s2 : Nat) (D : xDt) : Option (xDt) :=
  xgrd (xin s1 (xl S s2)) (xlet (D.1, xup D.2 s2 (s1).toNatClampNeg s0) fun D2 => xlet (v3 + 1) fun v3_3 => rec_9 v0 v1 v2 v3_3 D2)
set_option maxHeartbeats 4000000 in
theorem t_X4_look_75 {F P : Nat} {S : xSt} (hS : xWF S) {rec_2 : Nat → Nat → Int32 → xDt → Option (xDt)} (hrec_2 : ∀ {v0 : Nat} {v1 : Nat} {v2 : Int32} {D : xDt} {r : xDt}, xK S v0 4 → xK S v1 10 → rec_2 v0 v1 v2 D = some r → yEx md_X4_look 2 2 [(0, .ref v0), (1, .ref v1), (2, .int v2)] [] S D (xQv S r)) {rec_9 : Nat → Nat → Int32 → Int32 → xDt → Option (xDt)} (hrec_9 : ∀ {v0 : Nat} {v1 : Nat} {v2 : Int32} {v3 : Int32} {D : xDt} {r : xDt}, xK S v0 4 → xK S v1 10 → rec_9 v0 v1 v2 v3 D = some r → yEx md_X4_look 2 9 [(0, .ref v0), (1, .ref v1), (2, .int v2), (3, .int v3)] [] S D (xQv S r)) {v0 : Nat} {v1 : Nat} {v2 : Int32} {v3 : Int32} {s0 : Int64} {s1 : Int32} {s2 : Nat} {D : xDt} {r : xDt} (k0 : xK S v0 4) (k1 : xK S v1 10) (ks2 : xK S s2 101) (h : f_X4_look_75 F P S rec_2 rec_9 v0 v1 v2 v3 s0 s1 s2 D = some r) : yEx md_X4_look 2 75 [(0, .ref v0), (1, .ref v1), (2, .int v2), (3, .int v3)] [.long s0, .int s1, .ref s2] S D (xQv S r) := by
  unfold f_X4_look_75 at h
  refine xgrd_e h (fun g1 h => ?_)
  refine xlet_e h (fun D2 eD2 h => ?_)
  refine y_last dX4_look_75 ks2 g1 eD2 ?_
  refine xlet_e h (fun v3_3 ev3_3 h => ?_)
  refine y_iinc v3_3 ev3_3 (by decide) [(3, .int v3_3), (0, .ref v0), (1, .ref v1), (2, .int v2)] dX4_look_76 3 rfl (by show _ < 8; decide) rfl ?_
  refine x_goto 9 dX4_look_79 (by decide) ?_
  refine x_lv (lv' := [(0, .ref v0), (1, .ref v1), (2, .int v2), (3, .int v3_3)]) [1, 2, 3, 0] rfl ?_
  exact hrec_9 k0 k1 h

def f_X4_look_9s (F P : Nat) (S : xSt) (rec_2 : Nat → Nat → Int32 → xDt → Option (xDt)) (rec_9 : Nat → Nat → Int32 → Int32 → xDt → Option (xDt)) (v0 : Nat) (v1 : Nat) (v2 : Int32) (v3 : Int32) (D : xDt) : Option (xDt) :=
  if (D.1 v1 0) ≤ v3 then (xlet (v2 + 1) fun v2_1 => rec_2 v0 v1 v2_1 D) else ((f_X10_cell F P S v1 v2 v3 D).bind fun q2 => (f_X11_lowest F P S q2.1 q2.2).bind fun q3 => xlet (v2 * 64) fun v7_4 => if v3 ≤ q3.1 then ((f_X4_firstsIn F P S v0 q2.1 (q3.2.1 v1 0) q3.2).bind fun q5 => f_X4_look_75 F P S rec_2 rec_9 v0 v1 v2 v3 q5.1 (v7_4 + v3) (xr S v0 1) q5.2) else (xgrd (xin (v7_4 + q3.1) (xl S (xr S v0 1))) (f_X4_look_75 F P S rec_2 rec_9 v0 v1 v2 v3 (q3.2.2 (xr S v0 1) (v7_4 + q3.1).toNatClampNeg) (v7_4 + v3) (xr S v0 1) q3.2)))
def f_X4_look_9 (F P : Nat) (S : xSt) (rec_2 : Nat → Nat → Int32 → xDt → Option (xDt)) : Nat → Nat → Nat → Int32 → Int32 → xDt → Option (xDt)
  | 0 => fun _ _ _ _ _ => none
  | n + 1 => f_X4_look_9s F P S rec_2 (f_X4_look_9 F P S rec_2 n)
set_option maxHeartbeats 4000000 in
theorem t_X4_look_9s {F P : Nat} {S : xSt} (hS : xWF S) {rec_2 : Nat → Nat → Int32 → xDt → Option (xDt)} (hrec_2 : ∀ {v0 : Nat} {v1 : Nat} {v2 : Int32} {D : xDt} {r : xDt}, xK S v0 4 → xK S v1 10 → rec_2 v0 v1 v2 D = some r → yEx md_X4_look 2 2 [(0, .ref v0), (1, .ref v1), (2, .int v2)] [] S D (xQv S r)) {rec_9 : Nat → Nat → Int32 → Int32 → xDt → Option (xDt)} (hrec_9 : ∀ {v0 : Nat} {v1 : Nat} {v2 : Int32} {v3 : Int32} {D : xDt} {r : xDt}, xK S v0 4 → xK S v1 10 → rec_9 v0 v1 v2 v3 D = some r → yEx md_X4_look 2 9 [(0, .ref v0), (1, .ref v1), (2, .int v2), (3, .int v3)] [] S D (xQv S r)) {v0 : Nat} {v1 : Nat} {v2 : Int32} {v3 : Int32} {D : xDt} {r : xDt} (k0 : xK S v0 4) (k1 : xK S v1 10) (h : f_X4_look_9s F P S rec_2 rec_9 v0 v1 v2 v3 D = some r) : yEx md_X4_look 2 9 [(0, .ref v0), (1, .ref v1), (2, .int v2), (3, .int v3)] [] S D (xQv S r) := by
  unfold f_X4_look_9s at h
  refine x_iload_n dX4_look_9 3 rfl ?_
  refine x_aload_n dX4_look_10 1 rfl ?_
  refine y_geti fl_RX4_33 dX4_look_11 rfl k1 ?_
  refine x_icmp_ge 82 dX4_look_14 (by decide) (fun c => ?_) (fun c => ?_)
  · rw [if_pos c] at h
    refine xlet_e h (fun v2_1 ev2_1 h => ?_)
    refine y_iinc v2_1 ev2_1 (by decide) [(2, .int v2_1), (0, .ref v0), (1, .ref v1), (3, .int v3)] dX4_look_82 2 rfl (by show _ < 8; decide) rfl ?_
    refine x_goto 2 dX4_look_85 (by decide) ?_
    refine x_lv (lv' := [(0, .ref v0), (1, .ref v1), (2, .int v2_1)]) [1, 2, 0] rfl ?_
    exact hrec_2 k0 k1 h
  · rw [if_neg c] at h
    refine x_aload_n dX4_look_17 1 rfl ?_
    refine x_iload_n dX4_look_18 2 rfl ?_
    refine x_iload_n dX4_look_19 3 rfl ?_
    refine xbnd_e h (fun q2 e2 h => ?_)
    refine y_callVl (As := [.int v2, .int v3]) (q := q2) cv_RX4_56 dX4_look_20 k1 rfl (Nat.le_of_ble_eq_true rfl) (by omega) (S_X10_cell hS k1 e2) ?_
    refine y_lstore q2.1 rfl [(4, .long q2.1), (0, .ref v0), (1, .ref v1), (2, .int v2), (3, .int v3)] dX4_look_23 (by show _ < 8; decide) rfl ?_
    refine x_lload dX4_look_25 0 rfl ?_
    refine xbnd_e h (fun q3 e3 h => ?_)
    refine y_callNi (As := [.long q2.1]) (q := q3) cn_RX4_60 dX4_look_27 rfl (Nat.le_of_ble_eq_true rfl) (by omega) (S_X11_lowest hS e3) ?_
    refine y_istore q3.1 rfl [(6, .int q3.1), (4, .long q2.1), (0, .ref v0), (1, .ref v1), (2, .int v2), (3, .int v3)] dX4_look_30 (by show _ < 8; decide) rfl ?_
    refine x_iload_n dX4_look_32 4 rfl ?_
    refine x_bipush 64 dX4_look_33 (by decide) ?_
    refine x_imul dX4_look_35 ?_
    refine xlet_e h (fun v7_4 ev7_4 h => ?_)
    refine y_istore v7_4 ev7_4 [(7, .int v7_4), (6, .int q3.1), (4, .long q2.1), (0, .ref v0), (1, .ref v1), (2, .int v2), (3, .int v3)] dX4_look_36 (by show _ < 8; decide) rfl ?_
    refine x_aload_n dX4_look_38 3 rfl ?_
    refine y_getr (kd := 101) hS fl_RX4_15 dX4_look_39 rfl k0 ?_
    refine x_iload dX4_look_42 0 rfl ?_
    refine x_iload_n dX4_look_44 6 rfl ?_
    refine x_iadd dX4_look_45 ?_
    refine x_iload dX4_look_46 1 rfl ?_
    refine x_iload_n dX4_look_48 6 rfl ?_
    refine x_icmp_ge 65 dX4_look_49 (by decide) (fun c => ?_) (fun c => ?_)
    · rw [if_pos c] at h
      refine x_aload_n dX4_look_65 3 rfl ?_
      refine x_lload dX4_look_66 2 rfl ?_
      refine x_aload_n dX4_look_68 4 rfl ?_
      refine y_geti fl_RX4_33 dX4_look_69 rfl k1 ?_
      refine xbnd_e h (fun q5 e5 h => ?_)
      refine y_callVl (As := [.long q2.1, .int (q3.2.1 v1 0)]) (q := q5) cv_RX4_64 dX4_look_72 k0 rfl (Nat.le_of_ble_eq_true rfl) (by omega) (S_X4_firstsIn hS k0 e5) ?_
      refine x_lv (lv' := [(0, .ref v0), (1, .ref v1), (2, .int v2), (3, .int v3)]) [3, 4, 5, 6] rfl ?_
      exact t_X4_look_75 hS hrec_2 hrec_9 k0 k1 ((hS.f k0 1 101 rfl).2) h
    · rw [if_neg c] at h
      refine x_aload_n dX4_look_52 3 rfl ?_
      refine y_getr (kd := 101) hS fl_RX4_15 dX4_look_53 rfl k0 ?_
      refine x_iload dX4_look_56 0 rfl ?_
      refine x_iload dX4_look_58 1 rfl ?_
      refine x_iadd dX4_look_60 ?_
      refine xgrd_e h (fun g6 h => ?_)
      refine y_lald dX4_look_61 ((hS.f k0 1 101 rfl).2) g6 ?_
      refine x_goto 75 dX4_look_62 (by decide) ?_
      refine x_lv (lv' := [(0, .ref v0), (1, .ref v1), (2, .int v2), (3, .int v3)]) [3, 4, 5, 6] rfl ?_
      exact t_X4_look_75 hS hrec_2 hrec_9 k0 k1 ((hS.f k0 1 101 rfl).2) h
theorem t_X4_look_9 {F P : Nat} {S : xSt} (hS : xWF S) {rec_2 : Nat → Nat → Int32 → xDt → Option (xDt)} (hrec_2 : ∀ {v0 : Nat} {v1 : Nat} {v2 : Int32} {D : xDt} {r : xDt}, xK S v0 4 → xK S v1 10 → rec_2 v0 v1 v2 D = some r → yEx md_X4_look 2 2 [(0, .ref v0), (1, .ref v1), (2, .int v2)] [] S D (xQv S r)) : ∀ (n : Nat) {v0 : Nat} {v1 : Nat} {v2 : Int32} {v3 : Int32} {D : xDt} {r : xDt}, xK S v0 4 → xK S v1 10 → f_X4_look_9 F P S rec_2 n v0 v1 v2 v3 D = some r → yEx md_X4_look 2 9 [(0, .ref v0), (1, .ref v1), (2, .int v2), (3, .int v3)] [] S D (xQv S r) := by
  intro n
  induction n with
  | zero => intros; rename_i h; cases h
  | succ n ih =>
    intro v0 v1 v2 v3 D r k0 k1 h
    exact t_X4_look_9s hS hrec_2 (fun k0 k1 h => ih k0 k1 h) k0 k1 h

def f_X4_look_2s (F P : Nat) (S : xSt) (rec_2 : Nat → Nat → Int32 → xDt → Option (xDt)) (v0 : Nat) (v1 : Nat) (v2 : Int32) (D : xDt) : Option (xDt) :=
  if 4 ≤ v2 then (some D) else (f_X4_look_9 F P S rec_2 F v0 v1 v2 0 D)
def f_X4_look_2 (F P : Nat) (S : xSt) : Nat → Nat → Nat → Int32 → xDt → Option (xDt)
  | 0 => fun _ _ _ _ => none
  | n + 1 => f_X4_look_2s F P S (f_X4_look_2 F P S n)
set_option maxHeartbeats 4000000 in
theorem t_X4_look_2s {F P : Nat} {S : xSt} (hS : xWF S) {rec_2 : Nat → Nat → Int32 → xDt → Option (xDt)} (hrec_2 : ∀ {v0 : Nat} {v1 : Nat} {v2 : Int32} {D : xDt} {r : xDt}, xK S v0 4 → xK S v1 10 → rec_2 v0 v1 v2 D = some r → yEx md_X4_look 2 2 [(0, .ref v0), (1, .ref v1), (2, .int v2)] [] S D (xQv S r)) {v0 : Nat} {v1 : Nat} {v2 : Int32} {D : xDt} {r : xDt} (k0 : xK S v0 4) (k1 : xK S v1 10) (h : f_X4_look_2s F P S rec_2 v0 v1 v2 D = some r) : yEx md_X4_look 2 2 [(0, .ref v0), (1, .ref v1), (2, .int v2)] [] S D (xQv S r) := by
  unfold f_X4_look_2s at h
  refine x_iload_n dX4_look_2 2 rfl ?_
  refine x_iconst 4 dX4_look_3 (by decide) ?_
  refine x_icmp_ge 88 dX4_look_4 (by decide) (fun c => ?_) (fun c => ?_)
  · rw [if_pos c] at h
    obtain rfl := Option.some.inj h
    exact y_vret rfl dX4_look_88
  · rw [if_neg c] at h
    refine x_iconst 0 dX4_look_7 (by decide) ?_
    refine y_istore_n 0 rfl [(3, .int 0), (0, .ref v0), (1, .ref v1), (2, .int v2)] dX4_look_8 (by show _ < 8; decide) rfl ?_
    refine x_lv (lv' := [(0, .ref v0), (1, .ref v1), (2, .int v2), (3, .int 0)]) [1, 2, 3, 0] rfl ?_
    exact t_X4_look_9 hS hrec_2 F k0 k1 h
theorem t_X4_look_2 {F P : Nat} {S : xSt} (hS : xWF S) : ∀ (n : Nat) {v0 : Nat} {v1 : Nat} {v2 : Int32} {D : xDt} {r : xDt}, xK S v0 4 → xK S v1 10 → f_X4_look_2 F P S n v0 v1 v2 D = some r → yEx md_X4_look 2 2 [(0, .ref v0), (1, .ref v1), (2, .int v2)] [] S D (xQv S r) := by
  intro n
  induction n with
  | zero => intros; rename_i h; cases h
  | succ n ih =>
    intro v0 v1 v2 D r k0 k1 h
    exact t_X4_look_2s hS (fun k0 k1 h => ih k0 k1 h) k0 k1 h

def f_X4_look (F P : Nat) (S : xSt) (v0 : Nat) (v1 : Nat) (D : xDt) : Option (xDt) :=
  f_X4_look_2 F P S F v0 v1 0 D
set_option maxHeartbeats 4000000 in
theorem S_X4_look {F P : Nat} {S : xSt} (hS : xWF S) {v0 : Nat} {v1 : Nat} {D : xDt} {r : xDt} (k0 : xK S v0 4) (k1 : xK S v1 10) (h : f_X4_look F P S v0 v1 D = some r) : xSp md_X4_look (2, 0, 0) [.ref v0, .ref v1] (S, D) (xQv S r) := by
  unfold f_X4_look at h
  refine xEntry (by decide) (Nat.le_of_ble_eq_true rfl) ?_
  refine x_lv (lv' := [(0, .ref v0), (1, .ref v1)]) [0, 1] rfl ?_
  refine x_iconst 0 dX4_look_0 (by decide) ?_
  refine y_istore_n 0 rfl [(2, .int 0), (0, .ref v0), (1, .ref v1)] dX4_look_1 (by show _ < 8; decide) rfl ?_
  refine x_lv (lv' := [(0, .ref v0), (1, .ref v1), (2, .int 0)]) [1, 2, 0] rfl ?_
  exact t_X4_look_2 hS F k0 k1 h

