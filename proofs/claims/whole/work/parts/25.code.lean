/-! printed by wip/whole/gen.py: the methods as plain functions, each proved to be what its bytecode does -/
theorem dX6_takeJoin_0 : decode cX6_takeJoin 0 = .ok (.iload_n 1, 1) := by decide +kernel
theorem dX6_takeJoin_1 : decode cX6_takeJoin 1 = .ok (.invokestatic 127, 3) := by decide +kernel
theorem dX6_takeJoin_4 : decode cX6_takeJoin 4 = .ok (.ifCond .eq 21, 3) := by decide +kernel
theorem dX6_takeJoin_7 : decode cX6_takeJoin 7 = .ok (.iload_n 1, 1) := by decide +kernel
theorem dX6_takeJoin_8 : decode cX6_takeJoin 8 = .ok (.bipush 61, 2) := by decide +kernel
theorem dX6_takeJoin_10 : decode cX6_takeJoin 10 = .ok (.if_icmp .ne 17, 3) := by decide +kernel
theorem dX6_takeJoin_13 : decode cX6_takeJoin 13 = .ok (.aload_n 0, 1) := by decide +kernel
theorem dX6_takeJoin_14 : decode cX6_takeJoin 14 = .ok (.getfield 40, 3) := by decide +kernel
theorem dX6_takeJoin_17 : decode cX6_takeJoin 17 = .ok (.aload_n 0, 1) := by decide +kernel
theorem dX6_takeJoin_18 : decode cX6_takeJoin 18 = .ok (.getfield 57, 3) := by decide +kernel
theorem dX6_takeJoin_21 : decode cX6_takeJoin 21 = .ok (.baload, 1) := by decide +kernel
theorem dX6_takeJoin_22 : decode cX6_takeJoin 22 = .ok (.ifCond .eq 5, 3) := by decide +kernel
theorem dX6_takeJoin_25 : decode cX6_takeJoin 25 = .ok (.iconst 0, 1) := by decide +kernel
theorem dX6_takeJoin_26 : decode cX6_takeJoin 26 = .ok (.ireturn, 1) := by decide +kernel
theorem dX6_takeJoin_27 : decode cX6_takeJoin 27 = .ok (.iload_n 1, 1) := by decide +kernel
theorem dX6_takeJoin_28 : decode cX6_takeJoin 28 = .ok (.bipush 61, 2) := by decide +kernel
theorem dX6_takeJoin_30 : decode cX6_takeJoin 30 = .ok (.if_icmp .ne 15, 3) := by decide +kernel
theorem dX6_takeJoin_33 : decode cX6_takeJoin 33 = .ok (.aload_n 0, 1) := by decide +kernel
theorem dX6_takeJoin_34 : decode cX6_takeJoin 34 = .ok (.getfield 27, 3) := by decide +kernel
theorem dX6_takeJoin_37 : decode cX6_takeJoin 37 = .ok (.aload_n 0, 1) := by decide +kernel
theorem dX6_takeJoin_38 : decode cX6_takeJoin 38 = .ok (.getfield 57, 3) := by decide +kernel
theorem dX6_takeJoin_41 : decode cX6_takeJoin 41 = .ok (.iaload, 1) := by decide +kernel
theorem dX6_takeJoin_42 : decode cX6_takeJoin 42 = .ok (.goto 30, 3) := by decide +kernel
theorem dX6_takeJoin_45 : decode cX6_takeJoin 45 = .ok (.iload_n 1, 1) := by decide +kernel
theorem dX6_takeJoin_46 : decode cX6_takeJoin 46 = .ok (.bipush 38, 2) := by decide +kernel
theorem dX6_takeJoin_48 : decode cX6_takeJoin 48 = .ok (.if_icmp .ne 15, 3) := by decide +kernel
theorem dX6_takeJoin_51 : decode cX6_takeJoin 51 = .ok (.aload_n 0, 1) := by decide +kernel
theorem dX6_takeJoin_52 : decode cX6_takeJoin 52 = .ok (.getfield 34, 3) := by decide +kernel
theorem dX6_takeJoin_55 : decode cX6_takeJoin 55 = .ok (.aload_n 0, 1) := by decide +kernel
theorem dX6_takeJoin_56 : decode cX6_takeJoin 56 = .ok (.getfield 57, 3) := by decide +kernel
theorem dX6_takeJoin_59 : decode cX6_takeJoin 59 = .ok (.iaload, 1) := by decide +kernel
theorem dX6_takeJoin_60 : decode cX6_takeJoin 60 = .ok (.goto 12, 3) := by decide +kernel
theorem dX6_takeJoin_63 : decode cX6_takeJoin 63 = .ok (.aload_n 0, 1) := by decide +kernel
theorem dX6_takeJoin_64 : decode cX6_takeJoin 64 = .ok (.getfield 31, 3) := by decide +kernel
theorem dX6_takeJoin_67 : decode cX6_takeJoin 67 = .ok (.aload_n 0, 1) := by decide +kernel
theorem dX6_takeJoin_68 : decode cX6_takeJoin 68 = .ok (.getfield 57, 3) := by decide +kernel
theorem dX6_takeJoin_71 : decode cX6_takeJoin 71 = .ok (.iaload, 1) := by decide +kernel
theorem dX6_takeJoin_72 : decode cX6_takeJoin 72 = .ok (.istore_n 2, 1) := by decide +kernel
theorem dX6_takeJoin_73 : decode cX6_takeJoin 73 = .ok (.aload_n 0, 1) := by decide +kernel
theorem dX6_takeJoin_74 : decode cX6_takeJoin 74 = .ok (.getfield 20, 3) := by decide +kernel
theorem dX6_takeJoin_77 : decode cX6_takeJoin 77 = .ok (.iload_n 2, 1) := by decide +kernel
theorem dX6_takeJoin_78 : decode cX6_takeJoin 78 = .ok (.iload_n 1, 1) := by decide +kernel
theorem dX6_takeJoin_79 : decode cX6_takeJoin 79 = .ok (.invokevirtual 130, 3) := by decide +kernel
theorem dX6_takeJoin_82 : decode cX6_takeJoin 82 = .ok (.ifCond .ne 5, 3) := by decide +kernel
theorem dX6_takeJoin_85 : decode cX6_takeJoin 85 = .ok (.iconst 0, 1) := by decide +kernel
theorem dX6_takeJoin_86 : decode cX6_takeJoin 86 = .ok (.ireturn, 1) := by decide +kernel
theorem dX6_takeJoin_87 : decode cX6_takeJoin 87 = .ok (.aload_n 0, 1) := by decide +kernel
theorem dX6_takeJoin_88 : decode cX6_takeJoin 88 = .ok (.getfield 40, 3) := by decide +kernel
theorem dX6_takeJoin_91 : decode cX6_takeJoin 91 = .ok (.aload_n 0, 1) := by decide +kernel
theorem dX6_takeJoin_92 : decode cX6_takeJoin 92 = .ok (.getfield 57, 3) := by decide +kernel
theorem dX6_takeJoin_95 : decode cX6_takeJoin 95 = .ok (.aload_n 0, 1) := by decide +kernel
theorem dX6_takeJoin_96 : decode cX6_takeJoin 96 = .ok (.getfield 40, 3) := by decide +kernel
theorem dX6_takeJoin_99 : decode cX6_takeJoin 99 = .ok (.aload_n 0, 1) := by decide +kernel
theorem dX6_takeJoin_100 : decode cX6_takeJoin 100 = .ok (.getfield 57, 3) := by decide +kernel
theorem dX6_takeJoin_103 : decode cX6_takeJoin 103 = .ok (.baload, 1) := by decide +kernel
theorem dX6_takeJoin_104 : decode cX6_takeJoin 104 = .ok (.ifCond .ne 9, 3) := by decide +kernel
theorem dX6_takeJoin_107 : decode cX6_takeJoin 107 = .ok (.iload_n 1, 1) := by decide +kernel
theorem dX6_takeJoin_108 : decode cX6_takeJoin 108 = .ok (.bipush 61, 2) := by decide +kernel
theorem dX6_takeJoin_110 : decode cX6_takeJoin 110 = .ok (.if_icmp .ne 7, 3) := by decide +kernel
theorem dX6_takeJoin_113 : decode cX6_takeJoin 113 = .ok (.iconst 1, 1) := by decide +kernel
theorem dX6_takeJoin_114 : decode cX6_takeJoin 114 = .ok (.goto 4, 3) := by decide +kernel
theorem dX6_takeJoin_117 : decode cX6_takeJoin 117 = .ok (.iconst 0, 1) := by decide +kernel
theorem dX6_takeJoin_118 : decode cX6_takeJoin 118 = .ok (.bastore, 1) := by decide +kernel
theorem dX6_takeJoin_119 : decode cX6_takeJoin 119 = .ok (.aload_n 0, 1) := by decide +kernel
theorem dX6_takeJoin_120 : decode cX6_takeJoin 120 = .ok (.getfield 31, 3) := by decide +kernel
theorem dX6_takeJoin_123 : decode cX6_takeJoin 123 = .ok (.aload_n 0, 1) := by decide +kernel
theorem dX6_takeJoin_124 : decode cX6_takeJoin 124 = .ok (.getfield 57, 3) := by decide +kernel
theorem dX6_takeJoin_127 : decode cX6_takeJoin 127 = .ok (.iload_n 1, 1) := by decide +kernel
theorem dX6_takeJoin_128 : decode cX6_takeJoin 128 = .ok (.bipush 61, 2) := by decide +kernel
theorem dX6_takeJoin_130 : decode cX6_takeJoin 130 = .ok (.if_icmp .eq 9, 3) := by decide +kernel
theorem dX6_takeJoin_133 : decode cX6_takeJoin 133 = .ok (.iload_n 1, 1) := by decide +kernel
theorem dX6_takeJoin_134 : decode cX6_takeJoin 134 = .ok (.bipush 62, 2) := by decide +kernel
theorem dX6_takeJoin_136 : decode cX6_takeJoin 136 = .ok (.if_icmp .ne 13, 3) := by decide +kernel
theorem dX6_takeJoin_139 : decode cX6_takeJoin 139 = .ok (.aload_n 0, 1) := by decide +kernel
theorem dX6_takeJoin_140 : decode cX6_takeJoin 140 = .ok (.getfield 20, 3) := by decide +kernel
theorem dX6_takeJoin_143 : decode cX6_takeJoin 143 = .ok (.getfield 56, 3) := by decide +kernel
theorem dX6_takeJoin_146 : decode cX6_takeJoin 146 = .ok (.goto 12, 3) := by decide +kernel
theorem dX6_takeJoin_149 : decode cX6_takeJoin 149 = .ok (.aload_n 0, 1) := by decide +kernel
theorem dX6_takeJoin_150 : decode cX6_takeJoin 150 = .ok (.getfield 31, 3) := by decide +kernel
theorem dX6_takeJoin_153 : decode cX6_takeJoin 153 = .ok (.aload_n 0, 1) := by decide +kernel
theorem dX6_takeJoin_154 : decode cX6_takeJoin 154 = .ok (.getfield 57, 3) := by decide +kernel
theorem dX6_takeJoin_157 : decode cX6_takeJoin 157 = .ok (.iaload, 1) := by decide +kernel
theorem dX6_takeJoin_158 : decode cX6_takeJoin 158 = .ok (.iastore, 1) := by decide +kernel
theorem dX6_takeJoin_159 : decode cX6_takeJoin 159 = .ok (.aload_n 0, 1) := by decide +kernel
theorem dX6_takeJoin_160 : decode cX6_takeJoin 160 = .ok (.getfield 34, 3) := by decide +kernel
theorem dX6_takeJoin_163 : decode cX6_takeJoin 163 = .ok (.aload_n 0, 1) := by decide +kernel
theorem dX6_takeJoin_164 : decode cX6_takeJoin 164 = .ok (.getfield 57, 3) := by decide +kernel
theorem dX6_takeJoin_167 : decode cX6_takeJoin 167 = .ok (.iload_n 1, 1) := by decide +kernel
theorem dX6_takeJoin_168 : decode cX6_takeJoin 168 = .ok (.bipush 38, 2) := by decide +kernel
theorem dX6_takeJoin_170 : decode cX6_takeJoin 170 = .ok (.if_icmp .ne 15, 3) := by decide +kernel
theorem dX6_takeJoin_173 : decode cX6_takeJoin 173 = .ok (.aload_n 0, 1) := by decide +kernel
theorem dX6_takeJoin_174 : decode cX6_takeJoin 174 = .ok (.getfield 34, 3) := by decide +kernel
theorem dX6_takeJoin_177 : decode cX6_takeJoin 177 = .ok (.aload_n 0, 1) := by decide +kernel
theorem dX6_takeJoin_178 : decode cX6_takeJoin 178 = .ok (.getfield 57, 3) := by decide +kernel
theorem dX6_takeJoin_181 : decode cX6_takeJoin 181 = .ok (.iaload, 1) := by decide +kernel
theorem dX6_takeJoin_182 : decode cX6_takeJoin 182 = .ok (.goto 10, 3) := by decide +kernel
theorem dX6_takeJoin_185 : decode cX6_takeJoin 185 = .ok (.aload_n 0, 1) := by decide +kernel
theorem dX6_takeJoin_186 : decode cX6_takeJoin 186 = .ok (.getfield 20, 3) := by decide +kernel
theorem dX6_takeJoin_189 : decode cX6_takeJoin 189 = .ok (.getfield 56, 3) := by decide +kernel
theorem dX6_takeJoin_192 : decode cX6_takeJoin 192 = .ok (.iastore, 1) := by decide +kernel
theorem dX6_takeJoin_193 : decode cX6_takeJoin 193 = .ok (.aload_n 0, 1) := by decide +kernel
theorem dX6_takeJoin_194 : decode cX6_takeJoin 194 = .ok (.invokevirtual 111, 3) := by decide +kernel
theorem dX6_takeJoin_197 : decode cX6_takeJoin 197 = .ok (.iconst 1, 1) := by decide +kernel
theorem dX6_takeJoin_198 : decode cX6_takeJoin 198 = .ok (.ireturn, 1) := by decide +kernel
def f_X6_takeJoin_192 (F P : Nat) (S : xSt) (v0 : Nat) (s0 : Int32) (s1 : Int32) (s2 : Nat) (D : xDt) : Option (Int32 × xDt) :=
  xgrd (xin s1 (xl S s2)) (xlet (xup D.1 s2 (s1).toNatClampNeg s0, D.2) fun D2 => (f_X6_wantFirstOne F P S v0 D2).bind fun q3 => some (1, q3))
set_option maxHeartbeats 4000000 in
theorem t_X6_takeJoin_192 {F P : Nat} {S : xSt} (hS : xWF S) {v0 : Nat} {s0 : Int32} {s1 : Int32} {s2 : Nat} {D : xDt} {r : Int32 × xDt} (k0 : xK S v0 6) (ks2 : xK S s2 100) (h : f_X6_takeJoin_192 F P S v0 s0 s1 s2 D = some r) : yEx md_X6_takeJoin 1 192 [(0, .ref v0)] [.int s0, .int s1, .ref s2] S D (xQi S r) := by
  unfold f_X6_takeJoin_192 at h
  refine xgrd_e h (fun g1 h => ?_)
  refine xlet_e h (fun D2 eD2 h => ?_)
  refine y_iast dX6_takeJoin_192 ks2 g1 eD2 ?_
  refine x_aload_n dX6_takeJoin_193 0 rfl ?_
  refine xbnd_e h (fun q3 e3 h => ?_)
  refine y_callVv (As := []) (q := q3) cv_RX6_111 dX6_takeJoin_194 k0 rfl (Nat.le_of_ble_eq_true rfl) (by omega) (S_X6_wantFirstOne hS k0 e3) ?_
  refine x_iconst 1 dX6_takeJoin_197 (by decide) ?_
  obtain rfl := Option.some.inj h
  exact y_zret rfl rfl dX6_takeJoin_198

def f_X6_takeJoin_158 (F P : Nat) (S : xSt) (v0 : Nat) (v1 : Int32) (s0 : Int32) (s1 : Int32) (s2 : Nat) (D : xDt) : Option (Int32 × xDt) :=
  xgrd (xin s1 (xl S s2)) (xlet (xup D.1 s2 (s1).toNatClampNeg s0, D.2) fun D2 => if v1 = 38 then (xgrd (xin (D2.1 v0 9) (xl S (xr S v0 6))) (f_X6_takeJoin_192 F P S v0 (D2.1 (xr S v0 6) (D2.1 v0 9).toNatClampNeg) (D2.1 v0 9) (xr S v0 6) D2)) else (f_X6_takeJoin_192 F P S v0 (D2.1 (xr S v0 2) 1) (D2.1 v0 9) (xr S v0 6) D2))
set_option maxHeartbeats 4000000 in
theorem t_X6_takeJoin_158 {F P : Nat} {S : xSt} (hS : xWF S) {v0 : Nat} {v1 : Int32} {s0 : Int32} {s1 : Int32} {s2 : Nat} {D : xDt} {r : Int32 × xDt} (k0 : xK S v0 6) (ks2 : xK S s2 100) (h : f_X6_takeJoin_158 F P S v0 v1 s0 s1 s2 D = some r) : yEx md_X6_takeJoin 1 158 [(0, .ref v0), (1, .int v1)] [.int s0, .int s1, .ref s2] S D (xQi S r) := by
  unfold f_X6_takeJoin_158 at h
  refine xgrd_e h (fun g1 h => ?_)
  refine xlet_e h (fun D2 eD2 h => ?_)
  refine y_iast dX6_takeJoin_158 ks2 g1 eD2 ?_
  refine x_aload_n dX6_takeJoin_159 0 rfl ?_
  refine y_getr (kd := 100) hS fl_RX6_34 dX6_takeJoin_160 rfl k0 ?_
  refine x_aload_n dX6_takeJoin_163 0 rfl ?_
  refine y_geti fl_RX6_57 dX6_takeJoin_164 rfl k0 ?_
  refine x_iload_n dX6_takeJoin_167 1 rfl ?_
  refine x_bipush 38 dX6_takeJoin_168 (by decide) ?_
  refine x_icmp_ne 185 dX6_takeJoin_170 (by decide) (fun c => ?_) (fun c => ?_)
  · rw [if_neg c] at h
    refine x_aload_n dX6_takeJoin_185 0 rfl ?_
    refine y_getr (kd := 2) hS fl_RX6_20 dX6_takeJoin_186 rfl k0 ?_
    refine y_geti fl_RX6_56 dX6_takeJoin_189 rfl ((hS.f k0 2 2 rfl).2) ?_
    refine x_lv (lv' := [(0, .ref v0)]) [0] rfl ?_
    exact t_X6_takeJoin_192 hS k0 ((hS.f k0 6 100 rfl).2) h
  · rw [if_pos c] at h
    refine x_aload_n dX6_takeJoin_173 0 rfl ?_
    refine y_getr (kd := 100) hS fl_RX6_34 dX6_takeJoin_174 rfl k0 ?_
    refine x_aload_n dX6_takeJoin_177 0 rfl ?_
    refine y_geti fl_RX6_57 dX6_takeJoin_178 rfl k0 ?_
    refine xgrd_e h (fun g3 h => ?_)
    refine y_iald dX6_takeJoin_181 ((hS.f k0 6 100 rfl).2) g3 ?_
    refine x_goto 192 dX6_takeJoin_182 (by decide) ?_
    refine x_lv (lv' := [(0, .ref v0)]) [0] rfl ?_
    exact t_X6_takeJoin_192 hS k0 ((hS.f k0 6 100 rfl).2) h

def f_X6_takeJoin_139 (F P : Nat) (S : xSt) (v0 : Nat) (v1 : Int32) (s0 : Int32) (s1 : Nat) (D : xDt) : Option (Int32 × xDt) :=
  f_X6_takeJoin_158 F P S v0 v1 (D.1 (xr S v0 2) 1) s0 s1 D
set_option maxHeartbeats 4000000 in
theorem t_X6_takeJoin_139 {F P : Nat} {S : xSt} (hS : xWF S) {v0 : Nat} {v1 : Int32} {s0 : Int32} {s1 : Nat} {D : xDt} {r : Int32 × xDt} (k0 : xK S v0 6) (ks1 : xK S s1 100) (h : f_X6_takeJoin_139 F P S v0 v1 s0 s1 D = some r) : yEx md_X6_takeJoin 1 139 [(0, .ref v0), (1, .int v1)] [.int s0, .ref s1] S D (xQi S r) := by
  unfold f_X6_takeJoin_139 at h
  refine x_aload_n dX6_takeJoin_139 0 rfl ?_
  refine y_getr (kd := 2) hS fl_RX6_20 dX6_takeJoin_140 rfl k0 ?_
  refine y_geti fl_RX6_56 dX6_takeJoin_143 rfl ((hS.f k0 2 2 rfl).2) ?_
  refine x_goto 158 dX6_takeJoin_146 (by decide) ?_
  exact t_X6_takeJoin_158 hS k0 ks1 h

def f_X6_takeJoin_118 (F P : Nat) (S : xSt) (v0 : Nat) (v1 : Int32) (s0 : Int32) (s1 : Int32) (s2 : Nat) (D : xDt) : Option (Int32 × xDt) :=
  xgrd (xin s1 (xl S s2)) (xlet (xup D.1 s2 (s1).toNatClampNeg (s0 &&& 1), D.2) fun D2 => if v1 = 61 then (f_X6_takeJoin_139 F P S v0 v1 (D2.1 v0 9) (xr S v0 5) D2) else (if v1 = 62 then (f_X6_takeJoin_139 F P S v0 v1 (D2.1 v0 9) (xr S v0 5) D2) else (xgrd (xin (D2.1 v0 9) (xl S (xr S v0 5))) (f_X6_takeJoin_158 F P S v0 v1 (D2.1 (xr S v0 5) (D2.1 v0 9).toNatClampNeg) (D2.1 v0 9) (xr S v0 5) D2))))
set_option maxHeartbeats 4000000 in
theorem t_X6_takeJoin_118 {F P : Nat} {S : xSt} (hS : xWF S) {v0 : Nat} {v1 : Int32} {s0 : Int32} {s1 : Int32} {s2 : Nat} {D : xDt} {r : Int32 × xDt} (k0 : xK S v0 6) (ks2 : xK S s2 104) (h : f_X6_takeJoin_118 F P S v0 v1 s0 s1 s2 D = some r) : yEx md_X6_takeJoin 1 118 [(0, .ref v0), (1, .int v1)] [.int s0, .int s1, .ref s2] S D (xQi S r) := by
  unfold f_X6_takeJoin_118 at h
  refine xgrd_e h (fun g1 h => ?_)
  refine xlet_e h (fun D2 eD2 h => ?_)
  refine y_zast dX6_takeJoin_118 ks2 g1 eD2 ?_
  refine x_aload_n dX6_takeJoin_119 0 rfl ?_
  refine y_getr (kd := 100) hS fl_RX6_31 dX6_takeJoin_120 rfl k0 ?_
  refine x_aload_n dX6_takeJoin_123 0 rfl ?_
  refine y_geti fl_RX6_57 dX6_takeJoin_124 rfl k0 ?_
  refine x_iload_n dX6_takeJoin_127 1 rfl ?_
  refine x_bipush 61 dX6_takeJoin_128 (by decide) ?_
  refine x_icmp_eq 139 dX6_takeJoin_130 (by decide) (fun c => ?_) (fun c => ?_)
  · rw [if_pos c] at h
    exact t_X6_takeJoin_139 hS k0 ((hS.f k0 5 100 rfl).2) h
  · rw [if_neg c] at h
    refine x_iload_n dX6_takeJoin_133 1 rfl ?_
    refine x_bipush 62 dX6_takeJoin_134 (by decide) ?_
    refine x_icmp_ne 149 dX6_takeJoin_136 (by decide) (fun c => ?_) (fun c => ?_)
    · rw [if_neg c] at h
      refine x_aload_n dX6_takeJoin_149 0 rfl ?_
      refine y_getr (kd := 100) hS fl_RX6_31 dX6_takeJoin_150 rfl k0 ?_
      refine x_aload_n dX6_takeJoin_153 0 rfl ?_
      refine y_geti fl_RX6_57 dX6_takeJoin_154 rfl k0 ?_
      refine xgrd_e h (fun g3 h => ?_)
      refine y_iald dX6_takeJoin_157 ((hS.f k0 5 100 rfl).2) g3 ?_
      exact t_X6_takeJoin_158 hS k0 ((hS.f k0 5 100 rfl).2) h
    · rw [if_pos c] at h
      exact t_X6_takeJoin_139 hS k0 ((hS.f k0 5 100 rfl).2) h

def f_X6_takeJoin_113 (F P : Nat) (S : xSt) (v0 : Nat) (v1 : Int32) (s0 : Int32) (s1 : Nat) (D : xDt) : Option (Int32 × xDt) :=
  f_X6_takeJoin_118 F P S v0 v1 1 s0 s1 D
set_option maxHeartbeats 4000000 in
theorem t_X6_takeJoin_113 {F P : Nat} {S : xSt} (hS : xWF S) {v0 : Nat} {v1 : Int32} {s0 : Int32} {s1 : Nat} {D : xDt} {r : Int32 × xDt} (k0 : xK S v0 6) (ks1 : xK S s1 104) (h : f_X6_takeJoin_113 F P S v0 v1 s0 s1 D = some r) : yEx md_X6_takeJoin 1 113 [(0, .ref v0), (1, .int v1)] [.int s0, .ref s1] S D (xQi S r) := by
  unfold f_X6_takeJoin_113 at h
  refine x_iconst 1 dX6_takeJoin_113 (by decide) ?_
  refine x_goto 118 dX6_takeJoin_114 (by decide) ?_
  exact t_X6_takeJoin_118 hS k0 ks1 h

def f_X6_takeJoin_72 (F P : Nat) (S : xSt) (v0 : Nat) (v1 : Int32) (s0 : Int32) (D : xDt) : Option (Int32 × xDt) :=
  (f_X2_insert F P S (xr S v0 2) s0 v1 D).bind fun q1 => if q1.1 = 0 then (some (0, q1.2)) else (xgrd (xin (q1.2.1 v0 9) (xl S (xr S v0 8))) (if (q1.2.1 (xr S v0 8) (q1.2.1 v0 9).toNatClampNeg) = 0 then (if v1 = 61 then (f_X6_takeJoin_113 F P S v0 v1 (q1.2.1 v0 9) (xr S v0 8) q1.2) else (f_X6_takeJoin_118 F P S v0 v1 0 (q1.2.1 v0 9) (xr S v0 8) q1.2)) else (f_X6_takeJoin_113 F P S v0 v1 (q1.2.1 v0 9) (xr S v0 8) q1.2)))
set_option maxHeartbeats 4000000 in
theorem t_X6_takeJoin_72 {F P : Nat} {S : xSt} (hS : xWF S) {v0 : Nat} {v1 : Int32} {s0 : Int32} {D : xDt} {r : Int32 × xDt} (k0 : xK S v0 6) (h : f_X6_takeJoin_72 F P S v0 v1 s0 D = some r) : yEx md_X6_takeJoin 1 72 [(0, .ref v0), (1, .int v1)] [.int s0] S D (xQi S r) := by
  unfold f_X6_takeJoin_72 at h
  refine y_istore_n s0 rfl [(2, .int s0), (0, .ref v0), (1, .int v1)] dX6_takeJoin_72 (by show _ < 3; decide) rfl ?_
  refine x_aload_n dX6_takeJoin_73 1 rfl ?_
  refine y_getr (kd := 2) hS fl_RX6_20 dX6_takeJoin_74 rfl k0 ?_
  refine x_iload_n dX6_takeJoin_77 0 rfl ?_
  refine x_iload_n dX6_takeJoin_78 2 rfl ?_
  refine xbnd_e h (fun q1 e1 h => ?_)
  refine y_callVi (As := [.int s0, .int v1]) (q := q1) cv_RX6_130 dX6_takeJoin_79 ((hS.f k0 2 2 rfl).2) rfl (Nat.le_of_ble_eq_true rfl) (by omega) (S_X2_insert hS ((hS.f k0 2 2 rfl).2) e1) ?_
  refine x_if_ne 87 dX6_takeJoin_82 (by decide) (fun c => ?_) (fun c => ?_)
  · rw [if_neg c] at h
    refine x_aload_n dX6_takeJoin_87 1 rfl ?_
    refine y_getr (kd := 104) hS fl_RX6_40 dX6_takeJoin_88 rfl k0 ?_
    refine x_aload_n dX6_takeJoin_91 1 rfl ?_
    refine y_geti fl_RX6_57 dX6_takeJoin_92 rfl k0 ?_
    refine x_aload_n dX6_takeJoin_95 1 rfl ?_
    refine y_getr (kd := 104) hS fl_RX6_40 dX6_takeJoin_96 rfl k0 ?_
    refine x_aload_n dX6_takeJoin_99 1 rfl ?_
    refine y_geti fl_RX6_57 dX6_takeJoin_100 rfl k0 ?_
    refine xgrd_e h (fun g2 h => ?_)
    refine y_zald dX6_takeJoin_103 ((hS.f k0 8 104 rfl).2) g2 ?_
    refine x_if_ne 113 dX6_takeJoin_104 (by decide) (fun c => ?_) (fun c => ?_)
    · rw [if_neg c] at h
      refine x_lv (lv' := [(0, .ref v0), (1, .int v1)]) [1, 2] rfl ?_
      exact t_X6_takeJoin_113 hS k0 ((hS.f k0 8 104 rfl).2) h
    · rw [if_pos c] at h
      refine x_iload_n dX6_takeJoin_107 2 rfl ?_
      refine x_bipush 61 dX6_takeJoin_108 (by decide) ?_
      refine x_icmp_ne 117 dX6_takeJoin_110 (by decide) (fun c => ?_) (fun c => ?_)
      · rw [if_neg c] at h
        refine x_iconst 0 dX6_takeJoin_117 (by decide) ?_
        refine x_lv (lv' := [(0, .ref v0), (1, .int v1)]) [1, 2] rfl ?_
        exact t_X6_takeJoin_118 hS k0 ((hS.f k0 8 104 rfl).2) h
      · rw [if_pos c] at h
        refine x_lv (lv' := [(0, .ref v0), (1, .int v1)]) [1, 2] rfl ?_
        exact t_X6_takeJoin_113 hS k0 ((hS.f k0 8 104 rfl).2) h
  · rw [if_pos c] at h
    refine x_iconst 0 dX6_takeJoin_85 (by decide) ?_
    obtain rfl := Option.some.inj h
    exact y_zret rfl rfl dX6_takeJoin_86

def f_X6_takeJoin_27 (F P : Nat) (S : xSt) (v0 : Nat) (v1 : Int32) (D : xDt) : Option (Int32 × xDt) :=
  if v1 = 61 then (xgrd (xin (D.1 v0 9) (xl S (xr S v0 4))) (f_X6_takeJoin_72 F P S v0 v1 (D.1 (xr S v0 4) (D.1 v0 9).toNatClampNeg) D)) else (if v1 = 38 then (xgrd (xin (D.1 v0 9) (xl S (xr S v0 6))) (f_X6_takeJoin_72 F P S v0 v1 (D.1 (xr S v0 6) (D.1 v0 9).toNatClampNeg) D)) else (xgrd (xin (D.1 v0 9) (xl S (xr S v0 5))) (f_X6_takeJoin_72 F P S v0 v1 (D.1 (xr S v0 5) (D.1 v0 9).toNatClampNeg) D)))
set_option maxHeartbeats 4000000 in
theorem t_X6_takeJoin_27 {F P : Nat} {S : xSt} (hS : xWF S) {v0 : Nat} {v1 : Int32} {D : xDt} {r : Int32 × xDt} (k0 : xK S v0 6) (h : f_X6_takeJoin_27 F P S v0 v1 D = some r) : yEx md_X6_takeJoin 1 27 [(0, .ref v0), (1, .int v1)] [] S D (xQi S r) := by
  unfold f_X6_takeJoin_27 at h
  refine x_iload_n dX6_takeJoin_27 1 rfl ?_
  refine x_bipush 61 dX6_takeJoin_28 (by decide) ?_
  refine x_icmp_ne 45 dX6_takeJoin_30 (by decide) (fun c => ?_) (fun c => ?_)
  · rw [if_neg c] at h
    refine x_iload_n dX6_takeJoin_45 1 rfl ?_
    refine x_bipush 38 dX6_takeJoin_46 (by decide) ?_
    refine x_icmp_ne 63 dX6_takeJoin_48 (by decide) (fun c => ?_) (fun c => ?_)
    · rw [if_neg c] at h
      refine x_aload_n dX6_takeJoin_63 0 rfl ?_
      refine y_getr (kd := 100) hS fl_RX6_31 dX6_takeJoin_64 rfl k0 ?_
      refine x_aload_n dX6_takeJoin_67 0 rfl ?_
      refine y_geti fl_RX6_57 dX6_takeJoin_68 rfl k0 ?_
      refine xgrd_e h (fun g1 h => ?_)
      refine y_iald dX6_takeJoin_71 ((hS.f k0 5 100 rfl).2) g1 ?_
      exact t_X6_takeJoin_72 hS k0 h
    · rw [if_pos c] at h
      refine x_aload_n dX6_takeJoin_51 0 rfl ?_
      refine y_getr (kd := 100) hS fl_RX6_34 dX6_takeJoin_52 rfl k0 ?_
      refine x_aload_n dX6_takeJoin_55 0 rfl ?_
      refine y_geti fl_RX6_57 dX6_takeJoin_56 rfl k0 ?_
      refine xgrd_e h (fun g2 h => ?_)
      refine y_iald dX6_takeJoin_59 ((hS.f k0 6 100 rfl).2) g2 ?_
      refine x_goto 72 dX6_takeJoin_60 (by decide) ?_
      exact t_X6_takeJoin_72 hS k0 h
  · rw [if_pos c] at h
    refine x_aload_n dX6_takeJoin_33 0 rfl ?_
    refine y_getr (kd := 100) hS fl_RX6_27 dX6_takeJoin_34 rfl k0 ?_
    refine x_aload_n dX6_takeJoin_37 0 rfl ?_
    refine y_geti fl_RX6_57 dX6_takeJoin_38 rfl k0 ?_
    refine xgrd_e h (fun g3 h => ?_)
    refine y_iald dX6_takeJoin_41 ((hS.f k0 4 100 rfl).2) g3 ?_
    refine x_goto 72 dX6_takeJoin_42 (by decide) ?_
    exact t_X6_takeJoin_72 hS k0 h

def f_X6_takeJoin (F P : Nat) (S : xSt) (v0 : Nat) (v1 : Int32) (D : xDt) : Option (Int32 × xDt) :=
  (f_X11_isJoin F P S v1 D).bind fun q1 => if q1.1 = 0 then (some (0, q1.2)) else (if v1 = 61 then (xgrd (xin (q1.2.1 v0 9) (xl S (xr S v0 8))) (if (q1.2.1 (xr S v0 8) (q1.2.1 v0 9).toNatClampNeg) = 0 then (f_X6_takeJoin_27 F P S v0 v1 q1.2) else (some (0, q1.2)))) else (f_X6_takeJoin_27 F P S v0 v1 q1.2))
set_option maxHeartbeats 4000000 in
theorem S_X6_takeJoin {F P : Nat} {S : xSt} (hS : xWF S) {v0 : Nat} {v1 : Int32} {D : xDt} {r : Int32 × xDt} (k0 : xK S v0 6) (h : f_X6_takeJoin F P S v0 v1 D = some r) : xSp md_X6_takeJoin (1, 0, 0) [.ref v0, .int v1] (S, D) (xQi S r) := by
  unfold f_X6_takeJoin at h
  refine xEntry (by decide) (Nat.le_of_ble_eq_true rfl) ?_
  refine x_lv (lv' := [(0, .ref v0), (1, .int v1)]) [0, 1] rfl ?_
  refine x_iload_n dX6_takeJoin_0 1 rfl ?_
  refine xbnd_e h (fun q1 e1 h => ?_)
  refine y_callNi (As := [.int v1]) (q := q1) cn_RX6_127 dX6_takeJoin_1 rfl (Nat.le_of_ble_eq_true rfl) (by omega) (S_X11_isJoin hS e1) ?_
  refine x_if_eq 25 dX6_takeJoin_4 (by decide) (fun c => ?_) (fun c => ?_)
  · rw [if_pos c] at h
    refine x_iconst 0 dX6_takeJoin_25 (by decide) ?_
    obtain rfl := Option.some.inj h
    exact y_zret rfl rfl dX6_takeJoin_26
  · rw [if_neg c] at h
    refine x_iload_n dX6_takeJoin_7 1 rfl ?_
    refine x_bipush 61 dX6_takeJoin_8 (by decide) ?_
    refine x_icmp_ne 27 dX6_takeJoin_10 (by decide) (fun c => ?_) (fun c => ?_)
    · rw [if_neg c] at h
      exact t_X6_takeJoin_27 hS k0 h
    · rw [if_pos c] at h
      refine x_aload_n dX6_takeJoin_13 0 rfl ?_
      refine y_getr (kd := 104) hS fl_RX6_40 dX6_takeJoin_14 rfl k0 ?_
      refine x_aload_n dX6_takeJoin_17 0 rfl ?_
      refine y_geti fl_RX6_57 dX6_takeJoin_18 rfl k0 ?_
      refine xgrd_e h (fun g2 h => ?_)
      refine y_zald dX6_takeJoin_21 ((hS.f k0 8 104 rfl).2) g2 ?_
      refine x_if_eq 27 dX6_takeJoin_22 (by decide) (fun c => ?_) (fun c => ?_)
      · rw [if_pos c] at h
        exact t_X6_takeJoin_27 hS k0 h
      · rw [if_neg c] at h
        refine x_iconst 0 dX6_takeJoin_25 (by decide) ?_
        obtain rfl := Option.some.inj h
        exact y_zret rfl rfl dX6_takeJoin_26

theorem dX6_takeBehindOne_0 : decode cX6_takeBehindOne 0 = .ok (.iload_n 1, 1) := by decide +kernel
theorem dX6_takeBehindOne_1 : decode cX6_takeBehindOne 1 = .ok (.aload_n 0, 1) := by decide +kernel
theorem dX6_takeBehindOne_2 : decode cX6_takeBehindOne 2 = .ok (.getfield 24, 3) := by decide +kernel
theorem dX6_takeBehindOne_5 : decode cX6_takeBehindOne 5 = .ok (.aload_n 0, 1) := by decide +kernel
theorem dX6_takeBehindOne_6 : decode cX6_takeBehindOne 6 = .ok (.getfield 57, 3) := by decide +kernel
theorem dX6_takeBehindOne_9 : decode cX6_takeBehindOne 9 = .ok (.caload, 1) := by decide +kernel
theorem dX6_takeBehindOne_10 : decode cX6_takeBehindOne 10 = .ok (.if_icmp .ne 11, 3) := by decide +kernel
theorem dX6_takeBehindOne_13 : decode cX6_takeBehindOne 13 = .ok (.aload_n 0, 1) := by decide +kernel
theorem dX6_takeBehindOne_14 : decode cX6_takeBehindOne 14 = .ok (.iload_n 1, 1) := by decide +kernel
theorem dX6_takeBehindOne_15 : decode cX6_takeBehindOne 15 = .ok (.invokevirtual 121, 3) := by decide +kernel
theorem dX6_takeBehindOne_18 : decode cX6_takeBehindOne 18 = .ok (.goto 8, 3) := by decide +kernel
theorem dX6_takeBehindOne_21 : decode cX6_takeBehindOne 21 = .ok (.aload_n 0, 1) := by decide +kernel
theorem dX6_takeBehindOne_22 : decode cX6_takeBehindOne 22 = .ok (.iload_n 1, 1) := by decide +kernel
theorem dX6_takeBehindOne_23 : decode cX6_takeBehindOne 23 = .ok (.invokevirtual 124, 3) := by decide +kernel
theorem dX6_takeBehindOne_26 : decode cX6_takeBehindOne 26 = .ok (.istore_n 2, 1) := by decide +kernel
theorem dX6_takeBehindOne_27 : decode cX6_takeBehindOne 27 = .ok (.iload_n 2, 1) := by decide +kernel
theorem dX6_takeBehindOne_28 : decode cX6_takeBehindOne 28 = .ok (.ifCond .eq 13, 3) := by decide +kernel
theorem dX6_takeBehindOne_31 : decode cX6_takeBehindOne 31 = .ok (.aload_n 0, 1) := by decide +kernel
theorem dX6_takeBehindOne_32 : decode cX6_takeBehindOne 32 = .ok (.aload_n 0, 1) := by decide +kernel
theorem dX6_takeBehindOne_33 : decode cX6_takeBehindOne 33 = .ok (.getfield 71, 3) := by decide +kernel
theorem dX6_takeBehindOne_36 : decode cX6_takeBehindOne 36 = .ok (.iconst 1, 1) := by decide +kernel
theorem dX6_takeBehindOne_37 : decode cX6_takeBehindOne 37 = .ok (.iadd, 1) := by decide +kernel
theorem dX6_takeBehindOne_38 : decode cX6_takeBehindOne 38 = .ok (.invokevirtual 64, 3) := by decide +kernel
theorem dX6_takeBehindOne_41 : decode cX6_takeBehindOne 41 = .ok (.iload_n 2, 1) := by decide +kernel
theorem dX6_takeBehindOne_42 : decode cX6_takeBehindOne 42 = .ok (.ireturn, 1) := by decide +kernel
def f_X6_takeBehindOne_26 (F P : Nat) (S : xSt) (v0 : Nat) (s0 : Int32) (D : xDt) : Option (Int32 × xDt) :=
  if s0 = 0 then (xgrd (xb s0) (some (s0, D))) else ((f_X6_toSign F P S v0 ((D.1 v0 12) + 1) D).bind fun q2 => xgrd (xb s0) (some (s0, q2)))
set_option maxHeartbeats 4000000 in
theorem t_X6_takeBehindOne_26 {F P : Nat} {S : xSt} (hS : xWF S) {v0 : Nat} {s0 : Int32} {D : xDt} {r : Int32 × xDt} (k0 : xK S v0 6) (h : f_X6_takeBehindOne_26 F P S v0 s0 D = some r) : yEx md_X6_takeBehindOne 2 26 [(0, .ref v0)] [.int s0] S D (xQi S r) := by
  unfold f_X6_takeBehindOne_26 at h
  refine y_istore_n s0 rfl [(2, .int s0), (0, .ref v0)] dX6_takeBehindOne_26 (by show _ < 3; decide) rfl ?_
  refine x_iload_n dX6_takeBehindOne_27 0 rfl ?_
  refine x_if_eq 41 dX6_takeBehindOne_28 (by decide) (fun c => ?_) (fun c => ?_)
  · rw [if_pos c] at h
    refine x_iload_n dX6_takeBehindOne_41 0 rfl ?_
    refine xgrd_e h (fun g1 h => ?_)
    obtain rfl := Option.some.inj h
    exact y_zret rfl g1 dX6_takeBehindOne_42
  · rw [if_neg c] at h
    refine x_aload_n dX6_takeBehindOne_31 1 rfl ?_
    refine x_aload_n dX6_takeBehindOne_32 1 rfl ?_
    refine y_geti fl_RX6_71 dX6_takeBehindOne_33 rfl k0 ?_
    refine x_iconst 1 dX6_takeBehindOne_36 (by decide) ?_
    refine x_iadd dX6_takeBehindOne_37 ?_
    refine xbnd_e h (fun q2 e2 h => ?_)
    refine y_callVv (As := [.int ((D.1 v0 12) + 1)]) (q := q2) cv_RX6_64 dX6_takeBehindOne_38 k0 rfl (Nat.le_of_ble_eq_true rfl) (by omega) (S_X6_toSign hS k0 e2) ?_
    refine x_iload_n dX6_takeBehindOne_41 0 rfl ?_
    refine xgrd_e h (fun g3 h => ?_)
    obtain rfl := Option.some.inj h
    exact y_zret rfl g3 dX6_takeBehindOne_42

def f_X6_takeBehindOne (F P : Nat) (S : xSt) (v0 : Nat) (v1 : Int32) (D : xDt) : Option (Int32 × xDt) :=
  xgrd (xin (D.1 v0 9) (xl S (xr S v0 3))) (if v1 = (D.1 (xr S v0 3) (D.1 v0 9).toNatClampNeg) then ((f_X6_leave F P S v0 v1 D).bind fun q3 => f_X6_takeBehindOne_26 F P S v0 q3.1 q3.2) else ((f_X6_takeJoin F P S v0 v1 D).bind fun q2 => f_X6_takeBehindOne_26 F P S v0 q2.1 q2.2))
set_option maxHeartbeats 4000000 in
theorem S_X6_takeBehindOne {F P : Nat} {S : xSt} (hS : xWF S) {v0 : Nat} {v1 : Int32} {D : xDt} {r : Int32 × xDt} (k0 : xK S v0 6) (h : f_X6_takeBehindOne F P S v0 v1 D = some r) : xSp md_X6_takeBehindOne (2, 0, 0) [.ref v0, .int v1] (S, D) (xQi S r) := by
  unfold f_X6_takeBehindOne at h
  refine xEntry (by decide) (Nat.le_of_ble_eq_true rfl) ?_
  refine x_lv (lv' := [(0, .ref v0), (1, .int v1)]) [0, 1] rfl ?_
  refine x_iload_n dX6_takeBehindOne_0 1 rfl ?_
  refine x_aload_n dX6_takeBehindOne_1 0 rfl ?_
  refine y_getr (kd := 102) hS fl_RX6_24 dX6_takeBehindOne_2 rfl k0 ?_
  refine x_aload_n dX6_takeBehindOne_5 0 rfl ?_
  refine y_geti fl_RX6_57 dX6_takeBehindOne_6 rfl k0 ?_
  refine xgrd_e h (fun g1 h => ?_)
  refine y_cald dX6_takeBehindOne_9 ((hS.f k0 3 102 rfl).2) g1 ?_
  refine x_icmp_ne 21 dX6_takeBehindOne_10 (by decide) (fun c => ?_) (fun c => ?_)
  · rw [if_neg c] at h
    refine x_aload_n dX6_takeBehindOne_21 0 rfl ?_
    refine x_iload_n dX6_takeBehindOne_22 1 rfl ?_
    refine xbnd_e h (fun q2 e2 h => ?_)
    refine y_callVi (As := [.int v1]) (q := q2) cv_RX6_124 dX6_takeBehindOne_23 k0 rfl (Nat.le_of_ble_eq_true rfl) (by omega) (S_X6_takeJoin hS k0 e2) ?_
    refine x_lv (lv' := [(0, .ref v0)]) [0] rfl ?_
    exact t_X6_takeBehindOne_26 hS k0 h
  · rw [if_pos c] at h
    refine x_aload_n dX6_takeBehindOne_13 0 rfl ?_
    refine x_iload_n dX6_takeBehindOne_14 1 rfl ?_
    refine xbnd_e h (fun q3 e3 h => ?_)
    refine y_callVi (As := [.int v1]) (q := q3) cv_RX6_121 dX6_takeBehindOne_15 k0 rfl (Nat.le_of_ble_eq_true rfl) (by omega) (S_X6_leave hS k0 e3) ?_
    refine x_goto 26 dX6_takeBehindOne_18 (by decide) ?_
    refine x_lv (lv' := [(0, .ref v0)]) [0] rfl ?_
    exact t_X6_takeBehindOne_26 hS k0 h

theorem dX6_takeAll_0 : decode cX6_takeAll 0 = .ok (.iconst 0, 1) := by decide +kernel
theorem dX6_takeAll_1 : decode cX6_takeAll 1 = .ok (.istore_n 1, 1) := by decide +kernel
theorem dX6_takeAll_2 : decode cX6_takeAll 2 = .ok (.iload_n 1, 1) := by decide +kernel
theorem dX6_takeAll_3 : decode cX6_takeAll 3 = .ok (.sipush 200, 3) := by decide +kernel
theorem dX6_takeAll_6 : decode cX6_takeAll 6 = .ok (.if_icmp .ge 57, 3) := by decide +kernel
theorem dX6_takeAll_9 : decode cX6_takeAll 9 = .ok (.aload_n 0, 1) := by decide +kernel
theorem dX6_takeAll_10 : decode cX6_takeAll 10 = .ok (.getfield 71, 3) := by decide +kernel
theorem dX6_takeAll_13 : decode cX6_takeAll 13 = .ok (.aload_n 0, 1) := by decide +kernel
theorem dX6_takeAll_14 : decode cX6_takeAll 14 = .ok (.getfield 48, 3) := by decide +kernel
theorem dX6_takeAll_17 : decode cX6_takeAll 17 = .ok (.if_icmp .ge 46, 3) := by decide +kernel
theorem dX6_takeAll_20 : decode cX6_takeAll 20 = .ok (.aload_n 0, 1) := by decide +kernel
theorem dX6_takeAll_21 : decode cX6_takeAll 21 = .ok (.getfield 9, 3) := by decide +kernel
theorem dX6_takeAll_24 : decode cX6_takeAll 24 = .ok (.aload_n 0, 1) := by decide +kernel
theorem dX6_takeAll_25 : decode cX6_takeAll 25 = .ok (.getfield 71, 3) := by decide +kernel
theorem dX6_takeAll_28 : decode cX6_takeAll 28 = .ok (.caload, 1) := by decide +kernel
theorem dX6_takeAll_29 : decode cX6_takeAll 29 = .ok (.istore_n 2, 1) := by decide +kernel
theorem dX6_takeAll_30 : decode cX6_takeAll 30 = .ok (.aload_n 0, 1) := by decide +kernel
theorem dX6_takeAll_31 : decode cX6_takeAll 31 = .ok (.getfield 78, 3) := by decide +kernel
theorem dX6_takeAll_34 : decode cX6_takeAll 34 = .ok (.ifCond .eq 11, 3) := by decide +kernel
theorem dX6_takeAll_37 : decode cX6_takeAll 37 = .ok (.aload_n 0, 1) := by decide +kernel
theorem dX6_takeAll_38 : decode cX6_takeAll 38 = .ok (.iload_n 2, 1) := by decide +kernel
theorem dX6_takeAll_39 : decode cX6_takeAll 39 = .ok (.invokevirtual 82, 3) := by decide +kernel
theorem dX6_takeAll_42 : decode cX6_takeAll 42 = .ok (.goto 8, 3) := by decide +kernel
theorem dX6_takeAll_45 : decode cX6_takeAll 45 = .ok (.aload_n 0, 1) := by decide +kernel
theorem dX6_takeAll_46 : decode cX6_takeAll 46 = .ok (.iload_n 2, 1) := by decide +kernel
theorem dX6_takeAll_47 : decode cX6_takeAll 47 = .ok (.invokevirtual 86, 3) := by decide +kernel
theorem dX6_takeAll_50 : decode cX6_takeAll 50 = .ok (.istore_n 3, 1) := by decide +kernel
theorem dX6_takeAll_51 : decode cX6_takeAll 51 = .ok (.iload_n 3, 1) := by decide +kernel
theorem dX6_takeAll_52 : decode cX6_takeAll 52 = .ok (.ifCond .ne 5, 3) := by decide +kernel
theorem dX6_takeAll_55 : decode cX6_takeAll 55 = .ok (.iconst 0, 1) := by decide +kernel
theorem dX6_takeAll_56 : decode cX6_takeAll 56 = .ok (.ireturn, 1) := by decide +kernel
theorem dX6_takeAll_57 : decode cX6_takeAll 57 = .ok (.iinc 1 1, 3) := by decide +kernel
theorem dX6_takeAll_60 : decode cX6_takeAll 60 = .ok (.goto (-58), 3) := by decide +kernel
theorem dX6_takeAll_63 : decode cX6_takeAll 63 = .ok (.aload_n 0, 1) := by decide +kernel
theorem dX6_takeAll_64 : decode cX6_takeAll 64 = .ok (.getfield 71, 3) := by decide +kernel
theorem dX6_takeAll_67 : decode cX6_takeAll 67 = .ok (.aload_n 0, 1) := by decide +kernel
theorem dX6_takeAll_68 : decode cX6_takeAll 68 = .ok (.getfield 48, 3) := by decide +kernel
theorem dX6_takeAll_71 : decode cX6_takeAll 71 = .ok (.if_icmp .lt 21, 3) := by decide +kernel
theorem dX6_takeAll_74 : decode cX6_takeAll 74 = .ok (.aload_n 0, 1) := by decide +kernel
theorem dX6_takeAll_75 : decode cX6_takeAll 75 = .ok (.getfield 57, 3) := by decide +kernel
theorem dX6_takeAll_78 : decode cX6_takeAll 78 = .ok (.ifCond .ne 14, 3) := by decide +kernel
theorem dX6_takeAll_81 : decode cX6_takeAll 81 = .ok (.aload_n 0, 1) := by decide +kernel
theorem dX6_takeAll_82 : decode cX6_takeAll 82 = .ok (.getfield 78, 3) := by decide +kernel
theorem dX6_takeAll_85 : decode cX6_takeAll 85 = .ok (.ifCond .ne 7, 3) := by decide +kernel
theorem dX6_takeAll_88 : decode cX6_takeAll 88 = .ok (.iconst 1, 1) := by decide +kernel
theorem dX6_takeAll_89 : decode cX6_takeAll 89 = .ok (.goto 4, 3) := by decide +kernel
theorem dX6_takeAll_92 : decode cX6_takeAll 92 = .ok (.iconst 0, 1) := by decide +kernel
theorem dX6_takeAll_93 : decode cX6_takeAll 93 = .ok (.ireturn, 1) := by decide +kernel
def f_X6_takeAll_50 (F P : Nat) (S : xSt) (rec_2 : Nat → Int32 → xDt → Option (Int32 × xDt)) (v0 : Nat) (v1 : Int32) (s0 : Int32) (D : xDt) : Option (Int32 × xDt) :=
  if s0 = 0 then (some (0, D)) else (xlet (v1 + 1) fun v1_1 => rec_2 v0 v1_1 D)
set_option maxHeartbeats 4000000 in
theorem t_X6_takeAll_50 {F P : Nat} {S : xSt} (hS : xWF S) {rec_2 : Nat → Int32 → xDt → Option (Int32 × xDt)} (hrec_2 : ∀ {v0 : Nat} {v1 : Int32} {D : xDt} {r : Int32 × xDt}, xK S v0 6 → rec_2 v0 v1 D = some r → yEx md_X6_takeAll 4 2 [(0, .ref v0), (1, .int v1)] [] S D (xQi S r)) {v0 : Nat} {v1 : Int32} {s0 : Int32} {D : xDt} {r : Int32 × xDt} (k0 : xK S v0 6) (h : f_X6_takeAll_50 F P S rec_2 v0 v1 s0 D = some r) : yEx md_X6_takeAll 4 50 [(0, .ref v0), (1, .int v1)] [.int s0] S D (xQi S r) := by
  unfold f_X6_takeAll_50 at h
  refine y_istore_n s0 rfl [(3, .int s0), (0, .ref v0), (1, .int v1)] dX6_takeAll_50 (by show _ < 4; decide) rfl ?_
  refine x_iload_n dX6_takeAll_51 0 rfl ?_
  refine x_if_ne 57 dX6_takeAll_52 (by decide) (fun c => ?_) (fun c => ?_)
  · rw [if_neg c] at h
    refine xlet_e h (fun v1_1 ev1_1 h => ?_)
    refine y_iinc v1_1 ev1_1 (by decide) [(1, .int v1_1), (3, .int s0), (0, .ref v0)] dX6_takeAll_57 2 rfl (by show _ < 4; decide) rfl ?_
    refine x_goto 2 dX6_takeAll_60 (by decide) ?_
    refine x_lv (lv' := [(0, .ref v0), (1, .int v1_1)]) [2, 0] rfl ?_
    exact hrec_2 k0 h
  · rw [if_pos c] at h
    refine x_iconst 0 dX6_takeAll_55 (by decide) ?_
    obtain rfl := Option.some.inj h
    exact y_zret rfl rfl dX6_takeAll_56

def f_X6_takeAll_92 (F P : Nat) (S : xSt) (D : xDt) : Option (Int32 × xDt) :=
  some (0, D)
set_option maxHeartbeats 4000000 in
theorem t_X6_takeAll_92 {F P : Nat} {S : xSt} (hS : xWF S) {D : xDt} {r : Int32 × xDt} (h : f_X6_takeAll_92 F P S D = some r) : yEx md_X6_takeAll 4 92 [] [] S D (xQi S r) := by
  unfold f_X6_takeAll_92 at h
  refine x_iconst 0 dX6_takeAll_92 (by decide) ?_
  obtain rfl := Option.some.inj h
  exact y_zret rfl rfl dX6_takeAll_93

def f_X6_takeAll_63 (F P : Nat) (S : xSt) (v0 : Nat) (D : xDt) : Option (Int32 × xDt) :=
  if (D.1 v0 12) < (D.1 v0 1) then (f_X6_takeAll_92 F P S D) else (if (D.1 v0 9) = 0 then (if (D.1 v0 11) = 0 then (some (1, D)) else (f_X6_takeAll_92 F P S D)) else (f_X6_takeAll_92 F P S D))
set_option maxHeartbeats 4000000 in
theorem t_X6_takeAll_63 {F P : Nat} {S : xSt} (hS : xWF S) {v0 : Nat} {D : xDt} {r : Int32 × xDt} (k0 : xK S v0 6) (h : f_X6_takeAll_63 F P S v0 D = some r) : yEx md_X6_takeAll 4 63 [(0, .ref v0)] [] S D (xQi S r) := by
  unfold f_X6_takeAll_63 at h
  refine x_aload_n dX6_takeAll_63 0 rfl ?_
  refine y_geti fl_RX6_71 dX6_takeAll_64 rfl k0 ?_
  refine x_aload_n dX6_takeAll_67 0 rfl ?_
  refine y_geti fl_RX6_48 dX6_takeAll_68 rfl k0 ?_
  refine x_icmp_lt 92 dX6_takeAll_71 (by decide) (fun c => ?_) (fun c => ?_)
  · rw [if_pos c] at h
    refine x_lv (lv' := []) [] rfl ?_
    exact t_X6_takeAll_92 hS h
  · rw [if_neg c] at h
    refine x_aload_n dX6_takeAll_74 0 rfl ?_
    refine y_geti fl_RX6_57 dX6_takeAll_75 rfl k0 ?_
    refine x_if_ne 92 dX6_takeAll_78 (by decide) (fun c => ?_) (fun c => ?_)
    · rw [if_neg c] at h
      refine x_lv (lv' := []) [] rfl ?_
      exact t_X6_takeAll_92 hS h
    · rw [if_pos c] at h
      refine x_aload_n dX6_takeAll_81 0 rfl ?_
      refine y_geti fl_RX6_78 dX6_takeAll_82 rfl k0 ?_
      refine x_if_ne 92 dX6_takeAll_85 (by decide) (fun c => ?_) (fun c => ?_)
      · rw [if_neg c] at h
        refine x_lv (lv' := []) [] rfl ?_
        exact t_X6_takeAll_92 hS h
      · rw [if_pos c] at h
        refine x_iconst 1 dX6_takeAll_88 (by decide) ?_
        refine x_goto 93 dX6_takeAll_89 (by decide) ?_
        obtain rfl := Option.some.inj h
        exact y_zret rfl rfl dX6_takeAll_93

def f_X6_takeAll_2s (F P : Nat) (S : xSt) (rec_2 : Nat → Int32 → xDt → Option (Int32 × xDt)) (v0 : Nat) (v1 : Int32) (D : xDt) : Option (Int32 × xDt) :=
  if 200 ≤ v1 then (f_X6_takeAll_63 F P S v0 D) else (if (D.1 v0 1) ≤ (D.1 v0 12) then (f_X6_takeAll_63 F P S v0 D) else (xgrd (xin (D.1 v0 12) (xl S (xr S v0 0))) (xlet (D.1 (xr S v0 0) (D.1 v0 12).toNatClampNeg) fun v2_2 => if (D.1 v0 11) = 0 then ((f_X6_takeBehindOne F P S v0 v2_2 D).bind fun q3 => f_X6_takeAll_50 F P S rec_2 v0 v1 q3.1 q3.2) else ((f_X6_takeOne F P S v0 v2_2 D).bind fun q4 => f_X6_takeAll_50 F P S rec_2 v0 v1 q4.1 q4.2))))
def f_X6_takeAll_2 (F P : Nat) (S : xSt) : Nat → Nat → Int32 → xDt → Option (Int32 × xDt)
  | 0 => fun _ _ _ => none
  | n + 1 => f_X6_takeAll_2s F P S (f_X6_takeAll_2 F P S n)
set_option maxHeartbeats 4000000 in
theorem t_X6_takeAll_2s {F P : Nat} {S : xSt} (hS : xWF S) {rec_2 : Nat → Int32 → xDt → Option (Int32 × xDt)} (hrec_2 : ∀ {v0 : Nat} {v1 : Int32} {D : xDt} {r : Int32 × xDt}, xK S v0 6 → rec_2 v0 v1 D = some r → yEx md_X6_takeAll 4 2 [(0, .ref v0), (1, .int v1)] [] S D (xQi S r)) {v0 : Nat} {v1 : Int32} {D : xDt} {r : Int32 × xDt} (k0 : xK S v0 6) (h : f_X6_takeAll_2s F P S rec_2 v0 v1 D = some r) : yEx md_X6_takeAll 4 2 [(0, .ref v0), (1, .int v1)] [] S D (xQi S r) := by
  unfold f_X6_takeAll_2s at h
  refine x_iload_n dX6_takeAll_2 1 rfl ?_
  refine x_sipush 200 dX6_takeAll_3 (by decide) ?_
  refine x_icmp_ge 63 dX6_takeAll_6 (by decide) (fun c => ?_) (fun c => ?_)
  · rw [if_pos c] at h
    refine x_lv (lv' := [(0, .ref v0)]) [0] rfl ?_
    exact t_X6_takeAll_63 hS k0 h
  · rw [if_neg c] at h
    refine x_aload_n dX6_takeAll_9 0 rfl ?_
    refine y_geti fl_RX6_71 dX6_takeAll_10 rfl k0 ?_
    refine x_aload_n dX6_takeAll_13 0 rfl ?_
    refine y_geti fl_RX6_48 dX6_takeAll_14 rfl k0 ?_
    refine x_icmp_ge 63 dX6_takeAll_17 (by decide) (fun c => ?_) (fun c => ?_)
    · rw [if_pos c] at h
      refine x_lv (lv' := [(0, .ref v0)]) [0] rfl ?_
      exact t_X6_takeAll_63 hS k0 h
    · rw [if_neg c] at h
      refine x_aload_n dX6_takeAll_20 0 rfl ?_
      refine y_getr (kd := 102) hS fl_RX6_9 dX6_takeAll_21 rfl k0 ?_
      refine x_aload_n dX6_takeAll_24 0 rfl ?_
      refine y_geti fl_RX6_71 dX6_takeAll_25 rfl k0 ?_
      refine xgrd_e h (fun g1 h => ?_)
      refine y_cald dX6_takeAll_28 ((hS.f k0 0 102 rfl).2) g1 ?_
      refine xlet_e h (fun v2_2 ev2_2 h => ?_)
      refine y_istore_n v2_2 ev2_2 [(2, .int v2_2), (0, .ref v0), (1, .int v1)] dX6_takeAll_29 (by show _ < 4; decide) rfl ?_
      refine x_aload_n dX6_takeAll_30 1 rfl ?_
      refine y_geti fl_RX6_78 dX6_takeAll_31 rfl k0 ?_
      refine x_if_eq 45 dX6_takeAll_34 (by decide) (fun c => ?_) (fun c => ?_)
      · rw [if_pos c] at h
        refine x_aload_n dX6_takeAll_45 1 rfl ?_
        refine x_iload_n dX6_takeAll_46 0 rfl ?_
        refine xbnd_e h (fun q3 e3 h => ?_)
        refine y_callVi (As := [.int v2_2]) (q := q3) cv_RX6_86 dX6_takeAll_47 k0 rfl (Nat.le_of_ble_eq_true rfl) (by omega) (S_X6_takeBehindOne hS k0 e3) ?_
        refine x_lv (lv' := [(0, .ref v0), (1, .int v1)]) [1, 2] rfl ?_
        exact t_X6_takeAll_50 hS hrec_2 k0 h
      · rw [if_neg c] at h
        refine x_aload_n dX6_takeAll_37 1 rfl ?_
        refine x_iload_n dX6_takeAll_38 0 rfl ?_
        refine xbnd_e h (fun q4 e4 h => ?_)
        refine y_callVi (As := [.int v2_2]) (q := q4) cv_RX6_82 dX6_takeAll_39 k0 rfl (Nat.le_of_ble_eq_true rfl) (by omega) (S_X6_takeOne hS k0 e4) ?_
        refine x_goto 50 dX6_takeAll_42 (by decide) ?_
        refine x_lv (lv' := [(0, .ref v0), (1, .int v1)]) [1, 2] rfl ?_
        exact t_X6_takeAll_50 hS hrec_2 k0 h
theorem t_X6_takeAll_2 {F P : Nat} {S : xSt} (hS : xWF S) : ∀ (n : Nat) {v0 : Nat} {v1 : Int32} {D : xDt} {r : Int32 × xDt}, xK S v0 6 → f_X6_takeAll_2 F P S n v0 v1 D = some r → yEx md_X6_takeAll 4 2 [(0, .ref v0), (1, .int v1)] [] S D (xQi S r) := by
  intro n
  induction n with
  | zero => intros; rename_i h; cases h
  | succ n ih =>
    intro v0 v1 D r k0 h
    exact t_X6_takeAll_2s hS (fun k0 h => ih k0 h) k0 h

def f_X6_takeAll (F P : Nat) (S : xSt) (v0 : Nat) (D : xDt) : Option (Int32 × xDt) :=
  f_X6_takeAll_2 F P S F v0 0 D
set_option maxHeartbeats 4000000 in
theorem S_X6_takeAll {F P : Nat} {S : xSt} (hS : xWF S) {v0 : Nat} {D : xDt} {r : Int32 × xDt} (k0 : xK S v0 6) (h : f_X6_takeAll F P S v0 D = some r) : xSp md_X6_takeAll (4, 0, 0) [.ref v0] (S, D) (xQi S r) := by
  unfold f_X6_takeAll at h
  refine xEntry (by decide) (Nat.le_of_ble_eq_true rfl) ?_
  refine x_lv (lv' := [(0, .ref v0)]) [0] rfl ?_
  refine x_iconst 0 dX6_takeAll_0 (by decide) ?_
  refine y_istore_n 0 rfl [(1, .int 0), (0, .ref v0)] dX6_takeAll_1 (by show _ < 4; decide) rfl ?_
  refine x_lv (lv' := [(0, .ref v0), (1, .int 0)]) [1, 0] rfl ?_
  exact t_X6_takeAll_2 hS F k0 h

theorem dX6_read_0 : decode cX6_read 0 = .ok (.aload_n 0, 1) := by decide +kernel
theorem dX6_read_1 : decode cX6_read 1 = .ok (.getfield 20, 3) := by decide +kernel
theorem dX6_read_4 : decode cX6_read 4 = .ok (.iconst 0, 1) := by decide +kernel
theorem dX6_read_5 : decode cX6_read 5 = .ok (.putfield 56, 3) := by decide +kernel
theorem dX6_read_8 : decode cX6_read 8 = .ok (.aload_n 0, 1) := by decide +kernel
theorem dX6_read_9 : decode cX6_read 9 = .ok (.iconst (-1), 1) := by decide +kernel
theorem dX6_read_10 : decode cX6_read 10 = .ok (.putfield 57, 3) := by decide +kernel
theorem dX6_read_13 : decode cX6_read 13 = .ok (.aload_n 0, 1) := by decide +kernel
theorem dX6_read_14 : decode cX6_read 14 = .ok (.iconst 0, 1) := by decide +kernel
theorem dX6_read_15 : decode cX6_read 15 = .ok (.invokevirtual 60, 3) := by decide +kernel
theorem dX6_read_18 : decode cX6_read 18 = .ok (.aload_n 0, 1) := by decide +kernel
theorem dX6_read_19 : decode cX6_read 19 = .ok (.iconst 0, 1) := by decide +kernel
theorem dX6_read_20 : decode cX6_read 20 = .ok (.invokevirtual 64, 3) := by decide +kernel
theorem dX6_read_23 : decode cX6_read 23 = .ok (.aload_n 0, 1) := by decide +kernel
theorem dX6_read_24 : decode cX6_read 24 = .ok (.invokevirtual 67, 3) := by decide +kernel
theorem dX6_read_27 : decode cX6_read 27 = .ok (.istore_n 2, 1) := by decide +kernel
theorem dX6_read_28 : decode cX6_read 28 = .ok (.aload_n 0, 1) := by decide +kernel
theorem dX6_read_29 : decode cX6_read 29 = .ok (.iconst 0, 1) := by decide +kernel
theorem dX6_read_30 : decode cX6_read 30 = .ok (.putfield 48, 3) := by decide +kernel
theorem dX6_read_33 : decode cX6_read 33 = .ok (.iload_n 2, 1) := by decide +kernel
theorem dX6_read_34 : decode cX6_read 34 = .ok (.ifCond .ne 11, 3) := by decide +kernel
theorem dX6_read_37 : decode cX6_read 37 = .ok (.bipush (-10), 2) := by decide +kernel
theorem dX6_read_39 : decode cX6_read 39 = .ok (.aload_n 0, 1) := by decide +kernel
theorem dX6_read_40 : decode cX6_read 40 = .ok (.getfield 71, 3) := by decide +kernel
theorem dX6_read_43 : decode cX6_read 43 = .ok (.isub, 1) := by decide +kernel
theorem dX6_read_44 : decode cX6_read 44 = .ok (.ireturn, 1) := by decide +kernel
theorem dX6_read_45 : decode cX6_read 45 = .ok (.aload_n 1, 1) := by decide +kernel
theorem dX6_read_46 : decode cX6_read 46 = .ok (.aload_n 0, 1) := by decide +kernel
theorem dX6_read_47 : decode cX6_read 47 = .ok (.getfield 20, 3) := by decide +kernel
theorem dX6_read_50 : decode cX6_read 50 = .ok (.invokevirtual 74, 3) := by decide +kernel
theorem dX6_read_53 : decode cX6_read 53 = .ok (.aload_n 1, 1) := by decide +kernel
theorem dX6_read_54 : decode cX6_read 54 = .ok (.getfield 56, 3) := by decide +kernel
theorem dX6_read_57 : decode cX6_read 57 = .ok (.ireturn, 1) := by decide +kernel
def f_X6_read (F P : Nat) (S : xSt) (v0 : Nat) (v1 : Nat) (D : xDt) : Option (Int32 × xDt) :=
  xlet (xup D.1 (xr S v0 2) 1 0, D.2) fun D1 => xlet (xup D1.1 v0 9 (-1), D1.2) fun D2 => (f_X6_enter F P S v0 0 D2).bind fun q3 => (f_X6_toSign F P S v0 0 q3).bind fun q4 => (f_X6_takeAll F P S v0 q4).bind fun q5 => xlet (xup q5.2.1 v0 1 0, q5.2.2) fun D6 => if q5.1 = 0 then (some ((-10) - (D6.1 v0 12), D6)) else ((f_X2_copy F P S v1 (xr S v0 2) D6).bind fun q7 => some (q7.1 v1 1, q7))
set_option maxHeartbeats 4000000 in
theorem S_X6_read {F P : Nat} {S : xSt} (hS : xWF S) {v0 : Nat} {v1 : Nat} {D : xDt} {r : Int32 × xDt} (k0 : xK S v0 6) (k1 : xK S v1 2) (h : f_X6_read F P S v0 v1 D = some r) : xSp md_X6_read (5, 0, 0) [.ref v0, .ref v1] (S, D) (xQi S r) := by
  unfold f_X6_read at h
  refine xEntry (by decide) (Nat.le_of_ble_eq_true rfl) ?_
  refine x_lv (lv' := [(0, .ref v0), (1, .ref v1)]) [0, 1] rfl ?_
  refine x_aload_n dX6_read_0 0 rfl ?_
  refine y_getr (kd := 2) hS fl_RX6_20 dX6_read_1 rfl k0 ?_
  refine x_iconst 0 dX6_read_4 (by decide) ?_
  refine xlet_e h (fun D1 eD1 h => ?_)
  refine y_puti fp_RX6_56 dX6_read_5 rfl ((hS.f k0 2 2 rfl).2) eD1 ?_
  refine x_aload_n dX6_read_8 0 rfl ?_
  refine x_iconst (-1) dX6_read_9 (by decide) ?_
  refine xlet_e h (fun D2 eD2 h => ?_)
  refine y_puti fp_RX6_57 dX6_read_10 rfl k0 eD2 ?_
  refine x_aload_n dX6_read_13 0 rfl ?_
  refine x_iconst 0 dX6_read_14 (by decide) ?_
  refine xbnd_e h (fun q3 e3 h => ?_)
  refine y_callVv (As := [.int 0]) (q := q3) cv_RX6_60 dX6_read_15 k0 rfl (Nat.le_of_ble_eq_true rfl) (by omega) (S_X6_enter hS k0 e3) ?_
  refine x_aload_n dX6_read_18 0 rfl ?_
  refine x_iconst 0 dX6_read_19 (by decide) ?_
  refine xbnd_e h (fun q4 e4 h => ?_)
  refine y_callVv (As := [.int 0]) (q := q4) cv_RX6_64 dX6_read_20 k0 rfl (Nat.le_of_ble_eq_true rfl) (by omega) (S_X6_toSign hS k0 e4) ?_
  refine x_aload_n dX6_read_23 0 rfl ?_
  refine xbnd_e h (fun q5 e5 h => ?_)
  refine y_callVi (As := []) (q := q5) cv_RX6_67 dX6_read_24 k0 rfl (Nat.le_of_ble_eq_true rfl) (by omega) (S_X6_takeAll hS k0 e5) ?_
  refine y_istore_n q5.1 rfl [(2, .int q5.1), (0, .ref v0), (1, .ref v1)] dX6_read_27 (by show _ < 3; decide) rfl ?_
  refine x_aload_n dX6_read_28 1 rfl ?_
  refine x_iconst 0 dX6_read_29 (by decide) ?_
  refine xlet_e h (fun D6 eD6 h => ?_)
  refine y_puti fp_RX6_48 dX6_read_30 rfl k0 eD6 ?_
  refine x_iload_n dX6_read_33 0 rfl ?_
  refine x_if_ne 45 dX6_read_34 (by decide) (fun c => ?_) (fun c => ?_)
  · rw [if_neg c] at h
    refine x_aload_n dX6_read_45 2 rfl ?_
    refine x_aload_n dX6_read_46 1 rfl ?_
    refine y_getr (kd := 2) hS fl_RX6_20 dX6_read_47 rfl k0 ?_
    refine xbnd_e h (fun q7 e7 h => ?_)
    refine y_callVv (As := [.ref (xr S v0 2)]) (q := q7) cv_RX6_74 dX6_read_50 k1 rfl (Nat.le_of_ble_eq_true rfl) (by omega) (S_X2_copy hS k1 ((hS.f k0 2 2 rfl).2) e7) ?_
    refine x_aload_n dX6_read_53 2 rfl ?_
    refine y_geti fl_RX6_56 dX6_read_54 rfl k1 ?_
    obtain rfl := Option.some.inj h
    exact y_iret rfl dX6_read_57
  · rw [if_pos c] at h
    refine x_bipush (-10) dX6_read_37 (by decide) ?_
    refine x_aload_n dX6_read_39 1 rfl ?_
    refine y_geti fl_RX6_71 dX6_read_40 rfl k0 ?_
    refine x_isub dX6_read_43 ?_
    obtain rfl := Option.some.inj h
    exact y_iret rfl dX6_read_44

theorem dX7_push_0 : decode cX7_push 0 = .ok (.iload_n 1, 1) := by decide +kernel
theorem dX7_push_1 : decode cX7_push 1 = .ok (.invokestatic 56, 3) := by decide +kernel
theorem dX7_push_4 : decode cX7_push 4 = .ok (.istore_n 3, 1) := by decide +kernel
theorem dX7_push_5 : decode cX7_push 5 = .ok (.iload_n 3, 1) := by decide +kernel
theorem dX7_push_6 : decode cX7_push 6 = .ok (.invokestatic 69, 3) := by decide +kernel
theorem dX7_push_9 : decode cX7_push 9 = .ok (.ifCond .eq 12, 3) := by decide +kernel
theorem dX7_push_12 : decode cX7_push 12 = .ok (.aload_n 0, 1) := by decide +kernel
theorem dX7_push_13 : decode cX7_push 13 = .ok (.getfield 23, 3) := by decide +kernel
theorem dX7_push_16 : decode cX7_push 16 = .ok (.iload_n 1, 1) := by decide +kernel
theorem dX7_push_17 : decode cX7_push 17 = .ok (.invokevirtual 72, 3) := by decide +kernel
theorem dX7_push_20 : decode cX7_push 20 = .ok (.ireturn, 1) := by decide +kernel
theorem dX7_push_21 : decode cX7_push 21 = .ok (.aload_n 0, 1) := by decide +kernel
theorem dX7_push_22 : decode cX7_push 22 = .ok (.getfield 23, 3) := by decide +kernel
theorem dX7_push_25 : decode cX7_push 25 = .ok (.bipush 62, 2) := by decide +kernel
theorem dX7_push_27 : decode cX7_push 27 = .ok (.invokevirtual 72, 3) := by decide +kernel
theorem dX7_push_30 : decode cX7_push 30 = .ok (.ifCond .eq 37, 3) := by decide +kernel
theorem dX7_push_33 : decode cX7_push 33 = .ok (.aload_n 0, 1) := by decide +kernel
theorem dX7_push_34 : decode cX7_push 34 = .ok (.getfield 23, 3) := by decide +kernel
theorem dX7_push_37 : decode cX7_push 37 = .ok (.aload_n 0, 1) := by decide +kernel
theorem dX7_push_38 : decode cX7_push 38 = .ok (.getfield 9, 3) := by decide +kernel
theorem dX7_push_41 : decode cX7_push 41 = .ok (.aload_n 0, 1) := by decide +kernel
theorem dX7_push_42 : decode cX7_push 42 = .ok (.getfield 39, 3) := by decide +kernel
theorem dX7_push_45 : decode cX7_push 45 = .ok (.iload_n 2, 1) := by decide +kernel
theorem dX7_push_46 : decode cX7_push 46 = .ok (.invokevirtual 52, 3) := by decide +kernel
theorem dX7_push_49 : decode cX7_push 49 = .ok (.ifCond .eq 18, 3) := by decide +kernel
theorem dX7_push_52 : decode cX7_push 52 = .ok (.aload_n 0, 1) := by decide +kernel
theorem dX7_push_53 : decode cX7_push 53 = .ok (.getfield 23, 3) := by decide +kernel
theorem dX7_push_56 : decode cX7_push 56 = .ok (.iload_n 1, 1) := by decide +kernel
theorem dX7_push_57 : decode cX7_push 57 = .ok (.invokevirtual 72, 3) := by decide +kernel
theorem dX7_push_60 : decode cX7_push 60 = .ok (.ifCond .eq 7, 3) := by decide +kernel
theorem dX7_push_63 : decode cX7_push 63 = .ok (.iconst 1, 1) := by decide +kernel
theorem dX7_push_64 : decode cX7_push 64 = .ok (.goto 4, 3) := by decide +kernel
theorem dX7_push_67 : decode cX7_push 67 = .ok (.iconst 0, 1) := by decide +kernel
theorem dX7_push_68 : decode cX7_push 68 = .ok (.istore 4, 2) := by decide +kernel
theorem dX7_push_70 : decode cX7_push 70 = .ok (.iload_n 3, 1) := by decide +kernel
theorem dX7_push_71 : decode cX7_push 71 = .ok (.bipush 80, 2) := by decide +kernel
theorem dX7_push_73 : decode cX7_push 73 = .ok (.if_icmp .eq 6, 3) := by decide +kernel
theorem dX7_push_76 : decode cX7_push 76 = .ok (.iload 4, 2) := by decide +kernel
theorem dX7_push_78 : decode cX7_push 78 = .ok (.ireturn, 1) := by decide +kernel
theorem dX7_push_79 : decode cX7_push 79 = .ok (.iload 4, 2) := by decide +kernel
theorem dX7_push_81 : decode cX7_push 81 = .ok (.ifCond .eq 38, 3) := by decide +kernel
theorem dX7_push_84 : decode cX7_push 84 = .ok (.aload_n 0, 1) := by decide +kernel
theorem dX7_push_85 : decode cX7_push 85 = .ok (.getfield 23, 3) := by decide +kernel
theorem dX7_push_88 : decode cX7_push 88 = .ok (.bipush 38, 2) := by decide +kernel
theorem dX7_push_90 : decode cX7_push 90 = .ok (.invokevirtual 72, 3) := by decide +kernel
theorem dX7_push_93 : decode cX7_push 93 = .ok (.ifCond .eq 26, 3) := by decide +kernel
theorem dX7_push_96 : decode cX7_push 96 = .ok (.aload_n 0, 1) := by decide +kernel
theorem dX7_push_97 : decode cX7_push 97 = .ok (.getfield 23, 3) := by decide +kernel
theorem dX7_push_100 : decode cX7_push 100 = .ok (.aload_n 0, 1) := by decide +kernel
theorem dX7_push_101 : decode cX7_push 101 = .ok (.getfield 9, 3) := by decide +kernel
theorem dX7_push_104 : decode cX7_push 104 = .ok (.aload_n 0, 1) := by decide +kernel
theorem dX7_push_105 : decode cX7_push 105 = .ok (.getfield 39, 3) := by decide +kernel
theorem dX7_push_108 : decode cX7_push 108 = .ok (.iload_n 2, 1) := by decide +kernel
theorem dX7_push_109 : decode cX7_push 109 = .ok (.invokevirtual 52, 3) := by decide +kernel
theorem dX7_push_112 : decode cX7_push 112 = .ok (.ifCond .eq 7, 3) := by decide +kernel
theorem dX7_push_115 : decode cX7_push 115 = .ok (.iconst 1, 1) := by decide +kernel
theorem dX7_push_116 : decode cX7_push 116 = .ok (.goto 4, 3) := by decide +kernel
theorem dX7_push_119 : decode cX7_push 119 = .ok (.iconst 0, 1) := by decide +kernel
theorem dX7_push_120 : decode cX7_push 120 = .ok (.ireturn, 1) := by decide +kernel
def f_X7_push_119 (F P : Nat) (S : xSt) (D : xDt) : Option (Int32 × xDt) :=
  some (0, D)
set_option maxHeartbeats 4000000 in
theorem t_X7_push_119 {F P : Nat} {S : xSt} (hS : xWF S) {D : xDt} {r : Int32 × xDt} (h : f_X7_push_119 F P S D = some r) : yEx md_X7_push 2 119 [] [] S D (xQi S r) := by
  unfold f_X7_push_119 at h
  refine x_iconst 0 dX7_push_119 (by decide) ?_
  obtain rfl := Option.some.inj h
  exact y_zret rfl rfl dX7_push_120

def f_X7_push_68 (F P : Nat) (S : xSt) (v0 : Nat) (v2 : Int32) (v3 : Int32) (s0 : Int32) (D : xDt) : Option (Int32 × xDt) :=
  if v3 = 80 then (if s0 = 0 then (f_X7_push_119 F P S D) else ((f_X2_add F P S (xr S v0 2) 38 D).bind fun q1 => if q1.1 = 0 then (f_X7_push_119 F P S q1.2) else ((f_X2_addAll F P S (xr S v0 2) (xr S v0 0) (q1.2.1 v0 3) v2 q1.2).bind fun q2 => if q2.1 = 0 then (f_X7_push_119 F P S q2.2) else (some (1, q2.2))))) else (xgrd (xb s0) (some (s0, D)))
set_option maxHeartbeats 4000000 in
theorem t_X7_push_68 {F P : Nat} {S : xSt} (hS : xWF S) {v0 : Nat} {v2 : Int32} {v3 : Int32} {s0 : Int32} {D : xDt} {r : Int32 × xDt} (k0 : xK S v0 7) (h : f_X7_push_68 F P S v0 v2 v3 s0 D = some r) : yEx md_X7_push 2 68 [(0, .ref v0), (2, .int v2), (3, .int v3)] [.int s0] S D (xQi S r) := by
  unfold f_X7_push_68 at h
  refine y_istore s0 rfl [(4, .int s0), (0, .ref v0), (2, .int v2), (3, .int v3)] dX7_push_68 (by show _ < 5; decide) rfl ?_
  refine x_iload_n dX7_push_70 3 rfl ?_
  refine x_bipush 80 dX7_push_71 (by decide) ?_
  refine x_icmp_eq 79 dX7_push_73 (by decide) (fun c => ?_) (fun c => ?_)
  · rw [if_pos c] at h
    refine x_iload dX7_push_79 0 rfl ?_
    refine x_if_eq 119 dX7_push_81 (by decide) (fun c => ?_) (fun c => ?_)
    · rw [if_pos c] at h
      refine x_lv (lv' := []) [] rfl ?_
      exact t_X7_push_119 hS h
    · rw [if_neg c] at h
      refine x_aload_n dX7_push_84 1 rfl ?_
      refine y_getr (kd := 2) hS fl_RX7_23 dX7_push_85 rfl k0 ?_
      refine x_bipush 38 dX7_push_88 (by decide) ?_
      refine xbnd_e h (fun q1 e1 h => ?_)
      refine y_callVi (As := [.int 38]) (q := q1) cv_RX7_72 dX7_push_90 ((hS.f k0 2 2 rfl).2) rfl (Nat.le_of_ble_eq_true rfl) (by omega) (S_X2_add hS ((hS.f k0 2 2 rfl).2) e1) ?_
      refine x_if_eq 119 dX7_push_93 (by decide) (fun c => ?_) (fun c => ?_)
      · rw [if_pos c] at h
        refine x_lv (lv' := []) [] rfl ?_
        exact t_X7_push_119 hS h
      · rw [if_neg c] at h
        refine x_aload_n dX7_push_96 1 rfl ?_
        refine y_getr (kd := 2) hS fl_RX7_23 dX7_push_97 rfl k0 ?_
        refine x_aload_n dX7_push_100 1 rfl ?_
        refine y_getr (kd := 100) hS fl_RX7_9 dX7_push_101 rfl k0 ?_
        refine x_aload_n dX7_push_104 1 rfl ?_
        refine y_geti fl_RX7_39 dX7_push_105 rfl k0 ?_
        refine x_iload_n dX7_push_108 2 rfl ?_
        refine xbnd_e h (fun q2 e2 h => ?_)
        refine y_callVi (As := [.ref (xr S v0 0), .int (q1.2.1 v0 3), .int v2]) (q := q2) cv_RX7_52 dX7_push_109 ((hS.f k0 2 2 rfl).2) rfl (Nat.le_of_ble_eq_true rfl) (by omega) (S_X2_addAll hS ((hS.f k0 2 2 rfl).2) ((hS.f k0 0 100 rfl).2) e2) ?_
        refine x_if_eq 119 dX7_push_112 (by decide) (fun c => ?_) (fun c => ?_)
        · rw [if_pos c] at h
          refine x_lv (lv' := []) [] rfl ?_
          exact t_X7_push_119 hS h
        · rw [if_neg c] at h
          refine x_iconst 1 dX7_push_115 (by decide) ?_
          refine x_goto 120 dX7_push_116 (by decide) ?_
          obtain rfl := Option.some.inj h
          exact y_zret rfl rfl dX7_push_120
  · rw [if_neg c] at h
    refine x_iload dX7_push_76 0 rfl ?_
    refine xgrd_e h (fun g3 h => ?_)
    obtain rfl := Option.some.inj h
    exact y_zret rfl g3 dX7_push_78

def f_X7_push_67 (F P : Nat) (S : xSt) (v0 : Nat) (v2 : Int32) (v3 : Int32) (D : xDt) : Option (Int32 × xDt) :=
  f_X7_push_68 F P S v0 v2 v3 0 D
set_option maxHeartbeats 4000000 in
theorem t_X7_push_67 {F P : Nat} {S : xSt} (hS : xWF S) {v0 : Nat} {v2 : Int32} {v3 : Int32} {D : xDt} {r : Int32 × xDt} (k0 : xK S v0 7) (h : f_X7_push_67 F P S v0 v2 v3 D = some r) : yEx md_X7_push 2 67 [(0, .ref v0), (2, .int v2), (3, .int v3)] [] S D (xQi S r) := by
  unfold f_X7_push_67 at h
  refine x_iconst 0 dX7_push_67 (by decide) ?_
  exact t_X7_push_68 hS k0 h

def f_X7_push (F P : Nat) (S : xSt) (v0 : Nat) (v1 : Int32) (v2 : Int32) (D : xDt) : Option (Int32 × xDt) :=
  (f_X11_signOf F P S v1 D).bind fun q1 => (f_X11_isJoin F P S q1.1 q1.2).bind fun q2 => if q2.1 = 0 then ((f_X2_add F P S (xr S v0 2) 62 q2.2).bind fun q3 => if q3.1 = 0 then (f_X7_push_67 F P S v0 v2 q1.1 q3.2) else ((f_X2_addAll F P S (xr S v0 2) (xr S v0 0) (q3.2.1 v0 3) v2 q3.2).bind fun q4 => if q4.1 = 0 then (f_X7_push_67 F P S v0 v2 q1.1 q4.2) else ((f_X2_add F P S (xr S v0 2) v1 q4.2).bind fun q5 => if q5.1 = 0 then (f_X7_push_67 F P S v0 v2 q1.1 q5.2) else (f_X7_push_68 F P S v0 v2 q1.1 1 q5.2)))) else ((f_X2_add F P S (xr S v0 2) v1 q2.2).bind fun q6 => xgrd (xb q6.1) (some (q6.1, q6.2)))
set_option maxHeartbeats 4000000 in
theorem S_X7_push {F P : Nat} {S : xSt} (hS : xWF S) {v0 : Nat} {v1 : Int32} {v2 : Int32} {D : xDt} {r : Int32 × xDt} (k0 : xK S v0 7) (h : f_X7_push F P S v0 v1 v2 D = some r) : xSp md_X7_push (2, 0, 0) [.ref v0, .int v1, .int v2] (S, D) (xQi S r) := by
  unfold f_X7_push at h
  refine xEntry (by decide) (Nat.le_of_ble_eq_true rfl) ?_
  refine x_lv (lv' := [(0, .ref v0), (1, .int v1), (2, .int v2)]) [0, 1, 2] rfl ?_
  refine x_iload_n dX7_push_0 1 rfl ?_
  refine xbnd_e h (fun q1 e1 h => ?_)
  refine y_callNi (As := [.int v1]) (q := q1) cn_RX7_56 dX7_push_1 rfl (Nat.le_of_ble_eq_true rfl) (by omega) (S_X11_signOf hS e1) ?_
  refine y_istore_n q1.1 rfl [(3, .int q1.1), (0, .ref v0), (1, .int v1), (2, .int v2)] dX7_push_4 (by show _ < 5; decide) rfl ?_
  refine x_iload_n dX7_push_5 0 rfl ?_
  refine xbnd_e h (fun q2 e2 h => ?_)
  refine y_callNi (As := [.int q1.1]) (q := q2) cn_RX7_69 dX7_push_6 rfl (Nat.le_of_ble_eq_true rfl) (by omega) (S_X11_isJoin hS e2) ?_
  refine x_if_eq 21 dX7_push_9 (by decide) (fun c => ?_) (fun c => ?_)
  · rw [if_pos c] at h
    refine x_aload_n dX7_push_21 1 rfl ?_
    refine y_getr (kd := 2) hS fl_RX7_23 dX7_push_22 rfl k0 ?_
    refine x_bipush 62 dX7_push_25 (by decide) ?_
    refine xbnd_e h (fun q3 e3 h => ?_)
    refine y_callVi (As := [.int 62]) (q := q3) cv_RX7_72 dX7_push_27 ((hS.f k0 2 2 rfl).2) rfl (Nat.le_of_ble_eq_true rfl) (by omega) (S_X2_add hS ((hS.f k0 2 2 rfl).2) e3) ?_
    refine x_if_eq 67 dX7_push_30 (by decide) (fun c => ?_) (fun c => ?_)
    · rw [if_pos c] at h
      refine x_lv (lv' := [(0, .ref v0), (2, .int v2), (3, .int q1.1)]) [1, 3, 0] rfl ?_
      exact t_X7_push_67 hS k0 h
    · rw [if_neg c] at h
      refine x_aload_n dX7_push_33 1 rfl ?_
      refine y_getr (kd := 2) hS fl_RX7_23 dX7_push_34 rfl k0 ?_
      refine x_aload_n dX7_push_37 1 rfl ?_
      refine y_getr (kd := 100) hS fl_RX7_9 dX7_push_38 rfl k0 ?_
      refine x_aload_n dX7_push_41 1 rfl ?_
      refine y_geti fl_RX7_39 dX7_push_42 rfl k0 ?_
      refine x_iload_n dX7_push_45 3 rfl ?_
      refine xbnd_e h (fun q4 e4 h => ?_)
      refine y_callVi (As := [.ref (xr S v0 0), .int (q3.2.1 v0 3), .int v2]) (q := q4) cv_RX7_52 dX7_push_46 ((hS.f k0 2 2 rfl).2) rfl (Nat.le_of_ble_eq_true rfl) (by omega) (S_X2_addAll hS ((hS.f k0 2 2 rfl).2) ((hS.f k0 0 100 rfl).2) e4) ?_
      refine x_if_eq 67 dX7_push_49 (by decide) (fun c => ?_) (fun c => ?_)
      · rw [if_pos c] at h
        refine x_lv (lv' := [(0, .ref v0), (2, .int v2), (3, .int q1.1)]) [1, 3, 0] rfl ?_
        exact t_X7_push_67 hS k0 h
      · rw [if_neg c] at h
        refine x_aload_n dX7_push_52 1 rfl ?_
        refine y_getr (kd := 2) hS fl_RX7_23 dX7_push_53 rfl k0 ?_
        refine x_iload_n dX7_push_56 2 rfl ?_
        refine xbnd_e h (fun q5 e5 h => ?_)
        refine y_callVi (As := [.int v1]) (q := q5) cv_RX7_72 dX7_push_57 ((hS.f k0 2 2 rfl).2) rfl (Nat.le_of_ble_eq_true rfl) (by omega) (S_X2_add hS ((hS.f k0 2 2 rfl).2) e5) ?_
        refine x_if_eq 67 dX7_push_60 (by decide) (fun c => ?_) (fun c => ?_)
        · rw [if_pos c] at h
          refine x_lv (lv' := [(0, .ref v0), (2, .int v2), (3, .int q1.1)]) [1, 3, 0] rfl ?_
          exact t_X7_push_67 hS k0 h
        · rw [if_neg c] at h
          refine x_iconst 1 dX7_push_63 (by decide) ?_
          refine x_goto 68 dX7_push_64 (by decide) ?_
          refine x_lv (lv' := [(0, .ref v0), (2, .int v2), (3, .int q1.1)]) [1, 3, 0] rfl ?_
          exact t_X7_push_68 hS k0 h
  · rw [if_neg c] at h
    refine x_aload_n dX7_push_12 1 rfl ?_
    refine y_getr (kd := 2) hS fl_RX7_23 dX7_push_13 rfl k0 ?_
    refine x_iload_n dX7_push_16 2 rfl ?_
    refine xbnd_e h (fun q6 e6 h => ?_)
    refine y_callVi (As := [.int v1]) (q := q6) cv_RX7_72 dX7_push_17 ((hS.f k0 2 2 rfl).2) rfl (Nat.le_of_ble_eq_true rfl) (by omega) (S_X2_add hS ((hS.f k0 2 2 rfl).2) e6) ?_
    refine xgrd_e h (fun g7 h => ?_)
    obtain rfl := Option.some.inj h
    exact y_zret rfl g7 dX7_push_20

theorem dX7_unsay_0 : decode cX7_unsay 0 = .ok (.aload_n 0, 1) := by decide +kernel
theorem dX7_unsay_1 : decode cX7_unsay 1 = .ok (.getfield 42, 3) := by decide +kernel
theorem dX7_unsay_4 : decode cX7_unsay 4 = .ok (.iconst 2, 1) := by decide +kernel
theorem dX7_unsay_5 : decode cX7_unsay 5 = .ok (.if_icmp .ge 5, 3) := by decide +kernel
theorem dX7_unsay_8 : decode cX7_unsay 8 = .ok (.iconst 0, 1) := by decide +kernel
theorem dX7_unsay_9 : decode cX7_unsay 9 = .ok (.ireturn, 1) := by decide +kernel
theorem dX7_unsay_10 : decode cX7_unsay 10 = .ok (.aload_n 0, 1) := by decide +kernel
theorem dX7_unsay_11 : decode cX7_unsay 11 = .ok (.getfield 15, 3) := by decide +kernel
theorem dX7_unsay_14 : decode cX7_unsay 14 = .ok (.aload_n 0, 1) := by decide +kernel
theorem dX7_unsay_15 : decode cX7_unsay 15 = .ok (.getfield 42, 3) := by decide +kernel
theorem dX7_unsay_18 : decode cX7_unsay 18 = .ok (.iconst 1, 1) := by decide +kernel
theorem dX7_unsay_19 : decode cX7_unsay 19 = .ok (.isub, 1) := by decide +kernel
theorem dX7_unsay_20 : decode cX7_unsay 20 = .ok (.iaload, 1) := by decide +kernel
theorem dX7_unsay_21 : decode cX7_unsay 21 = .ok (.istore_n 2, 1) := by decide +kernel
theorem dX7_unsay_22 : decode cX7_unsay 22 = .ok (.aload_n 0, 1) := by decide +kernel
theorem dX7_unsay_23 : decode cX7_unsay 23 = .ok (.getfield 15, 3) := by decide +kernel
theorem dX7_unsay_26 : decode cX7_unsay 26 = .ok (.aload_n 0, 1) := by decide +kernel
theorem dX7_unsay_27 : decode cX7_unsay 27 = .ok (.getfield 42, 3) := by decide +kernel
theorem dX7_unsay_30 : decode cX7_unsay 30 = .ok (.iconst 2, 1) := by decide +kernel
theorem dX7_unsay_31 : decode cX7_unsay 31 = .ok (.isub, 1) := by decide +kernel
theorem dX7_unsay_32 : decode cX7_unsay 32 = .ok (.iaload, 1) := by decide +kernel
theorem dX7_unsay_33 : decode cX7_unsay 33 = .ok (.istore_n 3, 1) := by decide +kernel
theorem dX7_unsay_34 : decode cX7_unsay 34 = .ok (.aload_n 0, 1) := by decide +kernel
theorem dX7_unsay_35 : decode cX7_unsay 35 = .ok (.dup, 1) := by decide +kernel
theorem dX7_unsay_36 : decode cX7_unsay 36 = .ok (.getfield 42, 3) := by decide +kernel
theorem dX7_unsay_39 : decode cX7_unsay 39 = .ok (.iconst 1, 1) := by decide +kernel
theorem dX7_unsay_40 : decode cX7_unsay 40 = .ok (.isub, 1) := by decide +kernel
theorem dX7_unsay_41 : decode cX7_unsay 41 = .ok (.putfield 42, 3) := by decide +kernel
theorem dX7_unsay_44 : decode cX7_unsay 44 = .ok (.aload_n 0, 1) := by decide +kernel
theorem dX7_unsay_45 : decode cX7_unsay 45 = .ok (.getfield 23, 3) := by decide +kernel
theorem dX7_unsay_48 : decode cX7_unsay 48 = .ok (.iconst 0, 1) := by decide +kernel
theorem dX7_unsay_49 : decode cX7_unsay 49 = .ok (.putfield 35, 3) := by decide +kernel
theorem dX7_unsay_52 : decode cX7_unsay 52 = .ok (.iload_n 1, 1) := by decide +kernel
theorem dX7_unsay_53 : decode cX7_unsay 53 = .ok (.bipush 91, 2) := by decide +kernel
theorem dX7_unsay_55 : decode cX7_unsay 55 = .ok (.if_icmp .eq 25, 3) := by decide +kernel
theorem dX7_unsay_58 : decode cX7_unsay 58 = .ok (.aload_n 0, 1) := by decide +kernel
theorem dX7_unsay_59 : decode cX7_unsay 59 = .ok (.getfield 23, 3) := by decide +kernel
theorem dX7_unsay_62 : decode cX7_unsay 62 = .ok (.bipush 126, 2) := by decide +kernel
theorem dX7_unsay_64 : decode cX7_unsay 64 = .ok (.invokevirtual 72, 3) := by decide +kernel
theorem dX7_unsay_67 : decode cX7_unsay 67 = .ok (.ifCond .eq 17, 3) := by decide +kernel
theorem dX7_unsay_70 : decode cX7_unsay 70 = .ok (.aload_n 0, 1) := by decide +kernel
theorem dX7_unsay_71 : decode cX7_unsay 71 = .ok (.bipush 126, 2) := by decide +kernel
theorem dX7_unsay_73 : decode cX7_unsay 73 = .ok (.iload_n 2, 1) := by decide +kernel
theorem dX7_unsay_74 : decode cX7_unsay 74 = .ok (.invokevirtual 75, 3) := by decide +kernel
theorem dX7_unsay_77 : decode cX7_unsay 77 = .ok (.ifCond .eq 7, 3) := by decide +kernel
theorem dX7_unsay_80 : decode cX7_unsay 80 = .ok (.iconst 1, 1) := by decide +kernel
theorem dX7_unsay_81 : decode cX7_unsay 81 = .ok (.goto 4, 3) := by decide +kernel
theorem dX7_unsay_84 : decode cX7_unsay 84 = .ok (.iconst 0, 1) := by decide +kernel
theorem dX7_unsay_85 : decode cX7_unsay 85 = .ok (.istore 4, 2) := by decide +kernel
theorem dX7_unsay_87 : decode cX7_unsay 87 = .ok (.iload_n 2, 1) := by decide +kernel
theorem dX7_unsay_88 : decode cX7_unsay 88 = .ok (.istore 5, 2) := by decide +kernel
theorem dX7_unsay_90 : decode cX7_unsay 90 = .ok (.iload 4, 2) := by decide +kernel
theorem dX7_unsay_92 : decode cX7_unsay 92 = .ok (.ifCond .eq 29, 3) := by decide +kernel
theorem dX7_unsay_95 : decode cX7_unsay 95 = .ok (.iload 5, 2) := by decide +kernel
theorem dX7_unsay_97 : decode cX7_unsay 97 = .ok (.iload_n 3, 1) := by decide +kernel
theorem dX7_unsay_98 : decode cX7_unsay 98 = .ok (.if_icmp .ge 23, 3) := by decide +kernel
theorem dX7_unsay_101 : decode cX7_unsay 101 = .ok (.aload_n 0, 1) := by decide +kernel
theorem dX7_unsay_102 : decode cX7_unsay 102 = .ok (.aload_n 0, 1) := by decide +kernel
theorem dX7_unsay_103 : decode cX7_unsay 103 = .ok (.getfield 9, 3) := by decide +kernel
theorem dX7_unsay_106 : decode cX7_unsay 106 = .ok (.iload 5, 2) := by decide +kernel
theorem dX7_unsay_108 : decode cX7_unsay 108 = .ok (.iaload, 1) := by decide +kernel
theorem dX7_unsay_109 : decode cX7_unsay 109 = .ok (.iload_n 2, 1) := by decide +kernel
theorem dX7_unsay_110 : decode cX7_unsay 110 = .ok (.invokevirtual 75, 3) := by decide +kernel
theorem dX7_unsay_113 : decode cX7_unsay 113 = .ok (.istore 4, 2) := by decide +kernel
theorem dX7_unsay_115 : decode cX7_unsay 115 = .ok (.iinc 5 1, 3) := by decide +kernel
theorem dX7_unsay_118 : decode cX7_unsay 118 = .ok (.goto (-28), 3) := by decide +kernel
theorem dX7_unsay_121 : decode cX7_unsay 121 = .ok (.iload 4, 2) := by decide +kernel
theorem dX7_unsay_123 : decode cX7_unsay 123 = .ok (.ifCond .eq 14, 3) := by decide +kernel
theorem dX7_unsay_126 : decode cX7_unsay 126 = .ok (.aload_n 0, 1) := by decide +kernel
theorem dX7_unsay_127 : decode cX7_unsay 127 = .ok (.getfield 23, 3) := by decide +kernel
theorem dX7_unsay_130 : decode cX7_unsay 130 = .ok (.getfield 35, 3) := by decide +kernel
theorem dX7_unsay_133 : decode cX7_unsay 133 = .ok (.iload_n 3, 1) := by decide +kernel
theorem dX7_unsay_134 : decode cX7_unsay 134 = .ok (.if_icmp .le 5, 3) := by decide +kernel
theorem dX7_unsay_137 : decode cX7_unsay 137 = .ok (.iconst 0, 1) := by decide +kernel
theorem dX7_unsay_138 : decode cX7_unsay 138 = .ok (.ireturn, 1) := by decide +kernel
theorem dX7_unsay_139 : decode cX7_unsay 139 = .ok (.aload_n 0, 1) := by decide +kernel
theorem dX7_unsay_140 : decode cX7_unsay 140 = .ok (.iload_n 3, 1) := by decide +kernel
theorem dX7_unsay_141 : decode cX7_unsay 141 = .ok (.aload_n 0, 1) := by decide +kernel
theorem dX7_unsay_142 : decode cX7_unsay 142 = .ok (.getfield 23, 3) := by decide +kernel
theorem dX7_unsay_145 : decode cX7_unsay 145 = .ok (.getfield 35, 3) := by decide +kernel
theorem dX7_unsay_148 : decode cX7_unsay 148 = .ok (.isub, 1) := by decide +kernel
theorem dX7_unsay_149 : decode cX7_unsay 149 = .ok (.putfield 39, 3) := by decide +kernel
theorem dX7_unsay_152 : decode cX7_unsay 152 = .ok (.aload_n 0, 1) := by decide +kernel
theorem dX7_unsay_153 : decode cX7_unsay 153 = .ok (.getfield 23, 3) := by decide +kernel
theorem dX7_unsay_156 : decode cX7_unsay 156 = .ok (.getfield 45, 3) := by decide +kernel
theorem dX7_unsay_159 : decode cX7_unsay 159 = .ok (.iconst 0, 1) := by decide +kernel
theorem dX7_unsay_160 : decode cX7_unsay 160 = .ok (.aload_n 0, 1) := by decide +kernel
theorem dX7_unsay_161 : decode cX7_unsay 161 = .ok (.getfield 9, 3) := by decide +kernel
theorem dX7_unsay_164 : decode cX7_unsay 164 = .ok (.aload_n 0, 1) := by decide +kernel
theorem dX7_unsay_165 : decode cX7_unsay 165 = .ok (.getfield 39, 3) := by decide +kernel
theorem dX7_unsay_168 : decode cX7_unsay 168 = .ok (.aload_n 0, 1) := by decide +kernel
theorem dX7_unsay_169 : decode cX7_unsay 169 = .ok (.getfield 23, 3) := by decide +kernel
theorem dX7_unsay_172 : decode cX7_unsay 172 = .ok (.getfield 35, 3) := by decide +kernel
theorem dX7_unsay_175 : decode cX7_unsay 175 = .ok (.invokestatic 79, 3) := by decide +kernel
theorem dX7_unsay_178 : decode cX7_unsay 178 = .ok (.iconst 1, 1) := by decide +kernel
theorem dX7_unsay_179 : decode cX7_unsay 179 = .ok (.ireturn, 1) := by decide +kernel
def f_X7_unsay_121 (F P : Nat) (S : xSt) (v0 : Nat) (v3 : Int32) (v4 : Int32) (D : xDt) : Option (Int32 × xDt) :=
  if v4 = 0 then (some (0, D)) else (if (D.1 (xr S v0 2) 1) ≤ v3 then (xlet (xup D.1 v0 3 (v3 - (D.1 (xr S v0 2) 1)), D.2) fun D1 => xgrd (xcpin 0 (D1.1 v0 3) (D1.1 (xr S v0 2) 1) (xl S (xr S (xr S v0 2) 0)) (xl S (xr S v0 0))) (xlet (xcp D1.1 (xr S (xr S v0 2) 0) (xr S v0 0) (0 : Int32).toNatClampNeg (D1.1 v0 3).toNatClampNeg (D1.1 (xr S v0 2) 1).toNatClampNeg, D1.2) fun D3 => some (1, D3))) else (some (0, D)))
set_option maxHeartbeats 4000000 in
theorem t_X7_unsay_121 {F P : Nat} {S : xSt} (hS : xWF S) {v0 : Nat} {v3 : Int32} {v4 : Int32} {D : xDt} {r : Int32 × xDt} (k0 : xK S v0 7) (h : f_X7_unsay_121 F P S v0 v3 v4 D = some r) : yEx md_X7_unsay 3 121 [(0, .ref v0), (3, .int v3), (4, .int v4)] [] S D (xQi S r) := by
  unfold f_X7_unsay_121 at h
  refine x_iload dX7_unsay_121 2 rfl ?_
  refine x_if_eq 137 dX7_unsay_123 (by decide) (fun c => ?_) (fun c => ?_)
  · rw [if_pos c] at h
    refine x_iconst 0 dX7_unsay_137 (by decide) ?_
    obtain rfl := Option.some.inj h
    exact y_zret rfl rfl dX7_unsay_138
  · rw [if_neg c] at h
    refine x_aload_n dX7_unsay_126 0 rfl ?_
    refine y_getr (kd := 2) hS fl_RX7_23 dX7_unsay_127 rfl k0 ?_
    refine y_geti fl_RX7_35 dX7_unsay_130 rfl ((hS.f k0 2 2 rfl).2) ?_
    refine x_iload_n dX7_unsay_133 1 rfl ?_
    refine x_icmp_le 139 dX7_unsay_134 (by decide) (fun c => ?_) (fun c => ?_)
    · rw [if_pos c] at h
      refine x_aload_n dX7_unsay_139 0 rfl ?_
      refine x_iload_n dX7_unsay_140 1 rfl ?_
      refine x_aload_n dX7_unsay_141 0 rfl ?_
      refine y_getr (kd := 2) hS fl_RX7_23 dX7_unsay_142 rfl k0 ?_
      refine y_geti fl_RX7_35 dX7_unsay_145 rfl ((hS.f k0 2 2 rfl).2) ?_
      refine x_isub dX7_unsay_148 ?_
      refine xlet_e h (fun D1 eD1 h => ?_)
      refine y_puti fp_RX7_39 dX7_unsay_149 rfl k0 eD1 ?_
      refine x_aload_n dX7_unsay_152 0 rfl ?_
      refine y_getr (kd := 2) hS fl_RX7_23 dX7_unsay_153 rfl k0 ?_
      refine y_getr (kd := 100) hS fl_RX7_45 dX7_unsay_156 rfl ((hS.f k0 2 2 rfl).2) ?_
      refine x_iconst 0 dX7_unsay_159 (by decide) ?_
      refine x_aload_n dX7_unsay_160 0 rfl ?_
      refine y_getr (kd := 100) hS fl_RX7_9 dX7_unsay_161 rfl k0 ?_
      refine x_aload_n dX7_unsay_164 0 rfl ?_
      refine y_geti fl_RX7_39 dX7_unsay_165 rfl k0 ?_
      refine x_aload_n dX7_unsay_168 0 rfl ?_
      refine y_getr (kd := 2) hS fl_RX7_23 dX7_unsay_169 rfl k0 ?_
      refine y_geti fl_RX7_35 dX7_unsay_172 rfl ((hS.f k0 2 2 rfl).2) ?_
      refine xgrd_e h (fun g2 h => ?_)
      refine xlet_e h (fun D3 eD3 h => ?_)
      refine y_copyi cp_RX7_79 dX7_unsay_175 ((hS.f ((hS.f k0 2 2 rfl).2) 0 100 rfl).2) ((hS.f k0 0 100 rfl).2) g2 (Nat.le_of_ble_eq_true rfl) (by omega) eD3 ?_
      refine x_iconst 1 dX7_unsay_178 (by decide) ?_
      obtain rfl := Option.some.inj h
      exact y_zret rfl rfl dX7_unsay_179
    · rw [if_neg c] at h
      refine x_iconst 0 dX7_unsay_137 (by decide) ?_
      obtain rfl := Option.some.inj h
      exact y_zret rfl rfl dX7_unsay_138

def f_X7_unsay_90s (F P : Nat) (S : xSt) (rec_90 : Nat → Int32 → Int32 → Int32 → Int32 → xDt → Option (Int32 × xDt)) (v0 : Nat) (v2 : Int32) (v3 : Int32) (v4 : Int32) (v5 : Int32) (D : xDt) : Option (Int32 × xDt) :=
  if v4 = 0 then (f_X7_unsay_121 F P S v0 v3 v4 D) else (if v3 ≤ v5 then (f_X7_unsay_121 F P S v0 v3 v4 D) else (xgrd (xin v5 (xl S (xr S v0 0))) ((f_X7_push F P S v0 (D.1 (xr S v0 0) (v5).toNatClampNeg) v2 D).bind fun q2 => xlet (v5 + 1) fun v5_3 => rec_90 v0 v2 v3 q2.1 v5_3 q2.2)))
def f_X7_unsay_90 (F P : Nat) (S : xSt) : Nat → Nat → Int32 → Int32 → Int32 → Int32 → xDt → Option (Int32 × xDt)
  | 0 => fun _ _ _ _ _ _ => none
  | n + 1 => f_X7_unsay_90s F P S (f_X7_unsay_90 F P S n)
set_option maxHeartbeats 4000000 in
theorem t_X7_unsay_90s {F P : Nat} {S : xSt} (hS : xWF S) {rec_90 : Nat → Int32 → Int32 → Int32 → Int32 → xDt → Option (Int32 × xDt)} (hrec_90 : ∀ {v0 : Nat} {v2 : Int32} {v3 : Int32} {v4 : Int32} {v5 : Int32} {D : xDt} {r : Int32 × xDt}, xK S v0 7 → rec_90 v0 v2 v3 v4 v5 D = some r → yEx md_X7_unsay 3 90 [(0, .ref v0), (2, .int v2), (3, .int v3), (4, .int v4), (5, .int v5)] [] S D (xQi S r)) {v0 : Nat} {v2 : Int32} {v3 : Int32} {v4 : Int32} {v5 : Int32} {D : xDt} {r : Int32 × xDt} (k0 : xK S v0 7) (h : f_X7_unsay_90s F P S rec_90 v0 v2 v3 v4 v5 D = some r) : yEx md_X7_unsay 3 90 [(0, .ref v0), (2, .int v2), (3, .int v3), (4, .int v4), (5, .int v5)] [] S D (xQi S r) := by
  unfold f_X7_unsay_90s at h
  refine x_iload dX7_unsay_90 3 rfl ?_
  refine x_if_eq 121 dX7_unsay_92 (by decide) (fun c => ?_) (fun c => ?_)
  · rw [if_pos c] at h
    refine x_lv (lv' := [(0, .ref v0), (3, .int v3), (4, .int v4)]) [0, 2, 3] rfl ?_
    exact t_X7_unsay_121 hS k0 h
  · rw [if_neg c] at h
    refine x_iload dX7_unsay_95 4 rfl ?_
    refine x_iload_n dX7_unsay_97 2 rfl ?_
    refine x_icmp_ge 121 dX7_unsay_98 (by decide) (fun c => ?_) (fun c => ?_)
    · rw [if_pos c] at h
      refine x_lv (lv' := [(0, .ref v0), (3, .int v3), (4, .int v4)]) [0, 2, 3] rfl ?_
      exact t_X7_unsay_121 hS k0 h
    · rw [if_neg c] at h
      refine x_aload_n dX7_unsay_101 0 rfl ?_
      refine x_aload_n dX7_unsay_102 0 rfl ?_
      refine y_getr (kd := 100) hS fl_RX7_9 dX7_unsay_103 rfl k0 ?_
      refine x_iload dX7_unsay_106 4 rfl ?_
      refine xgrd_e h (fun g1 h => ?_)
      refine y_iald dX7_unsay_108 ((hS.f k0 0 100 rfl).2) g1 ?_
      refine x_iload_n dX7_unsay_109 1 rfl ?_
      refine xbnd_e h (fun q2 e2 h => ?_)
      refine y_callVi (As := [.int (D.1 (xr S v0 0) (v5).toNatClampNeg), .int v2]) (q := q2) cv_RX7_75 dX7_unsay_110 k0 rfl (Nat.le_of_ble_eq_true rfl) (by omega) (S_X7_push hS k0 e2) ?_
      refine y_istore q2.1 rfl [(4, .int q2.1), (0, .ref v0), (2, .int v2), (3, .int v3), (5, .int v5)] dX7_unsay_113 (by show _ < 6; decide) rfl ?_
      refine xlet_e h (fun v5_3 ev5_3 h => ?_)
      refine y_iinc v5_3 ev5_3 (by decide) [(5, .int v5_3), (4, .int q2.1), (0, .ref v0), (2, .int v2), (3, .int v3)] dX7_unsay_115 4 rfl (by show _ < 6; decide) rfl ?_
      refine x_goto 90 dX7_unsay_118 (by decide) ?_
      refine x_lv (lv' := [(0, .ref v0), (2, .int v2), (3, .int v3), (4, .int q2.1), (5, .int v5_3)]) [2, 3, 4, 1, 0] rfl ?_
      exact hrec_90 k0 h
theorem t_X7_unsay_90 {F P : Nat} {S : xSt} (hS : xWF S) : ∀ (n : Nat) {v0 : Nat} {v2 : Int32} {v3 : Int32} {v4 : Int32} {v5 : Int32} {D : xDt} {r : Int32 × xDt}, xK S v0 7 → f_X7_unsay_90 F P S n v0 v2 v3 v4 v5 D = some r → yEx md_X7_unsay 3 90 [(0, .ref v0), (2, .int v2), (3, .int v3), (4, .int v4), (5, .int v5)] [] S D (xQi S r) := by
  intro n
  induction n with
  | zero => intros; rename_i h; cases h
  | succ n ih =>
    intro v0 v2 v3 v4 v5 D r k0 h
    exact t_X7_unsay_90s hS (fun k0 h => ih k0 h) k0 h

def f_X7_unsay_85 (F P : Nat) (S : xSt) (v0 : Nat) (v2 : Int32) (v3 : Int32) (s0 : Int32) (D : xDt) : Option (Int32 × xDt) :=
  f_X7_unsay_90 F P S F v0 v2 v3 s0 v2 D
set_option maxHeartbeats 4000000 in
theorem t_X7_unsay_85 {F P : Nat} {S : xSt} (hS : xWF S) {v0 : Nat} {v2 : Int32} {v3 : Int32} {s0 : Int32} {D : xDt} {r : Int32 × xDt} (k0 : xK S v0 7) (h : f_X7_unsay_85 F P S v0 v2 v3 s0 D = some r) : yEx md_X7_unsay 3 85 [(0, .ref v0), (2, .int v2), (3, .int v3)] [.int s0] S D (xQi S r) := by
  unfold f_X7_unsay_85 at h
  refine y_istore s0 rfl [(4, .int s0), (0, .ref v0), (2, .int v2), (3, .int v3)] dX7_unsay_85 (by show _ < 6; decide) rfl ?_
  refine x_iload_n dX7_unsay_87 2 rfl ?_
  refine y_istore v2 rfl [(5, .int v2), (4, .int s0), (0, .ref v0), (2, .int v2), (3, .int v3)] dX7_unsay_88 (by show _ < 6; decide) rfl ?_
  refine x_lv (lv' := [(0, .ref v0), (2, .int v2), (3, .int v3), (4, .int s0), (5, .int v2)]) [2, 3, 4, 1, 0] rfl ?_
  exact t_X7_unsay_90 hS F k0 h

def f_X7_unsay_80 (F P : Nat) (S : xSt) (v0 : Nat) (v2 : Int32) (v3 : Int32) (D : xDt) : Option (Int32 × xDt) :=
  f_X7_unsay_85 F P S v0 v2 v3 1 D
set_option maxHeartbeats 4000000 in
theorem t_X7_unsay_80 {F P : Nat} {S : xSt} (hS : xWF S) {v0 : Nat} {v2 : Int32} {v3 : Int32} {D : xDt} {r : Int32 × xDt} (k0 : xK S v0 7) (h : f_X7_unsay_80 F P S v0 v2 v3 D = some r) : yEx md_X7_unsay 3 80 [(0, .ref v0), (2, .int v2), (3, .int v3)] [] S D (xQi S r) := by
  unfold f_X7_unsay_80 at h
  refine x_iconst 1 dX7_unsay_80 (by decide) ?_
  refine x_goto 85 dX7_unsay_81 (by decide) ?_
  exact t_X7_unsay_85 hS k0 h

def f_X7_unsay_84 (F P : Nat) (S : xSt) (v0 : Nat) (v2 : Int32) (v3 : Int32) (D : xDt) : Option (Int32 × xDt) :=
  f_X7_unsay_85 F P S v0 v2 v3 0 D
set_option maxHeartbeats 4000000 in
theorem t_X7_unsay_84 {F P : Nat} {S : xSt} (hS : xWF S) {v0 : Nat} {v2 : Int32} {v3 : Int32} {D : xDt} {r : Int32 × xDt} (k0 : xK S v0 7) (h : f_X7_unsay_84 F P S v0 v2 v3 D = some r) : yEx md_X7_unsay 3 84 [(0, .ref v0), (2, .int v2), (3, .int v3)] [] S D (xQi S r) := by
  unfold f_X7_unsay_84 at h
  refine x_iconst 0 dX7_unsay_84 (by decide) ?_
  exact t_X7_unsay_85 hS k0 h

def f_X7_unsay (F P : Nat) (S : xSt) (v0 : Nat) (v1 : Int32) (D : xDt) : Option (Int32 × xDt) :=
  if 2 ≤ (D.1 v0 4) then (xgrd (xin ((D.1 v0 4) - 1) (xl S (xr S v0 1))) (xlet (D.1 (xr S v0 1) ((D.1 v0 4) - 1).toNatClampNeg) fun v2_2 => xgrd (xin ((D.1 v0 4) - 2) (xl S (xr S v0 1))) (xlet (D.1 (xr S v0 1) ((D.1 v0 4) - 2).toNatClampNeg) fun v3_4 => xlet (xup D.1 v0 4 ((D.1 v0 4) - 1), D.2) fun D5 => xlet (xup D5.1 (xr S v0 2) 1 0, D5.2) fun D6 => if v1 = 91 then (f_X7_unsay_80 F P S v0 v2_2 v3_4 D6) else ((f_X2_add F P S (xr S v0 2) 126 D6).bind fun q7 => if q7.1 = 0 then (f_X7_unsay_84 F P S v0 v2_2 v3_4 q7.2) else ((f_X7_push F P S v0 126 v2_2 q7.2).bind fun q8 => if q8.1 = 0 then (f_X7_unsay_84 F P S v0 v2_2 v3_4 q8.2) else (f_X7_unsay_80 F P S v0 v2_2 v3_4 q8.2)))))) else (some (0, D))
set_option maxHeartbeats 4000000 in
theorem S_X7_unsay {F P : Nat} {S : xSt} (hS : xWF S) {v0 : Nat} {v1 : Int32} {D : xDt} {r : Int32 × xDt} (k0 : xK S v0 7) (h : f_X7_unsay F P S v0 v1 D = some r) : xSp md_X7_unsay (3, 0, 0) [.ref v0, .int v1] (S, D) (xQi S r) := by
  unfold f_X7_unsay at h
  refine xEntry (by decide) (Nat.le_of_ble_eq_true rfl) ?_
  refine x_lv (lv' := [(0, .ref v0), (1, .int v1)]) [0, 1] rfl ?_
  refine x_aload_n dX7_unsay_0 0 rfl ?_
  refine y_geti fl_RX7_42 dX7_unsay_1 rfl k0 ?_
  refine x_iconst 2 dX7_unsay_4 (by decide) ?_
  refine x_icmp_ge 10 dX7_unsay_5 (by decide) (fun c => ?_) (fun c => ?_)
  · rw [if_pos c] at h
    refine x_aload_n dX7_unsay_10 0 rfl ?_
    refine y_getr (kd := 100) hS fl_RX7_15 dX7_unsay_11 rfl k0 ?_
    refine x_aload_n dX7_unsay_14 0 rfl ?_
    refine y_geti fl_RX7_42 dX7_unsay_15 rfl k0 ?_
    refine x_iconst 1 dX7_unsay_18 (by decide) ?_
    refine x_isub dX7_unsay_19 ?_
    refine xgrd_e h (fun g1 h => ?_)
    refine y_iald dX7_unsay_20 ((hS.f k0 1 100 rfl).2) g1 ?_
    refine xlet_e h (fun v2_2 ev2_2 h => ?_)
    refine y_istore_n v2_2 ev2_2 [(2, .int v2_2), (0, .ref v0), (1, .int v1)] dX7_unsay_21 (by show _ < 6; decide) rfl ?_
    refine x_aload_n dX7_unsay_22 1 rfl ?_
    refine y_getr (kd := 100) hS fl_RX7_15 dX7_unsay_23 rfl k0 ?_
    refine x_aload_n dX7_unsay_26 1 rfl ?_
    refine y_geti fl_RX7_42 dX7_unsay_27 rfl k0 ?_
    refine x_iconst 2 dX7_unsay_30 (by decide) ?_
    refine x_isub dX7_unsay_31 ?_
    refine xgrd_e h (fun g3 h => ?_)
    refine y_iald dX7_unsay_32 ((hS.f k0 1 100 rfl).2) g3 ?_
    refine xlet_e h (fun v3_4 ev3_4 h => ?_)
    refine y_istore_n v3_4 ev3_4 [(3, .int v3_4), (2, .int v2_2), (0, .ref v0), (1, .int v1)] dX7_unsay_33 (by show _ < 6; decide) rfl ?_
    refine x_aload_n dX7_unsay_34 2 rfl ?_
    refine x_dup dX7_unsay_35 rfl ?_
    refine y_geti fl_RX7_42 dX7_unsay_36 rfl k0 ?_
    refine x_iconst 1 dX7_unsay_39 (by decide) ?_
    refine x_isub dX7_unsay_40 ?_
    refine xlet_e h (fun D5 eD5 h => ?_)
    refine y_puti fp_RX7_42 dX7_unsay_41 rfl k0 eD5 ?_
    refine x_aload_n dX7_unsay_44 2 rfl ?_
    refine y_getr (kd := 2) hS fl_RX7_23 dX7_unsay_45 rfl k0 ?_
    refine x_iconst 0 dX7_unsay_48 (by decide) ?_
    refine xlet_e h (fun D6 eD6 h => ?_)
    refine y_puti fp_RX7_35 dX7_unsay_49 rfl ((hS.f k0 2 2 rfl).2) eD6 ?_
    refine x_iload_n dX7_unsay_52 3 rfl ?_
    refine x_bipush 91 dX7_unsay_53 (by decide) ?_
    refine x_icmp_eq 80 dX7_unsay_55 (by decide) (fun c => ?_) (fun c => ?_)
    · rw [if_pos c] at h
      refine x_lv (lv' := [(0, .ref v0), (2, .int v2_2), (3, .int v3_4)]) [2, 1, 0] rfl ?_
      exact t_X7_unsay_80 hS k0 h
    · rw [if_neg c] at h
      refine x_aload_n dX7_unsay_58 2 rfl ?_
      refine y_getr (kd := 2) hS fl_RX7_23 dX7_unsay_59 rfl k0 ?_
      refine x_bipush 126 dX7_unsay_62 (by decide) ?_
      refine xbnd_e h (fun q7 e7 h => ?_)
      refine y_callVi (As := [.int 126]) (q := q7) cv_RX7_72 dX7_unsay_64 ((hS.f k0 2 2 rfl).2) rfl (Nat.le_of_ble_eq_true rfl) (by omega) (S_X2_add hS ((hS.f k0 2 2 rfl).2) e7) ?_
      refine x_if_eq 84 dX7_unsay_67 (by decide) (fun c => ?_) (fun c => ?_)
      · rw [if_pos c] at h
        refine x_lv (lv' := [(0, .ref v0), (2, .int v2_2), (3, .int v3_4)]) [2, 1, 0] rfl ?_
        exact t_X7_unsay_84 hS k0 h
      · rw [if_neg c] at h
        refine x_aload_n dX7_unsay_70 2 rfl ?_
        refine x_bipush 126 dX7_unsay_71 (by decide) ?_
        refine x_iload_n dX7_unsay_73 1 rfl ?_
        refine xbnd_e h (fun q8 e8 h => ?_)
        refine y_callVi (As := [.int 126, .int v2_2]) (q := q8) cv_RX7_75 dX7_unsay_74 k0 rfl (Nat.le_of_ble_eq_true rfl) (by omega) (S_X7_push hS k0 e8) ?_
        refine x_if_eq 84 dX7_unsay_77 (by decide) (fun c => ?_) (fun c => ?_)
        · rw [if_pos c] at h
          refine x_lv (lv' := [(0, .ref v0), (2, .int v2_2), (3, .int v3_4)]) [2, 1, 0] rfl ?_
          exact t_X7_unsay_84 hS k0 h
        · rw [if_neg c] at h
          refine x_lv (lv' := [(0, .ref v0), (2, .int v2_2), (3, .int v3_4)]) [2, 1, 0] rfl ?_
          exact t_X7_unsay_80 hS k0 h
  · rw [if_neg c] at h
    refine x_iconst 0 dX7_unsay_8 (by decide) ?_
    obtain rfl := Option.some.inj h
    exact y_zret rfl rfl dX7_unsay_9

theorem dX7_place_0 : decode cX7_place 0 = .ok (.iload_n 1, 1) := by decide +kernel
theorem dX7_place_1 : decode cX7_place 1 = .ok (.invokestatic 56, 3) := by decide +kernel
theorem dX7_place_4 : decode cX7_place 4 = .ok (.istore_n 2, 1) := by decide +kernel
theorem dX7_place_5 : decode cX7_place 5 = .ok (.iload_n 2, 1) := by decide +kernel
theorem dX7_place_6 : decode cX7_place 6 = .ok (.invokestatic 60, 3) := by decide +kernel
theorem dX7_place_9 : decode cX7_place 9 = .ok (.ifCond .eq 9, 3) := by decide +kernel
theorem dX7_place_12 : decode cX7_place 12 = .ok (.aload_n 0, 1) := by decide +kernel
theorem dX7_place_13 : decode cX7_place 13 = .ok (.iload_n 2, 1) := by decide +kernel
theorem dX7_place_14 : decode cX7_place 14 = .ok (.invokevirtual 63, 3) := by decide +kernel
theorem dX7_place_17 : decode cX7_place 17 = .ok (.ireturn, 1) := by decide +kernel
theorem dX7_place_18 : decode cX7_place 18 = .ok (.aload_n 0, 1) := by decide +kernel
theorem dX7_place_19 : decode cX7_place 19 = .ok (.getfield 39, 3) := by decide +kernel
theorem dX7_place_22 : decode cX7_place 22 = .ok (.ifCond .gt 5, 3) := by decide +kernel
theorem dX7_place_25 : decode cX7_place 25 = .ok (.iconst 0, 1) := by decide +kernel
theorem dX7_place_26 : decode cX7_place 26 = .ok (.ireturn, 1) := by decide +kernel
theorem dX7_place_27 : decode cX7_place 27 = .ok (.iload_n 2, 1) := by decide +kernel
theorem dX7_place_28 : decode cX7_place 28 = .ok (.invokestatic 66, 3) := by decide +kernel
theorem dX7_place_31 : decode cX7_place 31 = .ok (.ifCond .eq 38, 3) := by decide +kernel
theorem dX7_place_34 : decode cX7_place 34 = .ok (.aload_n 0, 1) := by decide +kernel
theorem dX7_place_35 : decode cX7_place 35 = .ok (.getfield 42, 3) := by decide +kernel
theorem dX7_place_38 : decode cX7_place 38 = .ok (.aload_n 0, 1) := by decide +kernel
theorem dX7_place_39 : decode cX7_place 39 = .ok (.getfield 15, 3) := by decide +kernel
theorem dX7_place_42 : decode cX7_place 42 = .ok (.arraylength, 1) := by decide +kernel
theorem dX7_place_43 : decode cX7_place 43 = .ok (.if_icmp .ge 26, 3) := by decide +kernel
theorem dX7_place_46 : decode cX7_place 46 = .ok (.aload_n 0, 1) := by decide +kernel
theorem dX7_place_47 : decode cX7_place 47 = .ok (.getfield 15, 3) := by decide +kernel
theorem dX7_place_50 : decode cX7_place 50 = .ok (.aload_n 0, 1) := by decide +kernel
theorem dX7_place_51 : decode cX7_place 51 = .ok (.dup, 1) := by decide +kernel
theorem dX7_place_52 : decode cX7_place 52 = .ok (.getfield 42, 3) := by decide +kernel
theorem dX7_place_55 : decode cX7_place 55 = .ok (.dup_x1, 1) := by decide +kernel
theorem dX7_place_56 : decode cX7_place 56 = .ok (.iconst 1, 1) := by decide +kernel
theorem dX7_place_57 : decode cX7_place 57 = .ok (.iadd, 1) := by decide +kernel
theorem dX7_place_58 : decode cX7_place 58 = .ok (.putfield 42, 3) := by decide +kernel
theorem dX7_place_61 : decode cX7_place 61 = .ok (.aload_n 0, 1) := by decide +kernel
theorem dX7_place_62 : decode cX7_place 62 = .ok (.getfield 39, 3) := by decide +kernel
theorem dX7_place_65 : decode cX7_place 65 = .ok (.iastore, 1) := by decide +kernel
theorem dX7_place_66 : decode cX7_place 66 = .ok (.goto 28, 3) := by decide +kernel
theorem dX7_place_69 : decode cX7_place 69 = .ok (.iload_n 2, 1) := by decide +kernel
theorem dX7_place_70 : decode cX7_place 70 = .ok (.invokestatic 69, 3) := by decide +kernel
theorem dX7_place_73 : decode cX7_place 73 = .ok (.ifCond .eq 21, 3) := by decide +kernel
theorem dX7_place_76 : decode cX7_place 76 = .ok (.aload_n 0, 1) := by decide +kernel
theorem dX7_place_77 : decode cX7_place 77 = .ok (.getfield 42, 3) := by decide +kernel
theorem dX7_place_80 : decode cX7_place 80 = .ok (.iconst 2, 1) := by decide +kernel
theorem dX7_place_81 : decode cX7_place 81 = .ok (.if_icmp .lt 13, 3) := by decide +kernel
theorem dX7_place_84 : decode cX7_place 84 = .ok (.aload_n 0, 1) := by decide +kernel
theorem dX7_place_85 : decode cX7_place 85 = .ok (.dup, 1) := by decide +kernel
theorem dX7_place_86 : decode cX7_place 86 = .ok (.getfield 42, 3) := by decide +kernel
theorem dX7_place_89 : decode cX7_place 89 = .ok (.iconst 1, 1) := by decide +kernel
theorem dX7_place_90 : decode cX7_place 90 = .ok (.isub, 1) := by decide +kernel
theorem dX7_place_91 : decode cX7_place 91 = .ok (.putfield 42, 3) := by decide +kernel
theorem dX7_place_94 : decode cX7_place 94 = .ok (.aload_n 0, 1) := by decide +kernel
theorem dX7_place_95 : decode cX7_place 95 = .ok (.getfield 9, 3) := by decide +kernel
theorem dX7_place_98 : decode cX7_place 98 = .ok (.aload_n 0, 1) := by decide +kernel
theorem dX7_place_99 : decode cX7_place 99 = .ok (.dup, 1) := by decide +kernel
theorem dX7_place_100 : decode cX7_place 100 = .ok (.getfield 39, 3) := by decide +kernel
theorem dX7_place_103 : decode cX7_place 103 = .ok (.iconst 1, 1) := by decide +kernel
theorem dX7_place_104 : decode cX7_place 104 = .ok (.isub, 1) := by decide +kernel
theorem dX7_place_105 : decode cX7_place 105 = .ok (.dup_x1, 1) := by decide +kernel
theorem dX7_place_106 : decode cX7_place 106 = .ok (.putfield 39, 3) := by decide +kernel
theorem dX7_place_109 : decode cX7_place 109 = .ok (.iload_n 1, 1) := by decide +kernel
theorem dX7_place_110 : decode cX7_place 110 = .ok (.iastore, 1) := by decide +kernel
theorem dX7_place_111 : decode cX7_place 111 = .ok (.iconst 1, 1) := by decide +kernel
theorem dX7_place_112 : decode cX7_place 112 = .ok (.ireturn, 1) := by decide +kernel
def f_X7_place_94 (F P : Nat) (S : xSt) (v0 : Nat) (v1 : Int32) (D : xDt) : Option (Int32 × xDt) :=
  xlet (xup D.1 v0 3 ((D.1 v0 3) - 1), D.2) fun D1 => xgrd (xin ((D.1 v0 3) - 1) (xl S (xr S v0 0))) (xlet (xup D1.1 (xr S v0 0) ((D.1 v0 3) - 1).toNatClampNeg v1, D1.2) fun D3 => some (1, D3))
set_option maxHeartbeats 4000000 in
theorem t_X7_place_94 {F P : Nat} {S : xSt} (hS : xWF S) {v0 : Nat} {v1 : Int32} {D : xDt} {r : Int32 × xDt} (k0 : xK S v0 7) (h : f_X7_place_94 F P S v0 v1 D = some r) : yEx md_X7_place 4 94 [(0, .ref v0), (1, .int v1)] [] S D (xQi S r) := by
  unfold f_X7_place_94 at h
  refine x_aload_n dX7_place_94 0 rfl ?_
  refine y_getr (kd := 100) hS fl_RX7_9 dX7_place_95 rfl k0 ?_
  refine x_aload_n dX7_place_98 0 rfl ?_
  refine x_dup dX7_place_99 rfl ?_
  refine y_geti fl_RX7_39 dX7_place_100 rfl k0 ?_
  refine x_iconst 1 dX7_place_103 (by decide) ?_
  refine x_isub dX7_place_104 ?_
  refine x_dup_x1 dX7_place_105 rfl rfl ?_
  refine xlet_e h (fun D1 eD1 h => ?_)
  refine y_puti fp_RX7_39 dX7_place_106 rfl k0 eD1 ?_
  refine x_iload_n dX7_place_109 1 rfl ?_
  refine xgrd_e h (fun g2 h => ?_)
  refine xlet_e h (fun D3 eD3 h => ?_)
  refine y_iast dX7_place_110 ((hS.f k0 0 100 rfl).2) g2 eD3 ?_
  refine x_iconst 1 dX7_place_111 (by decide) ?_
  obtain rfl := Option.some.inj h
  exact y_zret rfl rfl dX7_place_112

def f_X7_place_69 (F P : Nat) (S : xSt) (v0 : Nat) (v1 : Int32) (v2 : Int32) (D : xDt) : Option (Int32 × xDt) :=
  (f_X11_isJoin F P S v2 D).bind fun q1 => if q1.1 = 0 then (f_X7_place_94 F P S v0 v1 q1.2) else (if (q1.2.1 v0 4) < 2 then (f_X7_place_94 F P S v0 v1 q1.2) else (xlet (xup q1.2.1 v0 4 ((q1.2.1 v0 4) - 1), q1.2.2) fun D2 => f_X7_place_94 F P S v0 v1 D2))
set_option maxHeartbeats 4000000 in
theorem t_X7_place_69 {F P : Nat} {S : xSt} (hS : xWF S) {v0 : Nat} {v1 : Int32} {v2 : Int32} {D : xDt} {r : Int32 × xDt} (k0 : xK S v0 7) (h : f_X7_place_69 F P S v0 v1 v2 D = some r) : yEx md_X7_place 4 69 [(0, .ref v0), (1, .int v1), (2, .int v2)] [] S D (xQi S r) := by
  unfold f_X7_place_69 at h
  refine x_iload_n dX7_place_69 2 rfl ?_
  refine xbnd_e h (fun q1 e1 h => ?_)
  refine y_callNi (As := [.int v2]) (q := q1) cn_RX7_69 dX7_place_70 rfl (Nat.le_of_ble_eq_true rfl) (by omega) (S_X11_isJoin hS e1) ?_
  refine x_if_eq 94 dX7_place_73 (by decide) (fun c => ?_) (fun c => ?_)
  · rw [if_pos c] at h
    refine x_lv (lv' := [(0, .ref v0), (1, .int v1)]) [0, 1] rfl ?_
    exact t_X7_place_94 hS k0 h
  · rw [if_neg c] at h
    refine x_aload_n dX7_place_76 0 rfl ?_
    refine y_geti fl_RX7_42 dX7_place_77 rfl k0 ?_
    refine x_iconst 2 dX7_place_80 (by decide) ?_
    refine x_icmp_lt 94 dX7_place_81 (by decide) (fun c => ?_) (fun c => ?_)
    · rw [if_pos c] at h
      refine x_lv (lv' := [(0, .ref v0), (1, .int v1)]) [0, 1] rfl ?_
      exact t_X7_place_94 hS k0 h
    · rw [if_neg c] at h
      refine x_aload_n dX7_place_84 0 rfl ?_
      refine x_dup dX7_place_85 rfl ?_
      refine y_geti fl_RX7_42 dX7_place_86 rfl k0 ?_
      refine x_iconst 1 dX7_place_89 (by decide) ?_
      refine x_isub dX7_place_90 ?_
      refine xlet_e h (fun D2 eD2 h => ?_)
      refine y_puti fp_RX7_42 dX7_place_91 rfl k0 eD2 ?_
      refine x_lv (lv' := [(0, .ref v0), (1, .int v1)]) [0, 1] rfl ?_
      exact t_X7_place_94 hS k0 h

def f_X7_place (F P : Nat) (S : xSt) (v0 : Nat) (v1 : Int32) (D : xDt) : Option (Int32 × xDt) :=
  (f_X11_signOf F P S v1 D).bind fun q1 => (f_X11_isSaying F P S q1.1 q1.2).bind fun q2 => if q2.1 = 0 then (if 0 < (q2.2.1 v0 3) then ((f_X11_isLeaf F P S q1.1 q2.2).bind fun q3 => if q3.1 = 0 then (f_X7_place_69 F P S v0 v1 q1.1 q3.2) else (if (Int32.ofNat (xl S (xr S v0 1))) ≤ (q3.2.1 v0 4) then (f_X7_place_69 F P S v0 v1 q1.1 q3.2) else (xlet (xup q3.2.1 v0 4 ((q3.2.1 v0 4) + 1), q3.2.2) fun D4 => xgrd (xin (q3.2.1 v0 4) (xl S (xr S v0 1))) (xlet (xup D4.1 (xr S v0 1) (q3.2.1 v0 4).toNatClampNeg (D4.1 v0 3), D4.2) fun D6 => f_X7_place_94 F P S v0 v1 D6)))) else (some (0, q2.2))) else ((f_X7_unsay F P S v0 q1.1 q2.2).bind fun q7 => xgrd (xb q7.1) (some (q7.1, q7.2)))
set_option maxHeartbeats 4000000 in
theorem S_X7_place {F P : Nat} {S : xSt} (hS : xWF S) {v0 : Nat} {v1 : Int32} {D : xDt} {r : Int32 × xDt} (k0 : xK S v0 7) (h : f_X7_place F P S v0 v1 D = some r) : xSp md_X7_place (4, 0, 0) [.ref v0, .int v1] (S, D) (xQi S r) := by
  unfold f_X7_place at h
  refine xEntry (by decide) (Nat.le_of_ble_eq_true rfl) ?_
  refine x_lv (lv' := [(0, .ref v0), (1, .int v1)]) [0, 1] rfl ?_
  refine x_iload_n dX7_place_0 1 rfl ?_
  refine xbnd_e h (fun q1 e1 h => ?_)
  refine y_callNi (As := [.int v1]) (q := q1) cn_RX7_56 dX7_place_1 rfl (Nat.le_of_ble_eq_true rfl) (by omega) (S_X11_signOf hS e1) ?_
  refine y_istore_n q1.1 rfl [(2, .int q1.1), (0, .ref v0), (1, .int v1)] dX7_place_4 (by show _ < 3; decide) rfl ?_
  refine x_iload_n dX7_place_5 0 rfl ?_
  refine xbnd_e h (fun q2 e2 h => ?_)
  refine y_callNi (As := [.int q1.1]) (q := q2) cn_RX7_60 dX7_place_6 rfl (Nat.le_of_ble_eq_true rfl) (by omega) (S_X11_isSaying hS e2) ?_
  refine x_if_eq 18 dX7_place_9 (by decide) (fun c => ?_) (fun c => ?_)
  · rw [if_pos c] at h
    refine x_aload_n dX7_place_18 1 rfl ?_
    refine y_geti fl_RX7_39 dX7_place_19 rfl k0 ?_
    refine x_if_gt 27 dX7_place_22 (by decide) (fun c => ?_) (fun c => ?_)
    · rw [if_pos c] at h
      refine x_iload_n dX7_place_27 0 rfl ?_
      refine xbnd_e h (fun q3 e3 h => ?_)
      refine y_callNi (As := [.int q1.1]) (q := q3) cn_RX7_66 dX7_place_28 rfl (Nat.le_of_ble_eq_true rfl) (by omega) (S_X11_isLeaf hS e3) ?_
      refine x_if_eq 69 dX7_place_31 (by decide) (fun c => ?_) (fun c => ?_)
      · rw [if_pos c] at h
        refine x_lv (lv' := [(0, .ref v0), (1, .int v1), (2, .int q1.1)]) [1, 2, 0] rfl ?_
        exact t_X7_place_69 hS k0 h
      · rw [if_neg c] at h
        refine x_aload_n dX7_place_34 1 rfl ?_
        refine y_geti fl_RX7_42 dX7_place_35 rfl k0 ?_
        refine x_aload_n dX7_place_38 1 rfl ?_
        refine y_getr (kd := 100) hS fl_RX7_15 dX7_place_39 rfl k0 ?_
        refine y_alen dX7_place_42 ((hS.f k0 1 100 rfl).2) (by decide) ?_
        refine x_icmp_ge 69 dX7_place_43 (by decide) (fun c => ?_) (fun c => ?_)
        · rw [if_pos c] at h
          refine x_lv (lv' := [(0, .ref v0), (1, .int v1), (2, .int q1.1)]) [1, 2, 0] rfl ?_
          exact t_X7_place_69 hS k0 h
        · rw [if_neg c] at h
          refine x_aload_n dX7_place_46 1 rfl ?_
          refine y_getr (kd := 100) hS fl_RX7_15 dX7_place_47 rfl k0 ?_
          refine x_aload_n dX7_place_50 1 rfl ?_
          refine x_dup dX7_place_51 rfl ?_
          refine y_geti fl_RX7_42 dX7_place_52 rfl k0 ?_
          refine x_dup_x1 dX7_place_55 rfl rfl ?_
          refine x_iconst 1 dX7_place_56 (by decide) ?_
          refine x_iadd dX7_place_57 ?_
          refine xlet_e h (fun D4 eD4 h => ?_)
          refine y_puti fp_RX7_42 dX7_place_58 rfl k0 eD4 ?_
          refine x_aload_n dX7_place_61 1 rfl ?_
          refine y_geti fl_RX7_39 dX7_place_62 rfl k0 ?_
          refine xgrd_e h (fun g5 h => ?_)
          refine xlet_e h (fun D6 eD6 h => ?_)
          refine y_iast dX7_place_65 ((hS.f k0 1 100 rfl).2) g5 eD6 ?_
          refine x_goto 94 dX7_place_66 (by decide) ?_
          refine x_lv (lv' := [(0, .ref v0), (1, .int v1)]) [1, 2] rfl ?_
          exact t_X7_place_94 hS k0 h
    · rw [if_neg c] at h
      refine x_iconst 0 dX7_place_25 (by decide) ?_
      obtain rfl := Option.some.inj h
      exact y_zret rfl rfl dX7_place_26
  · rw [if_neg c] at h
    refine x_aload_n dX7_place_12 1 rfl ?_
    refine x_iload_n dX7_place_13 0 rfl ?_
    refine xbnd_e h (fun q7 e7 h => ?_)
    refine y_callVi (As := [.int q1.1]) (q := q7) cv_RX7_63 dX7_place_14 k0 rfl (Nat.le_of_ble_eq_true rfl) (by omega) (S_X7_unsay hS k0 e7) ?_
    refine xgrd_e h (fun g8 h => ?_)
    obtain rfl := Option.some.inj h
    exact y_zret rfl g8 dX7_place_17

theorem dX7_apply_0 : decode cX7_apply 0 = .ok (.aload_n 1, 1) := by decide +kernel
theorem dX7_apply_1 : decode cX7_apply 1 = .ok (.ldc 27, 2) := by decide +kernel
theorem dX7_apply_3 : decode cX7_apply 3 = .ok (.invokevirtual 29, 3) := by decide +kernel
theorem dX7_apply_6 : decode cX7_apply 6 = .ok (.ifCond .eq 5, 3) := by decide +kernel
theorem dX7_apply_9 : decode cX7_apply 9 = .ok (.iconst (-1), 1) := by decide +kernel
theorem dX7_apply_10 : decode cX7_apply 10 = .ok (.ireturn, 1) := by decide +kernel
theorem dX7_apply_11 : decode cX7_apply 11 = .ok (.aload_n 1, 1) := by decide +kernel
theorem dX7_apply_12 : decode cX7_apply 12 = .ok (.ldc 33, 2) := by decide +kernel
theorem dX7_apply_14 : decode cX7_apply 14 = .ok (.invokevirtual 29, 3) := by decide +kernel
theorem dX7_apply_17 : decode cX7_apply 17 = .ok (.ifCond .ne 8, 3) := by decide +kernel
theorem dX7_apply_20 : decode cX7_apply 20 = .ok (.aload_n 1, 1) := by decide +kernel
theorem dX7_apply_21 : decode cX7_apply 21 = .ok (.getfield 35, 3) := by decide +kernel
theorem dX7_apply_24 : decode cX7_apply 24 = .ok (.ireturn, 1) := by decide +kernel
theorem dX7_apply_25 : decode cX7_apply 25 = .ok (.aload_n 0, 1) := by decide +kernel
theorem dX7_apply_26 : decode cX7_apply 26 = .ok (.sipush 2000, 3) := by decide +kernel
theorem dX7_apply_29 : decode cX7_apply 29 = .ok (.putfield 39, 3) := by decide +kernel
theorem dX7_apply_32 : decode cX7_apply 32 = .ok (.aload_n 0, 1) := by decide +kernel
theorem dX7_apply_33 : decode cX7_apply 33 = .ok (.iconst 0, 1) := by decide +kernel
theorem dX7_apply_34 : decode cX7_apply 34 = .ok (.putfield 42, 3) := by decide +kernel
theorem dX7_apply_37 : decode cX7_apply 37 = .ok (.aload_n 1, 1) := by decide +kernel
theorem dX7_apply_38 : decode cX7_apply 38 = .ok (.getfield 35, 3) := by decide +kernel
theorem dX7_apply_41 : decode cX7_apply 41 = .ok (.iconst 1, 1) := by decide +kernel
theorem dX7_apply_42 : decode cX7_apply 42 = .ok (.isub, 1) := by decide +kernel
theorem dX7_apply_43 : decode cX7_apply 43 = .ok (.istore_n 2, 1) := by decide +kernel
theorem dX7_apply_44 : decode cX7_apply 44 = .ok (.iload_n 2, 1) := by decide +kernel
theorem dX7_apply_45 : decode cX7_apply 45 = .ok (.ifCond .lt 25, 3) := by decide +kernel
theorem dX7_apply_48 : decode cX7_apply 48 = .ok (.aload_n 0, 1) := by decide +kernel
theorem dX7_apply_49 : decode cX7_apply 49 = .ok (.aload_n 1, 1) := by decide +kernel
theorem dX7_apply_50 : decode cX7_apply 50 = .ok (.getfield 45, 3) := by decide +kernel
theorem dX7_apply_53 : decode cX7_apply 53 = .ok (.iload_n 2, 1) := by decide +kernel
theorem dX7_apply_54 : decode cX7_apply 54 = .ok (.iaload, 1) := by decide +kernel
theorem dX7_apply_55 : decode cX7_apply 55 = .ok (.invokevirtual 48, 3) := by decide +kernel
theorem dX7_apply_58 : decode cX7_apply 58 = .ok (.ifCond .ne 6, 3) := by decide +kernel
theorem dX7_apply_61 : decode cX7_apply 61 = .ok (.bipush (-3), 2) := by decide +kernel
theorem dX7_apply_63 : decode cX7_apply 63 = .ok (.ireturn, 1) := by decide +kernel
theorem dX7_apply_64 : decode cX7_apply 64 = .ok (.iinc 2 (-1), 3) := by decide +kernel
theorem dX7_apply_67 : decode cX7_apply 67 = .ok (.goto (-23), 3) := by decide +kernel
theorem dX7_apply_70 : decode cX7_apply 70 = .ok (.aload_n 1, 1) := by decide +kernel
theorem dX7_apply_71 : decode cX7_apply 71 = .ok (.iconst 0, 1) := by decide +kernel
theorem dX7_apply_72 : decode cX7_apply 72 = .ok (.putfield 35, 3) := by decide +kernel
theorem dX7_apply_75 : decode cX7_apply 75 = .ok (.aload_n 1, 1) := by decide +kernel
theorem dX7_apply_76 : decode cX7_apply 76 = .ok (.aload_n 0, 1) := by decide +kernel
theorem dX7_apply_77 : decode cX7_apply 77 = .ok (.getfield 9, 3) := by decide +kernel
theorem dX7_apply_80 : decode cX7_apply 80 = .ok (.aload_n 0, 1) := by decide +kernel
theorem dX7_apply_81 : decode cX7_apply 81 = .ok (.getfield 39, 3) := by decide +kernel
theorem dX7_apply_84 : decode cX7_apply 84 = .ok (.sipush 2000, 3) := by decide +kernel
theorem dX7_apply_87 : decode cX7_apply 87 = .ok (.invokevirtual 52, 3) := by decide +kernel
theorem dX7_apply_90 : decode cX7_apply 90 = .ok (.pop, 1) := by decide +kernel
theorem dX7_apply_91 : decode cX7_apply 91 = .ok (.aload_n 1, 1) := by decide +kernel
theorem dX7_apply_92 : decode cX7_apply 92 = .ok (.getfield 35, 3) := by decide +kernel
theorem dX7_apply_95 : decode cX7_apply 95 = .ok (.ireturn, 1) := by decide +kernel
def f_X7_apply_44s (F P : Nat) (S : xSt) (rec_44 : Nat → Nat → Int32 → xDt → Option (Int32 × xDt)) (v0 : Nat) (v1 : Nat) (v2 : Int32) (D : xDt) : Option (Int32 × xDt) :=
  if v2 < 0 then (xlet (xup D.1 v1 1 0, D.2) fun D1 => (f_X2_addAll F P S v1 (xr S v0 0) (D1.1 v0 3) 2000 D1).bind fun q2 => some (q2.2.1 v1 1, q2.2)) else (xgrd (xin v2 (xl S (xr S v1 0))) ((f_X7_place F P S v0 (D.1 (xr S v1 0) (v2).toNatClampNeg) D).bind fun q4 => if q4.1 = 0 then (some ((-3), q4.2)) else (xlet (v2 + (-1)) fun v2_5 => rec_44 v0 v1 v2_5 q4.2)))
def f_X7_apply_44 (F P : Nat) (S : xSt) : Nat → Nat → Nat → Int32 → xDt → Option (Int32 × xDt)
  | 0 => fun _ _ _ _ => none
  | n + 1 => f_X7_apply_44s F P S (f_X7_apply_44 F P S n)
set_option maxHeartbeats 4000000 in
theorem t_X7_apply_44s {F P : Nat} {S : xSt} (hS : xWF S) {rec_44 : Nat → Nat → Int32 → xDt → Option (Int32 × xDt)} (hrec_44 : ∀ {v0 : Nat} {v1 : Nat} {v2 : Int32} {D : xDt} {r : Int32 × xDt}, xK S v0 7 → xK S v1 2 → rec_44 v0 v1 v2 D = some r → yEx md_X7_apply 5 44 [(0, .ref v0), (1, .ref v1), (2, .int v2)] [] S D (xQi S r)) {v0 : Nat} {v1 : Nat} {v2 : Int32} {D : xDt} {r : Int32 × xDt} (k0 : xK S v0 7) (k1 : xK S v1 2) (h : f_X7_apply_44s F P S rec_44 v0 v1 v2 D = some r) : yEx md_X7_apply 5 44 [(0, .ref v0), (1, .ref v1), (2, .int v2)] [] S D (xQi S r) := by
  unfold f_X7_apply_44s at h
  refine x_iload_n dX7_apply_44 2 rfl ?_
  refine x_if_lt 70 dX7_apply_45 (by decide) (fun c => ?_) (fun c => ?_)
  · rw [if_pos c] at h
    refine x_aload_n dX7_apply_70 1 rfl ?_
    refine x_iconst 0 dX7_apply_71 (by decide) ?_
    refine xlet_e h (fun D1 eD1 h => ?_)
    refine y_puti fp_RX7_35 dX7_apply_72 rfl k1 eD1 ?_
    refine x_aload_n dX7_apply_75 1 rfl ?_
    refine x_aload_n dX7_apply_76 0 rfl ?_
    refine y_getr (kd := 100) hS fl_RX7_9 dX7_apply_77 rfl k0 ?_
    refine x_aload_n dX7_apply_80 0 rfl ?_
    refine y_geti fl_RX7_39 dX7_apply_81 rfl k0 ?_
    refine x_sipush 2000 dX7_apply_84 (by decide) ?_
    refine xbnd_e h (fun q2 e2 h => ?_)
    refine y_callVi (As := [.ref (xr S v0 0), .int (D1.1 v0 3), .int 2000]) (q := q2) cv_RX7_52 dX7_apply_87 k1 rfl (Nat.le_of_ble_eq_true rfl) (by omega) (S_X2_addAll hS k1 ((hS.f k0 0 100 rfl).2) e2) ?_
    refine x_pop dX7_apply_90 rfl ?_
    refine x_aload_n dX7_apply_91 1 rfl ?_
    refine y_geti fl_RX7_35 dX7_apply_92 rfl k1 ?_
    obtain rfl := Option.some.inj h
    exact y_iret rfl dX7_apply_95
  · rw [if_neg c] at h
    refine x_aload_n dX7_apply_48 0 rfl ?_
    refine x_aload_n dX7_apply_49 1 rfl ?_
    refine y_getr (kd := 100) hS fl_RX7_45 dX7_apply_50 rfl k1 ?_
    refine x_iload_n dX7_apply_53 2 rfl ?_
    refine xgrd_e h (fun g3 h => ?_)
    refine y_iald dX7_apply_54 ((hS.f k1 0 100 rfl).2) g3 ?_
    refine xbnd_e h (fun q4 e4 h => ?_)
    refine y_callVi (As := [.int (D.1 (xr S v1 0) (v2).toNatClampNeg)]) (q := q4) cv_RX7_48 dX7_apply_55 k0 rfl (Nat.le_of_ble_eq_true rfl) (by omega) (S_X7_place hS k0 e4) ?_
    refine x_if_ne 64 dX7_apply_58 (by decide) (fun c => ?_) (fun c => ?_)
    · rw [if_neg c] at h
      refine xlet_e h (fun v2_5 ev2_5 h => ?_)
      refine y_iinc v2_5 ev2_5 (by decide) [(2, .int v2_5), (0, .ref v0), (1, .ref v1)] dX7_apply_64 2 rfl (by show _ < 3; decide) rfl ?_
      refine x_goto 44 dX7_apply_67 (by decide) ?_
      refine x_lv (lv' := [(0, .ref v0), (1, .ref v1), (2, .int v2_5)]) [1, 2, 0] rfl ?_
      exact hrec_44 k0 k1 h
    · rw [if_pos c] at h
      refine x_bipush (-3) dX7_apply_61 (by decide) ?_
      obtain rfl := Option.some.inj h
      exact y_iret rfl dX7_apply_63
theorem t_X7_apply_44 {F P : Nat} {S : xSt} (hS : xWF S) : ∀ (n : Nat) {v0 : Nat} {v1 : Nat} {v2 : Int32} {D : xDt} {r : Int32 × xDt}, xK S v0 7 → xK S v1 2 → f_X7_apply_44 F P S n v0 v1 v2 D = some r → yEx md_X7_apply 5 44 [(0, .ref v0), (1, .ref v1), (2, .int v2)] [] S D (xQi S r) := by
  intro n
  induction n with
  | zero => intros; rename_i h; cases h
  | succ n ih =>
    intro v0 v1 v2 D r k0 k1 h
    exact t_X7_apply_44s hS (fun k0 k1 h => ih k0 k1 h) k0 k1 h

def f_X7_apply (F P : Nat) (S : xSt) (v0 : Nat) (v1 : Nat) (D : xDt) : Option (Int32 × xDt) :=
  (f_X2_hasAny F P S v1 0 D).bind fun q1 => if q1.1 = 0 then ((f_X2_hasAny F P S v1 1 q1.2).bind fun q2 => if q2.1 = 0 then (some (q2.2.1 v1 1, q2.2)) else (xlet (xup q2.2.1 v0 3 2000, q2.2.2) fun D3 => xlet (xup D3.1 v0 4 0, D3.2) fun D4 => xlet ((D4.1 v1 1) - 1) fun v2_5 => f_X7_apply_44 F P S F v0 v1 v2_5 D4)) else (some ((-1), q1.2))
set_option maxHeartbeats 4000000 in
theorem S_X7_apply {F P : Nat} {S : xSt} (hS : xWF S) {v0 : Nat} {v1 : Nat} {D : xDt} {r : Int32 × xDt} (k0 : xK S v0 7) (k1 : xK S v1 2) (h : f_X7_apply F P S v0 v1 D = some r) : xSp md_X7_apply (5, 0, 0) [.ref v0, .ref v1] (S, D) (xQi S r) := by
  unfold f_X7_apply at h
  refine xEntry (by decide) (Nat.le_of_ble_eq_true rfl) ?_
  refine x_lv (lv' := [(0, .ref v0), (1, .ref v1)]) [0, 1] rfl ?_
  refine x_aload_n dX7_apply_0 1 rfl ?_
  refine y_ldcS 0 (by decide) rfl rfl dX7_apply_1 ?_
  refine xbnd_e h (fun q1 e1 h => ?_)
  refine y_callVi (As := [.float (xsS 0)]) (q := q1) cv_RX7_29 dX7_apply_3 k1 rfl (Nat.le_of_ble_eq_true rfl) (by omega) (S_X2_hasAny hS k1 (by decide) e1) ?_
  refine x_if_eq 11 dX7_apply_6 (by decide) (fun c => ?_) (fun c => ?_)
  · rw [if_pos c] at h
    refine x_aload_n dX7_apply_11 1 rfl ?_
    refine y_ldcS 1 (by decide) rfl rfl dX7_apply_12 ?_
    refine xbnd_e h (fun q2 e2 h => ?_)
    refine y_callVi (As := [.float (xsS 1)]) (q := q2) cv_RX7_29 dX7_apply_14 k1 rfl (Nat.le_of_ble_eq_true rfl) (by omega) (S_X2_hasAny hS k1 (by decide) e2) ?_
    refine x_if_ne 25 dX7_apply_17 (by decide) (fun c => ?_) (fun c => ?_)
    · rw [if_neg c] at h
      refine x_aload_n dX7_apply_25 0 rfl ?_
      refine x_sipush 2000 dX7_apply_26 (by decide) ?_
      refine xlet_e h (fun D3 eD3 h => ?_)
      refine y_puti fp_RX7_39 dX7_apply_29 rfl k0 eD3 ?_
      refine x_aload_n dX7_apply_32 0 rfl ?_
      refine x_iconst 0 dX7_apply_33 (by decide) ?_
      refine xlet_e h (fun D4 eD4 h => ?_)
      refine y_puti fp_RX7_42 dX7_apply_34 rfl k0 eD4 ?_
      refine x_aload_n dX7_apply_37 1 rfl ?_
      refine y_geti fl_RX7_35 dX7_apply_38 rfl k1 ?_
      refine x_iconst 1 dX7_apply_41 (by decide) ?_
      refine x_isub dX7_apply_42 ?_
      refine xlet_e h (fun v2_5 ev2_5 h => ?_)
      refine y_istore_n v2_5 ev2_5 [(2, .int v2_5), (0, .ref v0), (1, .ref v1)] dX7_apply_43 (by show _ < 3; decide) rfl ?_
      refine x_lv (lv' := [(0, .ref v0), (1, .ref v1), (2, .int v2_5)]) [1, 2, 0] rfl ?_
      exact t_X7_apply_44 hS F k0 k1 h
    · rw [if_pos c] at h
      refine x_aload_n dX7_apply_20 1 rfl ?_
      refine y_geti fl_RX7_35 dX7_apply_21 rfl k1 ?_
      obtain rfl := Option.some.inj h
      exact y_iret rfl dX7_apply_24
  · rw [if_neg c] at h
    refine x_iconst (-1) dX7_apply_9 (by decide) ?_
    obtain rfl := Option.some.inj h
    exact y_iret rfl dX7_apply_10

theorem dX9_put_0 : decode cX9_put 0 = .ok (.aload_n 0, 1) := by decide +kernel
theorem dX9_put_1 : decode cX9_put 1 = .ok (.getfield 19, 3) := by decide +kernel
theorem dX9_put_4 : decode cX9_put 4 = .ok (.sipush 4000, 3) := by decide +kernel
theorem dX9_put_7 : decode cX9_put 7 = .ok (.if_icmp .ge 21, 3) := by decide +kernel
theorem dX9_put_10 : decode cX9_put 10 = .ok (.aload_n 0, 1) := by decide +kernel
theorem dX9_put_11 : decode cX9_put 11 = .ok (.getfield 11, 3) := by decide +kernel
theorem dX9_put_14 : decode cX9_put 14 = .ok (.aload_n 0, 1) := by decide +kernel
theorem dX9_put_15 : decode cX9_put 15 = .ok (.dup, 1) := by decide +kernel
theorem dX9_put_16 : decode cX9_put 16 = .ok (.getfield 19, 3) := by decide +kernel
theorem dX9_put_19 : decode cX9_put 19 = .ok (.dup_x1, 1) := by decide +kernel
theorem dX9_put_20 : decode cX9_put 20 = .ok (.iconst 1, 1) := by decide +kernel
theorem dX9_put_21 : decode cX9_put 21 = .ok (.iadd, 1) := by decide +kernel
theorem dX9_put_22 : decode cX9_put 22 = .ok (.putfield 19, 3) := by decide +kernel
theorem dX9_put_25 : decode cX9_put 25 = .ok (.iload_n 1, 1) := by decide +kernel
theorem dX9_put_26 : decode cX9_put 26 = .ok (.i2c, 1) := by decide +kernel
theorem dX9_put_27 : decode cX9_put 27 = .ok (.castore, 1) := by decide +kernel
theorem dX9_put_28 : decode cX9_put 28 = .ok (.return_, 1) := by decide +kernel
def f_X9_put (F P : Nat) (S : xSt) (v0 : Nat) (v1 : Int32) (D : xDt) : Option (xDt) :=
  if 4000 ≤ (D.1 v0 1) then (some D) else (xlet (xup D.1 v0 1 ((D.1 v0 1) + 1), D.2) fun D1 => xgrd (xin (D.1 v0 1) (xl S (xr S v0 0))) (xlet (xup D1.1 (xr S v0 0) (D.1 v0 1).toNatClampNeg (ji2c (ji2c v1)), D1.2) fun D3 => some D3))
set_option maxHeartbeats 4000000 in
theorem S_X9_put {F P : Nat} {S : xSt} (hS : xWF S) {v0 : Nat} {v1 : Int32} {D : xDt} {r : xDt} (k0 : xK S v0 9) (h : f_X9_put F P S v0 v1 D = some r) : xSp md_X9_put (0, 0, 0) [.ref v0, .int v1] (S, D) (xQv S r) := by
  unfold f_X9_put at h
  refine xEntry (by decide) (Nat.le_of_ble_eq_true rfl) ?_
  refine x_lv (lv' := [(0, .ref v0), (1, .int v1)]) [0, 1] rfl ?_
  refine x_aload_n dX9_put_0 0 rfl ?_
  refine y_geti fl_RX9_19 dX9_put_1 rfl k0 ?_
  refine x_sipush 4000 dX9_put_4 (by decide) ?_
  refine x_icmp_ge 28 dX9_put_7 (by decide) (fun c => ?_) (fun c => ?_)
  · rw [if_pos c] at h
    obtain rfl := Option.some.inj h
    exact y_vret rfl dX9_put_28
  · rw [if_neg c] at h
    refine x_aload_n dX9_put_10 0 rfl ?_
    refine y_getr (kd := 102) hS fl_RX9_11 dX9_put_11 rfl k0 ?_
    refine x_aload_n dX9_put_14 0 rfl ?_
    refine x_dup dX9_put_15 rfl ?_
    refine y_geti fl_RX9_19 dX9_put_16 rfl k0 ?_
    refine x_dup_x1 dX9_put_19 rfl rfl ?_
    refine x_iconst 1 dX9_put_20 (by decide) ?_
    refine x_iadd dX9_put_21 ?_
    refine xlet_e h (fun D1 eD1 h => ?_)
    refine y_puti fp_RX9_19 dX9_put_22 rfl k0 eD1 ?_
    refine x_iload_n dX9_put_25 1 rfl ?_
    refine x_i2c dX9_put_26 ?_
    refine xgrd_e h (fun g2 h => ?_)
    refine xlet_e h (fun D3 eD3 h => ?_)
    refine y_cast dX9_put_27 ((hS.f k0 0 102 rfl).2) g2 eD3 ?_
    obtain rfl := Option.some.inj h
    exact y_vret rfl dX9_put_28

theorem dX9_finish_0 : decode cX9_finish 0 = .ok (.aload_n 0, 1) := by decide +kernel
theorem dX9_finish_1 : decode cX9_finish 1 = .ok (.getfield 23, 3) := by decide +kernel
theorem dX9_finish_4 : decode cX9_finish 4 = .ok (.iconst 1, 1) := by decide +kernel
theorem dX9_finish_5 : decode cX9_finish 5 = .ok (.isub, 1) := by decide +kernel
theorem dX9_finish_6 : decode cX9_finish 6 = .ok (.istore_n 1, 1) := by decide +kernel
theorem dX9_finish_7 : decode cX9_finish 7 = .ok (.iload_n 1, 1) := by decide +kernel
theorem dX9_finish_8 : decode cX9_finish 8 = .ok (.ifCond .lt 93, 3) := by decide +kernel
theorem dX9_finish_11 : decode cX9_finish 11 = .ok (.aload_n 0, 1) := by decide +kernel
theorem dX9_finish_12 : decode cX9_finish 12 = .ok (.getfield 15, 3) := by decide +kernel
theorem dX9_finish_15 : decode cX9_finish 15 = .ok (.iload_n 1, 1) := by decide +kernel
theorem dX9_finish_16 : decode cX9_finish 16 = .ok (.iaload, 1) := by decide +kernel
theorem dX9_finish_17 : decode cX9_finish 17 = .ok (.istore_n 2, 1) := by decide +kernel
theorem dX9_finish_18 : decode cX9_finish 18 = .ok (.iload_n 2, 1) := by decide +kernel
theorem dX9_finish_19 : decode cX9_finish 19 = .ok (.invokestatic 32, 3) := by decide +kernel
theorem dX9_finish_22 : decode cX9_finish 22 = .ok (.istore_n 3, 1) := by decide +kernel
theorem dX9_finish_23 : decode cX9_finish 23 = .ok (.iload_n 3, 1) := by decide +kernel
theorem dX9_finish_24 : decode cX9_finish 24 = .ok (.invokestatic 65, 3) := by decide +kernel
theorem dX9_finish_27 : decode cX9_finish 27 = .ok (.ifCond .eq 55, 3) := by decide +kernel
theorem dX9_finish_30 : decode cX9_finish 30 = .ok (.iload_n 2, 1) := by decide +kernel
theorem dX9_finish_31 : decode cX9_finish 31 = .ok (.ldc 64, 2) := by decide +kernel
theorem dX9_finish_33 : decode cX9_finish 33 = .ok (.iand, 1) := by decide +kernel
theorem dX9_finish_34 : decode cX9_finish 34 = .ok (.ifCond .ne 48, 3) := by decide +kernel
theorem dX9_finish_37 : decode cX9_finish 37 = .ok (.aload_n 0, 1) := by decide +kernel
theorem dX9_finish_38 : decode cX9_finish 38 = .ok (.iload_n 3, 1) := by decide +kernel
theorem dX9_finish_39 : decode cX9_finish 39 = .ok (.bipush 91, 2) := by decide +kernel
theorem dX9_finish_41 : decode cX9_finish 41 = .ok (.if_icmp .ne 8, 3) := by decide +kernel
theorem dX9_finish_44 : decode cX9_finish 44 = .ok (.bipush 93, 2) := by decide +kernel
theorem dX9_finish_46 : decode cX9_finish 46 = .ok (.goto 15, 3) := by decide +kernel
theorem dX9_finish_49 : decode cX9_finish 49 = .ok (.iload_n 3, 1) := by decide +kernel
theorem dX9_finish_50 : decode cX9_finish 50 = .ok (.bipush 123, 2) := by decide +kernel
theorem dX9_finish_52 : decode cX9_finish 52 = .ok (.if_icmp .ne 8, 3) := by decide +kernel
theorem dX9_finish_55 : decode cX9_finish 55 = .ok (.bipush 125, 2) := by decide +kernel
theorem dX9_finish_57 : decode cX9_finish 57 = .ok (.goto 4, 3) := by decide +kernel
theorem dX9_finish_60 : decode cX9_finish 60 = .ok (.iload_n 3, 1) := by decide +kernel
theorem dX9_finish_61 : decode cX9_finish 61 = .ok (.invokevirtual 40, 3) := by decide +kernel
theorem dX9_finish_64 : decode cX9_finish 64 = .ok (.aload_n 0, 1) := by decide +kernel
theorem dX9_finish_65 : decode cX9_finish 65 = .ok (.getfield 15, 3) := by decide +kernel
theorem dX9_finish_68 : decode cX9_finish 68 = .ok (.iload_n 1, 1) := by decide +kernel
theorem dX9_finish_69 : decode cX9_finish 69 = .ok (.iload_n 2, 1) := by decide +kernel
theorem dX9_finish_70 : decode cX9_finish 70 = .ok (.ldc 64, 2) := by decide +kernel
theorem dX9_finish_72 : decode cX9_finish 72 = .ok (.ior, 1) := by decide +kernel
theorem dX9_finish_73 : decode cX9_finish 73 = .ok (.iastore, 1) := by decide +kernel
theorem dX9_finish_74 : decode cX9_finish 74 = .ok (.aload_n 0, 1) := by decide +kernel
theorem dX9_finish_75 : decode cX9_finish 75 = .ok (.iload_n 1, 1) := by decide +kernel
theorem dX9_finish_76 : decode cX9_finish 76 = .ok (.iconst 1, 1) := by decide +kernel
theorem dX9_finish_77 : decode cX9_finish 77 = .ok (.iadd, 1) := by decide +kernel
theorem dX9_finish_78 : decode cX9_finish 78 = .ok (.putfield 23, 3) := by decide +kernel
theorem dX9_finish_81 : decode cX9_finish 81 = .ok (.return_, 1) := by decide +kernel
theorem dX9_finish_82 : decode cX9_finish 82 = .ok (.iload_n 2, 1) := by decide +kernel
theorem dX9_finish_83 : decode cX9_finish 83 = .ok (.ldc 60, 2) := by decide +kernel
theorem dX9_finish_85 : decode cX9_finish 85 = .ok (.iand, 1) := by decide +kernel
theorem dX9_finish_86 : decode cX9_finish 86 = .ok (.ifCond .eq 9, 3) := by decide +kernel
theorem dX9_finish_89 : decode cX9_finish 89 = .ok (.aload_n 0, 1) := by decide +kernel
theorem dX9_finish_90 : decode cX9_finish 90 = .ok (.bipush 41, 2) := by decide +kernel
theorem dX9_finish_92 : decode cX9_finish 92 = .ok (.invokevirtual 40, 3) := by decide +kernel
theorem dX9_finish_95 : decode cX9_finish 95 = .ok (.iinc 1 (-1), 3) := by decide +kernel
theorem dX9_finish_98 : decode cX9_finish 98 = .ok (.goto (-91), 3) := by decide +kernel
theorem dX9_finish_101 : decode cX9_finish 101 = .ok (.aload_n 0, 1) := by decide +kernel
theorem dX9_finish_102 : decode cX9_finish 102 = .ok (.iconst 0, 1) := by decide +kernel
theorem dX9_finish_103 : decode cX9_finish 103 = .ok (.putfield 23, 3) := by decide +kernel
theorem dX9_finish_106 : decode cX9_finish 106 = .ok (.return_, 1) := by decide +kernel
def f_X9_finish_61 (F P : Nat) (S : xSt) (v0 : Nat) (v1 : Int32) (v2 : Int32) (s0 : Int32) (s1 : Nat) (D : xDt) : Option (xDt) :=
  (f_X9_put F P S s1 s0 D).bind fun q1 => xgrd (xin v1 (xl S (xr S v0 2))) (xlet (xup q1.1 (xr S v0 2) (v1).toNatClampNeg (v2 ||| 65536), q1.2) fun D3 => xlet (xup D3.1 v0 3 (v1 + 1), D3.2) fun D4 => some D4)
set_option maxHeartbeats 4000000 in
theorem t_X9_finish_61 {F P : Nat} {S : xSt} (hS : xWF S) {v0 : Nat} {v1 : Int32} {v2 : Int32} {s0 : Int32} {s1 : Nat} {D : xDt} {r : xDt} (k0 : xK S v0 9) (ks1 : xK S s1 9) (h : f_X9_finish_61 F P S v0 v1 v2 s0 s1 D = some r) : yEx md_X9_finish 2 61 [(0, .ref v0), (1, .int v1), (2, .int v2)] [.int s0, .ref s1] S D (xQv S r) := by
  unfold f_X9_finish_61 at h
  refine xbnd_e h (fun q1 e1 h => ?_)
  refine y_callVv (As := [.int s0]) (q := q1) cv_RX9_40 dX9_finish_61 ks1 rfl (Nat.le_of_ble_eq_true rfl) (by omega) (S_X9_put hS ks1 e1) ?_
  refine x_aload_n dX9_finish_64 0 rfl ?_
  refine y_getr (kd := 100) hS fl_RX9_15 dX9_finish_65 rfl k0 ?_
  refine x_iload_n dX9_finish_68 1 rfl ?_
  refine x_iload_n dX9_finish_69 2 rfl ?_
  refine x_ldc 65536 dX9_finish_70 wd_677 ?_
  refine x_ior dX9_finish_72 ?_
  refine xgrd_e h (fun g2 h => ?_)
  refine xlet_e h (fun D3 eD3 h => ?_)
  refine y_iast dX9_finish_73 ((hS.f k0 2 100 rfl).2) g2 eD3 ?_
  refine x_aload_n dX9_finish_74 0 rfl ?_
  refine x_iload_n dX9_finish_75 1 rfl ?_
  refine x_iconst 1 dX9_finish_76 (by decide) ?_
  refine x_iadd dX9_finish_77 ?_
  refine xlet_e h (fun D4 eD4 h => ?_)
  refine y_puti fp_RX9_23 dX9_finish_78 rfl k0 eD4 ?_
  obtain rfl := Option.some.inj h
  exact y_vret rfl dX9_finish_81

def f_X9_finish_95 (F P : Nat) (S : xSt) (rec_7 : Nat → Int32 → xDt → Option (xDt)) (v0 : Nat) (v1 : Int32) (D : xDt) : Option (xDt) :=
  xlet (v1 + (-1)) fun v1_1 => rec_7 v0 v1_1 D
set_option maxHeartbeats 4000000 in
theorem t_X9_finish_95 {F P : Nat} {S : xSt} (hS : xWF S) {rec_7 : Nat → Int32 → xDt → Option (xDt)} (hrec_7 : ∀ {v0 : Nat} {v1 : Int32} {D : xDt} {r : xDt}, xK S v0 9 → rec_7 v0 v1 D = some r → yEx md_X9_finish 2 7 [(0, .ref v0), (1, .int v1)] [] S D (xQv S r)) {v0 : Nat} {v1 : Int32} {D : xDt} {r : xDt} (k0 : xK S v0 9) (h : f_X9_finish_95 F P S rec_7 v0 v1 D = some r) : yEx md_X9_finish 2 95 [(0, .ref v0), (1, .int v1)] [] S D (xQv S r) := by
  unfold f_X9_finish_95 at h
  refine xlet_e h (fun v1_1 ev1_1 h => ?_)
  refine y_iinc v1_1 ev1_1 (by decide) [(1, .int v1_1), (0, .ref v0)] dX9_finish_95 1 rfl (by show _ < 4; decide) rfl ?_
  refine x_goto 7 dX9_finish_98 (by decide) ?_
  refine x_lv (lv' := [(0, .ref v0), (1, .int v1_1)]) [1, 0] rfl ?_
  exact hrec_7 k0 h

def f_X9_finish_82 (F P : Nat) (S : xSt) (rec_7 : Nat → Int32 → xDt → Option (xDt)) (v0 : Nat) (v1 : Int32) (v2 : Int32) (D : xDt) : Option (xDt) :=
  if (v2 &&& 131072) = 0 then (f_X9_finish_95 F P S rec_7 v0 v1 D) else ((f_X9_put F P S v0 41 D).bind fun q1 => f_X9_finish_95 F P S rec_7 v0 v1 q1)
set_option maxHeartbeats 4000000 in
theorem t_X9_finish_82 {F P : Nat} {S : xSt} (hS : xWF S) {rec_7 : Nat → Int32 → xDt → Option (xDt)} (hrec_7 : ∀ {v0 : Nat} {v1 : Int32} {D : xDt} {r : xDt}, xK S v0 9 → rec_7 v0 v1 D = some r → yEx md_X9_finish 2 7 [(0, .ref v0), (1, .int v1)] [] S D (xQv S r)) {v0 : Nat} {v1 : Int32} {v2 : Int32} {D : xDt} {r : xDt} (k0 : xK S v0 9) (h : f_X9_finish_82 F P S rec_7 v0 v1 v2 D = some r) : yEx md_X9_finish 2 82 [(0, .ref v0), (1, .int v1), (2, .int v2)] [] S D (xQv S r) := by
  unfold f_X9_finish_82 at h
  refine x_iload_n dX9_finish_82 2 rfl ?_
  refine x_ldc 131072 dX9_finish_83 wd_678 ?_
  refine x_iand dX9_finish_85 ?_
  refine x_if_eq 95 dX9_finish_86 (by decide) (fun c => ?_) (fun c => ?_)
  · rw [if_pos c] at h
    refine x_lv (lv' := [(0, .ref v0), (1, .int v1)]) [0, 1] rfl ?_
    exact t_X9_finish_95 hS hrec_7 k0 h
  · rw [if_neg c] at h
    refine x_aload_n dX9_finish_89 0 rfl ?_
    refine x_bipush 41 dX9_finish_90 (by decide) ?_
    refine xbnd_e h (fun q1 e1 h => ?_)
    refine y_callVv (As := [.int 41]) (q := q1) cv_RX9_40 dX9_finish_92 k0 rfl (Nat.le_of_ble_eq_true rfl) (by omega) (S_X9_put hS k0 e1) ?_
    refine x_lv (lv' := [(0, .ref v0), (1, .int v1)]) [0, 1] rfl ?_
    exact t_X9_finish_95 hS hrec_7 k0 h

def f_X9_finish_7s (F P : Nat) (S : xSt) (rec_7 : Nat → Int32 → xDt → Option (xDt)) (v0 : Nat) (v1 : Int32) (D : xDt) : Option (xDt) :=
  if v1 < 0 then (xlet (xup D.1 v0 3 0, D.2) fun D1 => some D1) else (xgrd (xin v1 (xl S (xr S v0 2))) (xlet (D.1 (xr S v0 2) (v1).toNatClampNeg) fun v2_3 => (f_X11_signOf F P S v2_3 D).bind fun q4 => (f_X11_hasTwoParts F P S q4.1 q4.2).bind fun q5 => if q5.1 = 0 then (f_X9_finish_82 F P S rec_7 v0 v1 v2_3 q5.2) else (if (v2_3 &&& 65536) = 0 then (if q4.1 = 91 then (f_X9_finish_61 F P S v0 v1 v2_3 93 v0 q5.2) else (if q4.1 = 123 then (f_X9_finish_61 F P S v0 v1 v2_3 125 v0 q5.2) else (f_X9_finish_61 F P S v0 v1 v2_3 q4.1 v0 q5.2))) else (f_X9_finish_82 F P S rec_7 v0 v1 v2_3 q5.2))))
def f_X9_finish_7 (F P : Nat) (S : xSt) : Nat → Nat → Int32 → xDt → Option (xDt)
  | 0 => fun _ _ _ => none
  | n + 1 => f_X9_finish_7s F P S (f_X9_finish_7 F P S n)
set_option maxHeartbeats 4000000 in
theorem t_X9_finish_7s {F P : Nat} {S : xSt} (hS : xWF S) {rec_7 : Nat → Int32 → xDt → Option (xDt)} (hrec_7 : ∀ {v0 : Nat} {v1 : Int32} {D : xDt} {r : xDt}, xK S v0 9 → rec_7 v0 v1 D = some r → yEx md_X9_finish 2 7 [(0, .ref v0), (1, .int v1)] [] S D (xQv S r)) {v0 : Nat} {v1 : Int32} {D : xDt} {r : xDt} (k0 : xK S v0 9) (h : f_X9_finish_7s F P S rec_7 v0 v1 D = some r) : yEx md_X9_finish 2 7 [(0, .ref v0), (1, .int v1)] [] S D (xQv S r) := by
  unfold f_X9_finish_7s at h
  refine x_iload_n dX9_finish_7 1 rfl ?_
  refine x_if_lt 101 dX9_finish_8 (by decide) (fun c => ?_) (fun c => ?_)
  · rw [if_pos c] at h
    refine x_aload_n dX9_finish_101 0 rfl ?_
    refine x_iconst 0 dX9_finish_102 (by decide) ?_
    refine xlet_e h (fun D1 eD1 h => ?_)
    refine y_puti fp_RX9_23 dX9_finish_103 rfl k0 eD1 ?_
    obtain rfl := Option.some.inj h
    exact y_vret rfl dX9_finish_106
  · rw [if_neg c] at h
    refine x_aload_n dX9_finish_11 0 rfl ?_
    refine y_getr (kd := 100) hS fl_RX9_15 dX9_finish_12 rfl k0 ?_
    refine x_iload_n dX9_finish_15 1 rfl ?_
    refine xgrd_e h (fun g2 h => ?_)
    refine y_iald dX9_finish_16 ((hS.f k0 2 100 rfl).2) g2 ?_
    refine xlet_e h (fun v2_3 ev2_3 h => ?_)
    refine y_istore_n v2_3 ev2_3 [(2, .int v2_3), (0, .ref v0), (1, .int v1)] dX9_finish_17 (by show _ < 4; decide) rfl ?_
    refine x_iload_n dX9_finish_18 0 rfl ?_
    refine xbnd_e h (fun q4 e4 h => ?_)
    refine y_callNi (As := [.int v2_3]) (q := q4) cn_RX9_32 dX9_finish_19 rfl (Nat.le_of_ble_eq_true rfl) (by omega) (S_X11_signOf hS e4) ?_
    refine y_istore_n q4.1 rfl [(3, .int q4.1), (2, .int v2_3), (0, .ref v0), (1, .int v1)] dX9_finish_22 (by show _ < 4; decide) rfl ?_
    refine x_iload_n dX9_finish_23 0 rfl ?_
    refine xbnd_e h (fun q5 e5 h => ?_)
    refine y_callNi (As := [.int q4.1]) (q := q5) cn_RX9_65 dX9_finish_24 rfl (Nat.le_of_ble_eq_true rfl) (by omega) (S_X11_hasTwoParts hS e5) ?_
    refine x_if_eq 82 dX9_finish_27 (by decide) (fun c => ?_) (fun c => ?_)
    · rw [if_pos c] at h
      refine x_lv (lv' := [(0, .ref v0), (1, .int v1), (2, .int v2_3)]) [2, 3, 1] rfl ?_
      exact t_X9_finish_82 hS hrec_7 k0 h
    · rw [if_neg c] at h
      refine x_iload_n dX9_finish_30 1 rfl ?_
      refine x_ldc 65536 dX9_finish_31 wd_677 ?_
      refine x_iand dX9_finish_33 ?_
      refine x_if_ne 82 dX9_finish_34 (by decide) (fun c => ?_) (fun c => ?_)
      · rw [if_neg c] at h
        refine x_lv (lv' := [(0, .ref v0), (1, .int v1), (2, .int v2_3)]) [2, 3, 1] rfl ?_
        exact t_X9_finish_82 hS hrec_7 k0 h
      · rw [if_pos c] at h
        refine x_aload_n dX9_finish_37 2 rfl ?_
        refine x_iload_n dX9_finish_38 0 rfl ?_
        refine x_bipush 91 dX9_finish_39 (by decide) ?_
        refine x_icmp_ne 49 dX9_finish_41 (by decide) (fun c => ?_) (fun c => ?_)
        · rw [if_neg c] at h
          refine x_iload_n dX9_finish_49 0 rfl ?_
          refine x_bipush 123 dX9_finish_50 (by decide) ?_
          refine x_icmp_ne 60 dX9_finish_52 (by decide) (fun c => ?_) (fun c => ?_)
          · rw [if_neg c] at h
            refine x_iload_n dX9_finish_60 0 rfl ?_
            refine x_lv (lv' := [(0, .ref v0), (1, .int v1), (2, .int v2_3)]) [2, 3, 1] rfl ?_
            exact t_X9_finish_61 hS k0 k0 h
          · rw [if_pos c] at h
            refine x_bipush 125 dX9_finish_55 (by decide) ?_
            refine x_goto 61 dX9_finish_57 (by decide) ?_
            refine x_lv (lv' := [(0, .ref v0), (1, .int v1), (2, .int v2_3)]) [2, 3, 1] rfl ?_
            exact t_X9_finish_61 hS k0 k0 h
        · rw [if_pos c] at h
          refine x_bipush 93 dX9_finish_44 (by decide) ?_
          refine x_goto 61 dX9_finish_46 (by decide) ?_
          refine x_lv (lv' := [(0, .ref v0), (1, .int v1), (2, .int v2_3)]) [2, 3, 1] rfl ?_
          exact t_X9_finish_61 hS k0 k0 h
theorem t_X9_finish_7 {F P : Nat} {S : xSt} (hS : xWF S) : ∀ (n : Nat) {v0 : Nat} {v1 : Int32} {D : xDt} {r : xDt}, xK S v0 9 → f_X9_finish_7 F P S n v0 v1 D = some r → yEx md_X9_finish 2 7 [(0, .ref v0), (1, .int v1)] [] S D (xQv S r) := by
  intro n
  induction n with
  | zero => intros; rename_i h; cases h
  | succ n ih =>
    intro v0 v1 D r k0 h
    exact t_X9_finish_7s hS (fun k0 h => ih k0 h) k0 h

def f_X9_finish (F P : Nat) (S : xSt) (v0 : Nat) (D : xDt) : Option (xDt) :=
  xlet ((D.1 v0 3) - 1) fun v1_1 => f_X9_finish_7 F P S F v0 v1_1 D
set_option maxHeartbeats 4000000 in
theorem S_X9_finish {F P : Nat} {S : xSt} (hS : xWF S) {v0 : Nat} {D : xDt} {r : xDt} (k0 : xK S v0 9) (h : f_X9_finish F P S v0 D = some r) : xSp md_X9_finish (2, 0, 0) [.ref v0] (S, D) (xQv S r) := by
  unfold f_X9_finish at h
  refine xEntry (by decide) (Nat.le_of_ble_eq_true rfl) ?_
  refine x_lv (lv' := [(0, .ref v0)]) [0] rfl ?_
  refine x_aload_n dX9_finish_0 0 rfl ?_
  refine y_geti fl_RX9_23 dX9_finish_1 rfl k0 ?_
  refine x_iconst 1 dX9_finish_4 (by decide) ?_
  refine x_isub dX9_finish_5 ?_
  refine xlet_e h (fun v1_1 ev1_1 h => ?_)
  refine y_istore_n v1_1 ev1_1 [(1, .int v1_1), (0, .ref v0)] dX9_finish_6 (by show _ < 4; decide) rfl ?_
  refine x_lv (lv' := [(0, .ref v0), (1, .int v1_1)]) [1, 0] rfl ?_
  exact t_X9_finish_7 hS F k0 h

theorem dX9_putAgents_0 : decode cX9_putAgents 0 = .ok (.iconst 0, 1) := by decide +kernel
theorem dX9_putAgents_1 : decode cX9_putAgents 1 = .ok (.istore_n 2, 1) := by decide +kernel
theorem dX9_putAgents_2 : decode cX9_putAgents 2 = .ok (.iload_n 2, 1) := by decide +kernel
theorem dX9_putAgents_3 : decode cX9_putAgents 3 = .ok (.iconst 4, 1) := by decide +kernel
theorem dX9_putAgents_4 : decode cX9_putAgents 4 = .ok (.if_icmp .ge 25, 3) := by decide +kernel
theorem dX9_putAgents_7 : decode cX9_putAgents 7 = .ok (.iload_n 1, 1) := by decide +kernel
theorem dX9_putAgents_8 : decode cX9_putAgents 8 = .ok (.iload_n 2, 1) := by decide +kernel
theorem dX9_putAgents_9 : decode cX9_putAgents 9 = .ok (.invokestatic 68, 3) := by decide +kernel
theorem dX9_putAgents_12 : decode cX9_putAgents 12 = .ok (.ifCond .eq 11, 3) := by decide +kernel
theorem dX9_putAgents_15 : decode cX9_putAgents 15 = .ok (.aload_n 0, 1) := by decide +kernel
theorem dX9_putAgents_16 : decode cX9_putAgents 16 = .ok (.bipush 49, 2) := by decide +kernel
theorem dX9_putAgents_18 : decode cX9_putAgents 18 = .ok (.iload_n 2, 1) := by decide +kernel
theorem dX9_putAgents_19 : decode cX9_putAgents 19 = .ok (.iadd, 1) := by decide +kernel
theorem dX9_putAgents_20 : decode cX9_putAgents 20 = .ok (.invokevirtual 40, 3) := by decide +kernel
theorem dX9_putAgents_23 : decode cX9_putAgents 23 = .ok (.iinc 2 1, 3) := by decide +kernel
theorem dX9_putAgents_26 : decode cX9_putAgents 26 = .ok (.goto (-24), 3) := by decide +kernel
theorem dX9_putAgents_29 : decode cX9_putAgents 29 = .ok (.return_, 1) := by decide +kernel
def f_X9_putAgents_23 (F P : Nat) (S : xSt) (rec_2 : Nat → Int32 → Int32 → xDt → Option (xDt)) (v0 : Nat) (v1 : Int32) (v2 : Int32) (D : xDt) : Option (xDt) :=
  xlet (v2 + 1) fun v2_1 => rec_2 v0 v1 v2_1 D
set_option maxHeartbeats 4000000 in
theorem t_X9_putAgents_23 {F P : Nat} {S : xSt} (hS : xWF S) {rec_2 : Nat → Int32 → Int32 → xDt → Option (xDt)} (hrec_2 : ∀ {v0 : Nat} {v1 : Int32} {v2 : Int32} {D : xDt} {r : xDt}, xK S v0 9 → rec_2 v0 v1 v2 D = some r → yEx md_X9_putAgents 1 2 [(0, .ref v0), (1, .int v1), (2, .int v2)] [] S D (xQv S r)) {v0 : Nat} {v1 : Int32} {v2 : Int32} {D : xDt} {r : xDt} (k0 : xK S v0 9) (h : f_X9_putAgents_23 F P S rec_2 v0 v1 v2 D = some r) : yEx md_X9_putAgents 1 23 [(0, .ref v0), (1, .int v1), (2, .int v2)] [] S D (xQv S r) := by
  unfold f_X9_putAgents_23 at h
  refine xlet_e h (fun v2_1 ev2_1 h => ?_)
  refine y_iinc v2_1 ev2_1 (by decide) [(2, .int v2_1), (0, .ref v0), (1, .int v1)] dX9_putAgents_23 2 rfl (by show _ < 3; decide) rfl ?_
  refine x_goto 2 dX9_putAgents_26 (by decide) ?_
  refine x_lv (lv' := [(0, .ref v0), (1, .int v1), (2, .int v2_1)]) [1, 2, 0] rfl ?_
  exact hrec_2 k0 h

def f_X9_putAgents_2s (F P : Nat) (S : xSt) (rec_2 : Nat → Int32 → Int32 → xDt → Option (xDt)) (v0 : Nat) (v1 : Int32) (v2 : Int32) (D : xDt) : Option (xDt) :=
  if 4 ≤ v2 then (some D) else ((f_X11_hasAgent F P S v1 v2 D).bind fun q1 => if q1.1 = 0 then (f_X9_putAgents_23 F P S rec_2 v0 v1 v2 q1.2) else ((f_X9_put F P S v0 (49 + v2) q1.2).bind fun q2 => f_X9_putAgents_23 F P S rec_2 v0 v1 v2 q2))
def f_X9_putAgents_2 (F P : Nat) (S : xSt) : Nat → Nat → Int32 → Int32 → xDt → Option (xDt)
  | 0 => fun _ _ _ _ => none
  | n + 1 => f_X9_putAgents_2s F P S (f_X9_putAgents_2 F P S n)
set_option maxHeartbeats 4000000 in
theorem t_X9_putAgents_2s {F P : Nat} {S : xSt} (hS : xWF S) {rec_2 : Nat → Int32 → Int32 → xDt → Option (xDt)} (hrec_2 : ∀ {v0 : Nat} {v1 : Int32} {v2 : Int32} {D : xDt} {r : xDt}, xK S v0 9 → rec_2 v0 v1 v2 D = some r → yEx md_X9_putAgents 1 2 [(0, .ref v0), (1, .int v1), (2, .int v2)] [] S D (xQv S r)) {v0 : Nat} {v1 : Int32} {v2 : Int32} {D : xDt} {r : xDt} (k0 : xK S v0 9) (h : f_X9_putAgents_2s F P S rec_2 v0 v1 v2 D = some r) : yEx md_X9_putAgents 1 2 [(0, .ref v0), (1, .int v1), (2, .int v2)] [] S D (xQv S r) := by
  unfold f_X9_putAgents_2s at h
  refine x_iload_n dX9_putAgents_2 2 rfl ?_
  refine x_iconst 4 dX9_putAgents_3 (by decide) ?_
  refine x_icmp_ge 29 dX9_putAgents_4 (by decide) (fun c => ?_) (fun c => ?_)
  · rw [if_pos c] at h
    obtain rfl := Option.some.inj h
    exact y_vret rfl dX9_putAgents_29
  · rw [if_neg c] at h
    refine x_iload_n dX9_putAgents_7 1 rfl ?_
    refine x_iload_n dX9_putAgents_8 2 rfl ?_
    refine xbnd_e h (fun q1 e1 h => ?_)
    refine y_callNi (As := [.int v1, .int v2]) (q := q1) cn_RX9_68 dX9_putAgents_9 rfl (Nat.le_of_ble_eq_true rfl) (by omega) (S_X11_hasAgent hS e1) ?_
    refine x_if_eq 23 dX9_putAgents_12 (by decide) (fun c => ?_) (fun c => ?_)
    · rw [if_pos c] at h
      exact t_X9_putAgents_23 hS hrec_2 k0 h
    · rw [if_neg c] at h
      refine x_aload_n dX9_putAgents_15 0 rfl ?_
      refine x_bipush 49 dX9_putAgents_16 (by decide) ?_
      refine x_iload_n dX9_putAgents_18 2 rfl ?_
      refine x_iadd dX9_putAgents_19 ?_
      refine xbnd_e h (fun q2 e2 h => ?_)
      refine y_callVv (As := [.int (49 + v2)]) (q := q2) cv_RX9_40 dX9_putAgents_20 k0 rfl (Nat.le_of_ble_eq_true rfl) (by omega) (S_X9_put hS k0 e2) ?_
      exact t_X9_putAgents_23 hS hrec_2 k0 h
theorem t_X9_putAgents_2 {F P : Nat} {S : xSt} (hS : xWF S) : ∀ (n : Nat) {v0 : Nat} {v1 : Int32} {v2 : Int32} {D : xDt} {r : xDt}, xK S v0 9 → f_X9_putAgents_2 F P S n v0 v1 v2 D = some r → yEx md_X9_putAgents 1 2 [(0, .ref v0), (1, .int v1), (2, .int v2)] [] S D (xQv S r) := by
  intro n
  induction n with
  | zero => intros; rename_i h; cases h
  | succ n ih =>
    intro v0 v1 v2 D r k0 h
    exact t_X9_putAgents_2s hS (fun k0 h => ih k0 h) k0 h

def f_X9_putAgents (F P : Nat) (S : xSt) (v0 : Nat) (v1 : Int32) (D : xDt) : Option (xDt) :=
  f_X9_putAgents_2 F P S F v0 v1 0 D
set_option maxHeartbeats 4000000 in
theorem S_X9_putAgents {F P : Nat} {S : xSt} (hS : xWF S) {v0 : Nat} {v1 : Int32} {D : xDt} {r : xDt} (k0 : xK S v0 9) (h : f_X9_putAgents F P S v0 v1 D = some r) : xSp md_X9_putAgents (1, 0, 0) [.ref v0, .int v1] (S, D) (xQv S r) := by
  unfold f_X9_putAgents at h
  refine xEntry (by decide) (Nat.le_of_ble_eq_true rfl) ?_
  refine x_lv (lv' := [(0, .ref v0), (1, .int v1)]) [0, 1] rfl ?_
  refine x_iconst 0 dX9_putAgents_0 (by decide) ?_
  refine y_istore_n 0 rfl [(2, .int 0), (0, .ref v0), (1, .int v1)] dX9_putAgents_1 (by show _ < 3; decide) rfl ?_
  refine x_lv (lv' := [(0, .ref v0), (1, .int v1), (2, .int 0)]) [1, 2, 0] rfl ?_
  exact t_X9_putAgents_2 hS F k0 h

theorem dX9_isWhole_0 : decode cX9_isWhole 0 = .ok (.aload_n 0, 1) := by decide +kernel
theorem dX9_isWhole_1 : decode cX9_isWhole 1 = .ok (.getfield 23, 3) := by decide +kernel
theorem dX9_isWhole_4 : decode cX9_isWhole 4 = .ok (.ifCond .ne 5, 3) := by decide +kernel
theorem dX9_isWhole_7 : decode cX9_isWhole 7 = .ok (.iconst 1, 1) := by decide +kernel
theorem dX9_isWhole_8 : decode cX9_isWhole 8 = .ok (.ireturn, 1) := by decide +kernel
theorem dX9_isWhole_9 : decode cX9_isWhole 9 = .ok (.aload_n 0, 1) := by decide +kernel
theorem dX9_isWhole_10 : decode cX9_isWhole 10 = .ok (.getfield 15, 3) := by decide +kernel
theorem dX9_isWhole_13 : decode cX9_isWhole 13 = .ok (.aload_n 0, 1) := by decide +kernel
theorem dX9_isWhole_14 : decode cX9_isWhole 14 = .ok (.getfield 23, 3) := by decide +kernel
theorem dX9_isWhole_17 : decode cX9_isWhole 17 = .ok (.iconst 1, 1) := by decide +kernel
theorem dX9_isWhole_18 : decode cX9_isWhole 18 = .ok (.isub, 1) := by decide +kernel
theorem dX9_isWhole_19 : decode cX9_isWhole 19 = .ok (.iaload, 1) := by decide +kernel
theorem dX9_isWhole_20 : decode cX9_isWhole 20 = .ok (.istore_n 1, 1) := by decide +kernel
theorem dX9_isWhole_21 : decode cX9_isWhole 21 = .ok (.iload_n 1, 1) := by decide +kernel
theorem dX9_isWhole_22 : decode cX9_isWhole 22 = .ok (.invokestatic 32, 3) := by decide +kernel
theorem dX9_isWhole_25 : decode cX9_isWhole 25 = .ok (.invokestatic 61, 3) := by decide +kernel
theorem dX9_isWhole_28 : decode cX9_isWhole 28 = .ok (.ifCond .eq 14, 3) := by decide +kernel
theorem dX9_isWhole_31 : decode cX9_isWhole 31 = .ok (.iload_n 1, 1) := by decide +kernel
theorem dX9_isWhole_32 : decode cX9_isWhole 32 = .ok (.ldc 64, 2) := by decide +kernel
theorem dX9_isWhole_34 : decode cX9_isWhole 34 = .ok (.iand, 1) := by decide +kernel
theorem dX9_isWhole_35 : decode cX9_isWhole 35 = .ok (.ifCond .ne 7, 3) := by decide +kernel
theorem dX9_isWhole_38 : decode cX9_isWhole 38 = .ok (.iconst 1, 1) := by decide +kernel
theorem dX9_isWhole_39 : decode cX9_isWhole 39 = .ok (.goto 4, 3) := by decide +kernel
theorem dX9_isWhole_42 : decode cX9_isWhole 42 = .ok (.iconst 0, 1) := by decide +kernel
theorem dX9_isWhole_43 : decode cX9_isWhole 43 = .ok (.ireturn, 1) := by decide +kernel
def f_X9_isWhole_42 (F P : Nat) (S : xSt) (D : xDt) : Option (Int32 × xDt) :=
  some (0, D)
set_option maxHeartbeats 4000000 in
theorem t_X9_isWhole_42 {F P : Nat} {S : xSt} (hS : xWF S) {D : xDt} {r : Int32 × xDt} (h : f_X9_isWhole_42 F P S D = some r) : yEx md_X9_isWhole 1 42 [] [] S D (xQi S r) := by
  unfold f_X9_isWhole_42 at h
  refine x_iconst 0 dX9_isWhole_42 (by decide) ?_
  obtain rfl := Option.some.inj h
  exact y_zret rfl rfl dX9_isWhole_43

def f_X9_isWhole (F P : Nat) (S : xSt) (v0 : Nat) (D : xDt) : Option (Int32 × xDt) :=
  if (D.1 v0 3) = 0 then (some (1, D)) else (xgrd (xin ((D.1 v0 3) - 1) (xl S (xr S v0 2))) (xlet (D.1 (xr S v0 2) ((D.1 v0 3) - 1).toNatClampNeg) fun v1_2 => (f_X11_signOf F P S v1_2 D).bind fun q3 => (f_X11_isSaying F P S q3.1 q3.2).bind fun q4 => if q4.1 = 0 then (f_X9_isWhole_42 F P S q4.2) else (if (v1_2 &&& 65536) = 0 then (some (1, q4.2)) else (f_X9_isWhole_42 F P S q4.2))))
set_option maxHeartbeats 4000000 in
theorem S_X9_isWhole {F P : Nat} {S : xSt} (hS : xWF S) {v0 : Nat} {D : xDt} {r : Int32 × xDt} (k0 : xK S v0 9) (h : f_X9_isWhole F P S v0 D = some r) : xSp md_X9_isWhole (1, 0, 0) [.ref v0] (S, D) (xQi S r) := by
  unfold f_X9_isWhole at h
  refine xEntry (by decide) (Nat.le_of_ble_eq_true rfl) ?_
  refine x_lv (lv' := [(0, .ref v0)]) [0] rfl ?_
  refine x_aload_n dX9_isWhole_0 0 rfl ?_
  refine y_geti fl_RX9_23 dX9_isWhole_1 rfl k0 ?_
  refine x_if_ne 9 dX9_isWhole_4 (by decide) (fun c => ?_) (fun c => ?_)
  · rw [if_neg c] at h
    refine x_aload_n dX9_isWhole_9 0 rfl ?_
    refine y_getr (kd := 100) hS fl_RX9_15 dX9_isWhole_10 rfl k0 ?_
    refine x_aload_n dX9_isWhole_13 0 rfl ?_
    refine y_geti fl_RX9_23 dX9_isWhole_14 rfl k0 ?_
    refine x_iconst 1 dX9_isWhole_17 (by decide) ?_
    refine x_isub dX9_isWhole_18 ?_
    refine xgrd_e h (fun g1 h => ?_)
    refine y_iald dX9_isWhole_19 ((hS.f k0 2 100 rfl).2) g1 ?_
    refine xlet_e h (fun v1_2 ev1_2 h => ?_)
    refine y_istore_n v1_2 ev1_2 [(1, .int v1_2), (0, .ref v0)] dX9_isWhole_20 (by show _ < 2; decide) rfl ?_
    refine x_iload_n dX9_isWhole_21 0 rfl ?_
    refine xbnd_e h (fun q3 e3 h => ?_)
    refine y_callNi (As := [.int v1_2]) (q := q3) cn_RX9_32 dX9_isWhole_22 rfl (Nat.le_of_ble_eq_true rfl) (by omega) (S_X11_signOf hS e3) ?_
    refine xbnd_e h (fun q4 e4 h => ?_)
    refine y_callNi (As := [.int q3.1]) (q := q4) cn_RX9_61 dX9_isWhole_25 rfl (Nat.le_of_ble_eq_true rfl) (by omega) (S_X11_isSaying hS e4) ?_
    refine x_if_eq 42 dX9_isWhole_28 (by decide) (fun c => ?_) (fun c => ?_)
    · rw [if_pos c] at h
      refine x_lv (lv' := []) [] rfl ?_
      exact t_X9_isWhole_42 hS h
    · rw [if_neg c] at h
      refine x_iload_n dX9_isWhole_31 0 rfl ?_
      refine x_ldc 65536 dX9_isWhole_32 wd_677 ?_
      refine x_iand dX9_isWhole_34 ?_
      refine x_if_ne 42 dX9_isWhole_35 (by decide) (fun c => ?_) (fun c => ?_)
      · rw [if_neg c] at h
        refine x_lv (lv' := []) [] rfl ?_
        exact t_X9_isWhole_42 hS h
      · rw [if_pos c] at h
        refine x_iconst 1 dX9_isWhole_38 (by decide) ?_
        refine x_goto 43 dX9_isWhole_39 (by decide) ?_
        obtain rfl := Option.some.inj h
        exact y_zret rfl rfl dX9_isWhole_43
  · rw [if_pos c] at h
    refine x_iconst 1 dX9_isWhole_7 (by decide) ?_
    obtain rfl := Option.some.inj h
    exact y_zret rfl rfl dX9_isWhole_8

theorem dX9_start_0 : decode cX9_start 0 = .ok (.iload_n 1, 1) := by decide +kernel
theorem dX9_start_1 : decode cX9_start 1 = .ok (.invokestatic 32, 3) := by decide +kernel
theorem dX9_start_4 : decode cX9_start 4 = .ok (.istore_n 2, 1) := by decide +kernel
theorem dX9_start_5 : decode cX9_start 5 = .ok (.iload_n 1, 1) := by decide +kernel
theorem dX9_start_6 : decode cX9_start 6 = .ok (.istore_n 3, 1) := by decide +kernel
theorem dX9_start_7 : decode cX9_start 7 = .ok (.iload_n 2, 1) := by decide +kernel
theorem dX9_start_8 : decode cX9_start 8 = .ok (.invokestatic 50, 3) := by decide +kernel
theorem dX9_start_11 : decode cX9_start 11 = .ok (.ifCond .ne 16, 3) := by decide +kernel
theorem dX9_start_14 : decode cX9_start 14 = .ok (.aload_n 0, 1) := by decide +kernel
theorem dX9_start_15 : decode cX9_start 15 = .ok (.iload_n 2, 1) := by decide +kernel
theorem dX9_start_16 : decode cX9_start 16 = .ok (.invokevirtual 40, 3) := by decide +kernel
theorem dX9_start_19 : decode cX9_start 19 = .ok (.aload_n 0, 1) := by decide +kernel
theorem dX9_start_20 : decode cX9_start 20 = .ok (.iload_n 1, 1) := by decide +kernel
theorem dX9_start_21 : decode cX9_start 21 = .ok (.invokevirtual 53, 3) := by decide +kernel
theorem dX9_start_24 : decode cX9_start 24 = .ok (.goto 21, 3) := by decide +kernel
theorem dX9_start_27 : decode cX9_start 27 = .ok (.aload_n 0, 1) := by decide +kernel
theorem dX9_start_28 : decode cX9_start 28 = .ok (.invokevirtual 56, 3) := by decide +kernel
theorem dX9_start_31 : decode cX9_start 31 = .ok (.ifCond .ne 14, 3) := by decide +kernel
theorem dX9_start_34 : decode cX9_start 34 = .ok (.aload_n 0, 1) := by decide +kernel
theorem dX9_start_35 : decode cX9_start 35 = .ok (.bipush 40, 2) := by decide +kernel
theorem dX9_start_37 : decode cX9_start 37 = .ok (.invokevirtual 40, 3) := by decide +kernel
theorem dX9_start_40 : decode cX9_start 40 = .ok (.iload_n 3, 1) := by decide +kernel
theorem dX9_start_41 : decode cX9_start 41 = .ok (.ldc 60, 2) := by decide +kernel
theorem dX9_start_43 : decode cX9_start 43 = .ok (.ior, 1) := by decide +kernel
theorem dX9_start_44 : decode cX9_start 44 = .ok (.istore_n 3, 1) := by decide +kernel
theorem dX9_start_45 : decode cX9_start 45 = .ok (.aload_n 0, 1) := by decide +kernel
theorem dX9_start_46 : decode cX9_start 46 = .ok (.getfield 23, 3) := by decide +kernel
theorem dX9_start_49 : decode cX9_start 49 = .ok (.aload_n 0, 1) := by decide +kernel
theorem dX9_start_50 : decode cX9_start 50 = .ok (.getfield 15, 3) := by decide +kernel
theorem dX9_start_53 : decode cX9_start 53 = .ok (.arraylength, 1) := by decide +kernel
theorem dX9_start_54 : decode cX9_start 54 = .ok (.if_icmp .ge 20, 3) := by decide +kernel
theorem dX9_start_57 : decode cX9_start 57 = .ok (.aload_n 0, 1) := by decide +kernel
theorem dX9_start_58 : decode cX9_start 58 = .ok (.getfield 15, 3) := by decide +kernel
theorem dX9_start_61 : decode cX9_start 61 = .ok (.aload_n 0, 1) := by decide +kernel
theorem dX9_start_62 : decode cX9_start 62 = .ok (.dup, 1) := by decide +kernel
theorem dX9_start_63 : decode cX9_start 63 = .ok (.getfield 23, 3) := by decide +kernel
theorem dX9_start_66 : decode cX9_start 66 = .ok (.dup_x1, 1) := by decide +kernel
theorem dX9_start_67 : decode cX9_start 67 = .ok (.iconst 1, 1) := by decide +kernel
theorem dX9_start_68 : decode cX9_start 68 = .ok (.iadd, 1) := by decide +kernel
theorem dX9_start_69 : decode cX9_start 69 = .ok (.putfield 23, 3) := by decide +kernel
theorem dX9_start_72 : decode cX9_start 72 = .ok (.iload_n 3, 1) := by decide +kernel
theorem dX9_start_73 : decode cX9_start 73 = .ok (.iastore, 1) := by decide +kernel
theorem dX9_start_74 : decode cX9_start 74 = .ok (.return_, 1) := by decide +kernel
def f_X9_start_45 (F P : Nat) (S : xSt) (v0 : Nat) (v3 : Int32) (D : xDt) : Option (xDt) :=
  if (Int32.ofNat (xl S (xr S v0 2))) ≤ (D.1 v0 3) then (some D) else (xlet (xup D.1 v0 3 ((D.1 v0 3) + 1), D.2) fun D1 => xgrd (xin (D.1 v0 3) (xl S (xr S v0 2))) (xlet (xup D1.1 (xr S v0 2) (D.1 v0 3).toNatClampNeg v3, D1.2) fun D3 => some D3))
set_option maxHeartbeats 4000000 in
theorem t_X9_start_45 {F P : Nat} {S : xSt} (hS : xWF S) {v0 : Nat} {v3 : Int32} {D : xDt} {r : xDt} (k0 : xK S v0 9) (h : f_X9_start_45 F P S v0 v3 D = some r) : yEx md_X9_start 2 45 [(0, .ref v0), (3, .int v3)] [] S D (xQv S r) := by
  unfold f_X9_start_45 at h
  refine x_aload_n dX9_start_45 0 rfl ?_
  refine y_geti fl_RX9_23 dX9_start_46 rfl k0 ?_
  refine x_aload_n dX9_start_49 0 rfl ?_
  refine y_getr (kd := 100) hS fl_RX9_15 dX9_start_50 rfl k0 ?_
  refine y_alen dX9_start_53 ((hS.f k0 2 100 rfl).2) (by decide) ?_
  refine x_icmp_ge 74 dX9_start_54 (by decide) (fun c => ?_) (fun c => ?_)
  · rw [if_pos c] at h
    obtain rfl := Option.some.inj h
    exact y_vret rfl dX9_start_74
  · rw [if_neg c] at h
    refine x_aload_n dX9_start_57 0 rfl ?_
    refine y_getr (kd := 100) hS fl_RX9_15 dX9_start_58 rfl k0 ?_
    refine x_aload_n dX9_start_61 0 rfl ?_
    refine x_dup dX9_start_62 rfl ?_
    refine y_geti fl_RX9_23 dX9_start_63 rfl k0 ?_
    refine x_dup_x1 dX9_start_66 rfl rfl ?_
    refine x_iconst 1 dX9_start_67 (by decide) ?_
    refine x_iadd dX9_start_68 ?_
    refine xlet_e h (fun D1 eD1 h => ?_)
    refine y_puti fp_RX9_23 dX9_start_69 rfl k0 eD1 ?_
    refine x_iload_n dX9_start_72 1 rfl ?_
    refine xgrd_e h (fun g2 h => ?_)
    refine xlet_e h (fun D3 eD3 h => ?_)
    refine y_iast dX9_start_73 ((hS.f k0 2 100 rfl).2) g2 eD3 ?_
    obtain rfl := Option.some.inj h
    exact y_vret rfl dX9_start_74

def f_X9_start (F P : Nat) (S : xSt) (v0 : Nat) (v1 : Int32) (D : xDt) : Option (xDt) :=
  (f_X11_signOf F P S v1 D).bind fun q1 => (f_X11_isJoin F P S q1.1 q1.2).bind fun q2 => if q2.1 = 0 then ((f_X9_put F P S v0 q1.1 q2.2).bind fun q6 => (f_X9_putAgents F P S v0 v1 q6).bind fun q7 => f_X9_start_45 F P S v0 v1 q7) else ((f_X9_isWhole F P S v0 q2.2).bind fun q3 => if q3.1 = 0 then ((f_X9_put F P S v0 40 q3.2).bind fun q4 => xlet (v1 ||| 131072) fun v3_5 => f_X9_start_45 F P S v0 v3_5 q4) else (f_X9_start_45 F P S v0 v1 q3.2))
set_option maxHeartbeats 4000000 in
theorem S_X9_start {F P : Nat} {S : xSt} (hS : xWF S) {v0 : Nat} {v1 : Int32} {D : xDt} {r : xDt} (k0 : xK S v0 9) (h : f_X9_start F P S v0 v1 D = some r) : xSp md_X9_start (2, 0, 0) [.ref v0, .int v1] (S, D) (xQv S r) := by
  unfold f_X9_start at h
  refine xEntry (by decide) (Nat.le_of_ble_eq_true rfl) ?_
  refine x_lv (lv' := [(0, .ref v0), (1, .int v1)]) [0, 1] rfl ?_
  refine x_iload_n dX9_start_0 1 rfl ?_
  refine xbnd_e h (fun q1 e1 h => ?_)
  refine y_callNi (As := [.int v1]) (q := q1) cn_RX9_32 dX9_start_1 rfl (Nat.le_of_ble_eq_true rfl) (by omega) (S_X11_signOf hS e1) ?_
  refine y_istore_n q1.1 rfl [(2, .int q1.1), (0, .ref v0), (1, .int v1)] dX9_start_4 (by show _ < 4; decide) rfl ?_
  refine x_iload_n dX9_start_5 2 rfl ?_
  refine y_istore_n v1 rfl [(3, .int v1), (2, .int q1.1), (0, .ref v0), (1, .int v1)] dX9_start_6 (by show _ < 4; decide) rfl ?_
  refine x_iload_n dX9_start_7 1 rfl ?_
  refine xbnd_e h (fun q2 e2 h => ?_)
  refine y_callNi (As := [.int q1.1]) (q := q2) cn_RX9_50 dX9_start_8 rfl (Nat.le_of_ble_eq_true rfl) (by omega) (S_X11_isJoin hS e2) ?_
  refine x_if_ne 27 dX9_start_11 (by decide) (fun c => ?_) (fun c => ?_)
  · rw [if_neg c] at h
    refine x_aload_n dX9_start_27 2 rfl ?_
    refine xbnd_e h (fun q3 e3 h => ?_)
    refine y_callVi (As := []) (q := q3) cv_RX9_56 dX9_start_28 k0 rfl (Nat.le_of_ble_eq_true rfl) (by omega) (S_X9_isWhole hS k0 e3) ?_
    refine x_if_ne 45 dX9_start_31 (by decide) (fun c => ?_) (fun c => ?_)
    · rw [if_neg c] at h
      refine x_lv (lv' := [(0, .ref v0), (3, .int v1)]) [2, 0] rfl ?_
      exact t_X9_start_45 hS k0 h
    · rw [if_pos c] at h
      refine x_aload_n dX9_start_34 2 rfl ?_
      refine x_bipush 40 dX9_start_35 (by decide) ?_
      refine xbnd_e h (fun q4 e4 h => ?_)
      refine y_callVv (As := [.int 40]) (q := q4) cv_RX9_40 dX9_start_37 k0 rfl (Nat.le_of_ble_eq_true rfl) (by omega) (S_X9_put hS k0 e4) ?_
      refine x_iload_n dX9_start_40 0 rfl ?_
      refine x_ldc 131072 dX9_start_41 wd_678 ?_
      refine x_ior dX9_start_43 ?_
      refine xlet_e h (fun v3_5 ev3_5 h => ?_)
      refine y_istore_n v3_5 ev3_5 [(3, .int v3_5), (2, .int q1.1), (0, .ref v0), (1, .int v1)] dX9_start_44 (by show _ < 4; decide) rfl ?_
      refine x_lv (lv' := [(0, .ref v0), (3, .int v3_5)]) [2, 0] rfl ?_
      exact t_X9_start_45 hS k0 h
  · rw [if_pos c] at h
    refine x_aload_n dX9_start_14 2 rfl ?_
    refine x_iload_n dX9_start_15 1 rfl ?_
    refine xbnd_e h (fun q6 e6 h => ?_)
    refine y_callVv (As := [.int q1.1]) (q := q6) cv_RX9_40 dX9_start_16 k0 rfl (Nat.le_of_ble_eq_true rfl) (by omega) (S_X9_put hS k0 e6) ?_
    refine x_aload_n dX9_start_19 2 rfl ?_
    refine x_iload_n dX9_start_20 3 rfl ?_
    refine xbnd_e h (fun q7 e7 h => ?_)
    refine y_callVv (As := [.int v1]) (q := q7) cv_RX9_53 dX9_start_21 k0 rfl (Nat.le_of_ble_eq_true rfl) (by omega) (S_X9_putAgents hS k0 e7) ?_
    refine x_goto 45 dX9_start_24 (by decide) ?_
    refine x_lv (lv' := [(0, .ref v0), (3, .int v1)]) [2, 0] rfl ?_
    exact t_X9_start_45 hS k0 h

theorem dX9_write_0 : decode cX9_write 0 = .ok (.aload_n 0, 1) := by decide +kernel
theorem dX9_write_1 : decode cX9_write 1 = .ok (.iconst 0, 1) := by decide +kernel
theorem dX9_write_2 : decode cX9_write 2 = .ok (.putfield 19, 3) := by decide +kernel
theorem dX9_write_5 : decode cX9_write 5 = .ok (.aload_n 0, 1) := by decide +kernel
theorem dX9_write_6 : decode cX9_write 6 = .ok (.iconst 0, 1) := by decide +kernel
theorem dX9_write_7 : decode cX9_write 7 = .ok (.putfield 23, 3) := by decide +kernel
theorem dX9_write_10 : decode cX9_write 10 = .ok (.iconst 0, 1) := by decide +kernel
theorem dX9_write_11 : decode cX9_write 11 = .ok (.istore_n 2, 1) := by decide +kernel
theorem dX9_write_12 : decode cX9_write 12 = .ok (.iload_n 2, 1) := by decide +kernel
theorem dX9_write_13 : decode cX9_write 13 = .ok (.aload_n 1, 1) := by decide +kernel
theorem dX9_write_14 : decode cX9_write 14 = .ok (.getfield 26, 3) := by decide +kernel
theorem dX9_write_17 : decode cX9_write 17 = .ok (.if_icmp .ge 46, 3) := by decide +kernel
theorem dX9_write_20 : decode cX9_write 20 = .ok (.aload_n 1, 1) := by decide +kernel
theorem dX9_write_21 : decode cX9_write 21 = .ok (.getfield 29, 3) := by decide +kernel
theorem dX9_write_24 : decode cX9_write 24 = .ok (.iload_n 2, 1) := by decide +kernel
theorem dX9_write_25 : decode cX9_write 25 = .ok (.iaload, 1) := by decide +kernel
theorem dX9_write_26 : decode cX9_write 26 = .ok (.istore_n 3, 1) := by decide +kernel
theorem dX9_write_27 : decode cX9_write 27 = .ok (.iload_n 3, 1) := by decide +kernel
theorem dX9_write_28 : decode cX9_write 28 = .ok (.invokestatic 32, 3) := by decide +kernel
theorem dX9_write_31 : decode cX9_write 31 = .ok (.invokestatic 36, 3) := by decide +kernel
theorem dX9_write_34 : decode cX9_write 34 = .ok (.ifCond .eq 18, 3) := by decide +kernel
theorem dX9_write_37 : decode cX9_write 37 = .ok (.aload_n 0, 1) := by decide +kernel
theorem dX9_write_38 : decode cX9_write 38 = .ok (.iload_n 3, 1) := by decide +kernel
theorem dX9_write_39 : decode cX9_write 39 = .ok (.invokestatic 32, 3) := by decide +kernel
theorem dX9_write_42 : decode cX9_write 42 = .ok (.invokevirtual 40, 3) := by decide +kernel
theorem dX9_write_45 : decode cX9_write 45 = .ok (.aload_n 0, 1) := by decide +kernel
theorem dX9_write_46 : decode cX9_write 46 = .ok (.invokevirtual 44, 3) := by decide +kernel
theorem dX9_write_49 : decode cX9_write 49 = .ok (.goto 8, 3) := by decide +kernel
theorem dX9_write_52 : decode cX9_write 52 = .ok (.aload_n 0, 1) := by decide +kernel
theorem dX9_write_53 : decode cX9_write 53 = .ok (.iload_n 3, 1) := by decide +kernel
theorem dX9_write_54 : decode cX9_write 54 = .ok (.invokevirtual 47, 3) := by decide +kernel
theorem dX9_write_57 : decode cX9_write 57 = .ok (.iinc 2 1, 3) := by decide +kernel
theorem dX9_write_60 : decode cX9_write 60 = .ok (.goto (-48), 3) := by decide +kernel
theorem dX9_write_63 : decode cX9_write 63 = .ok (.aload_n 0, 1) := by decide +kernel
theorem dX9_write_64 : decode cX9_write 64 = .ok (.getfield 19, 3) := by decide +kernel
theorem dX9_write_67 : decode cX9_write 67 = .ok (.ireturn, 1) := by decide +kernel
def f_X9_write_57 (F P : Nat) (S : xSt) (rec_12 : Nat → Nat → Int32 → xDt → Option (Int32 × xDt)) (v0 : Nat) (v1 : Nat) (v2 : Int32) (D : xDt) : Option (Int32 × xDt) :=
  xlet (v2 + 1) fun v2_1 => rec_12 v0 v1 v2_1 D
set_option maxHeartbeats 4000000 in
theorem t_X9_write_57 {F P : Nat} {S : xSt} (hS : xWF S) {rec_12 : Nat → Nat → Int32 → xDt → Option (Int32 × xDt)} (hrec_12 : ∀ {v0 : Nat} {v1 : Nat} {v2 : Int32} {D : xDt} {r : Int32 × xDt}, xK S v0 9 → xK S v1 2 → rec_12 v0 v1 v2 D = some r → yEx md_X9_write 3 12 [(0, .ref v0), (1, .ref v1), (2, .int v2)] [] S D (xQi S r)) {v0 : Nat} {v1 : Nat} {v2 : Int32} {D : xDt} {r : Int32 × xDt} (k0 : xK S v0 9) (k1 : xK S v1 2) (h : f_X9_write_57 F P S rec_12 v0 v1 v2 D = some r) : yEx md_X9_write 3 57 [(0, .ref v0), (1, .ref v1), (2, .int v2)] [] S D (xQi S r) := by
  unfold f_X9_write_57 at h
  refine xlet_e h (fun v2_1 ev2_1 h => ?_)
  refine y_iinc v2_1 ev2_1 (by decide) [(2, .int v2_1), (0, .ref v0), (1, .ref v1)] dX9_write_57 2 rfl (by show _ < 4; decide) rfl ?_
  refine x_goto 12 dX9_write_60 (by decide) ?_
  refine x_lv (lv' := [(0, .ref v0), (1, .ref v1), (2, .int v2_1)]) [1, 2, 0] rfl ?_
  exact hrec_12 k0 k1 h

def f_X9_write_12s (F P : Nat) (S : xSt) (rec_12 : Nat → Nat → Int32 → xDt → Option (Int32 × xDt)) (v0 : Nat) (v1 : Nat) (v2 : Int32) (D : xDt) : Option (Int32 × xDt) :=
  if (D.1 v1 1) ≤ v2 then (some (D.1 v0 1, D)) else (xgrd (xin v2 (xl S (xr S v1 0))) (xlet (D.1 (xr S v1 0) (v2).toNatClampNeg) fun v3_2 => (f_X11_signOf F P S v3_2 D).bind fun q3 => (f_X11_isLeaf F P S q3.1 q3.2).bind fun q4 => if q4.1 = 0 then ((f_X9_start F P S v0 v3_2 q4.2).bind fun q5 => f_X9_write_57 F P S rec_12 v0 v1 v2 q5) else ((f_X11_signOf F P S v3_2 q4.2).bind fun q6 => (f_X9_put F P S v0 q6.1 q6.2).bind fun q7 => (f_X9_finish F P S v0 q7).bind fun q8 => f_X9_write_57 F P S rec_12 v0 v1 v2 q8)))
def f_X9_write_12 (F P : Nat) (S : xSt) : Nat → Nat → Nat → Int32 → xDt → Option (Int32 × xDt)
  | 0 => fun _ _ _ _ => none
  | n + 1 => f_X9_write_12s F P S (f_X9_write_12 F P S n)
set_option maxHeartbeats 4000000 in
theorem t_X9_write_12s {F P : Nat} {S : xSt} (hS : xWF S) {rec_12 : Nat → Nat → Int32 → xDt → Option (Int32 × xDt)} (hrec_12 : ∀ {v0 : Nat} {v1 : Nat} {v2 : Int32} {D : xDt} {r : Int32 × xDt}, xK S v0 9 → xK S v1 2 → rec_12 v0 v1 v2 D = some r → yEx md_X9_write 3 12 [(0, .ref v0), (1, .ref v1), (2, .int v2)] [] S D (xQi S r)) {v0 : Nat} {v1 : Nat} {v2 : Int32} {D : xDt} {r : Int32 × xDt} (k0 : xK S v0 9) (k1 : xK S v1 2) (h : f_X9_write_12s F P S rec_12 v0 v1 v2 D = some r) : yEx md_X9_write 3 12 [(0, .ref v0), (1, .ref v1), (2, .int v2)] [] S D (xQi S r) := by
  unfold f_X9_write_12s at h
  refine x_iload_n dX9_write_12 2 rfl ?_
  refine x_aload_n dX9_write_13 1 rfl ?_
  refine y_geti fl_RX9_26 dX9_write_14 rfl k1 ?_
  refine x_icmp_ge 63 dX9_write_17 (by decide) (fun c => ?_) (fun c => ?_)
  · rw [if_pos c] at h
    refine x_aload_n dX9_write_63 0 rfl ?_
    refine y_geti fl_RX9_19 dX9_write_64 rfl k0 ?_
    obtain rfl := Option.some.inj h
    exact y_iret rfl dX9_write_67
  · rw [if_neg c] at h
    refine x_aload_n dX9_write_20 1 rfl ?_
    refine y_getr (kd := 100) hS fl_RX9_29 dX9_write_21 rfl k1 ?_
    refine x_iload_n dX9_write_24 2 rfl ?_
    refine xgrd_e h (fun g1 h => ?_)
    refine y_iald dX9_write_25 ((hS.f k1 0 100 rfl).2) g1 ?_
    refine xlet_e h (fun v3_2 ev3_2 h => ?_)
    refine y_istore_n v3_2 ev3_2 [(3, .int v3_2), (0, .ref v0), (1, .ref v1), (2, .int v2)] dX9_write_26 (by show _ < 4; decide) rfl ?_
    refine x_iload_n dX9_write_27 0 rfl ?_
    refine xbnd_e h (fun q3 e3 h => ?_)
    refine y_callNi (As := [.int v3_2]) (q := q3) cn_RX9_32 dX9_write_28 rfl (Nat.le_of_ble_eq_true rfl) (by omega) (S_X11_signOf hS e3) ?_
    refine xbnd_e h (fun q4 e4 h => ?_)
    refine y_callNi (As := [.int q3.1]) (q := q4) cn_RX9_36 dX9_write_31 rfl (Nat.le_of_ble_eq_true rfl) (by omega) (S_X11_isLeaf hS e4) ?_
    refine x_if_eq 52 dX9_write_34 (by decide) (fun c => ?_) (fun c => ?_)
    · rw [if_pos c] at h
      refine x_aload_n dX9_write_52 1 rfl ?_
      refine x_iload_n dX9_write_53 0 rfl ?_
      refine xbnd_e h (fun q5 e5 h => ?_)
      refine y_callVv (As := [.int v3_2]) (q := q5) cv_RX9_47 dX9_write_54 k0 rfl (Nat.le_of_ble_eq_true rfl) (by omega) (S_X9_start hS k0 e5) ?_
      refine x_lv (lv' := [(0, .ref v0), (1, .ref v1), (2, .int v2)]) [1, 2, 3] rfl ?_
      exact t_X9_write_57 hS hrec_12 k0 k1 h
    · rw [if_neg c] at h
      refine x_aload_n dX9_write_37 1 rfl ?_
      refine x_iload_n dX9_write_38 0 rfl ?_
      refine xbnd_e h (fun q6 e6 h => ?_)
      refine y_callNi (As := [.int v3_2]) (q := q6) cn_RX9_32 dX9_write_39 rfl (Nat.le_of_ble_eq_true rfl) (by omega) (S_X11_signOf hS e6) ?_
      refine xbnd_e h (fun q7 e7 h => ?_)
      refine y_callVv (As := [.int q6.1]) (q := q7) cv_RX9_40 dX9_write_42 k0 rfl (Nat.le_of_ble_eq_true rfl) (by omega) (S_X9_put hS k0 e7) ?_
      refine x_aload_n dX9_write_45 1 rfl ?_
      refine xbnd_e h (fun q8 e8 h => ?_)
      refine y_callVv (As := []) (q := q8) cv_RX9_44 dX9_write_46 k0 rfl (Nat.le_of_ble_eq_true rfl) (by omega) (S_X9_finish hS k0 e8) ?_
      refine x_goto 57 dX9_write_49 (by decide) ?_
      refine x_lv (lv' := [(0, .ref v0), (1, .ref v1), (2, .int v2)]) [1, 2, 3] rfl ?_
      exact t_X9_write_57 hS hrec_12 k0 k1 h
theorem t_X9_write_12 {F P : Nat} {S : xSt} (hS : xWF S) : ∀ (n : Nat) {v0 : Nat} {v1 : Nat} {v2 : Int32} {D : xDt} {r : Int32 × xDt}, xK S v0 9 → xK S v1 2 → f_X9_write_12 F P S n v0 v1 v2 D = some r → yEx md_X9_write 3 12 [(0, .ref v0), (1, .ref v1), (2, .int v2)] [] S D (xQi S r) := by
  intro n
  induction n with
  | zero => intros; rename_i h; cases h
  | succ n ih =>
    intro v0 v1 v2 D r k0 k1 h
    exact t_X9_write_12s hS (fun k0 k1 h => ih k0 k1 h) k0 k1 h

def f_X9_write (F P : Nat) (S : xSt) (v0 : Nat) (v1 : Nat) (D : xDt) : Option (Int32 × xDt) :=
  xlet (xup D.1 v0 1 0, D.2) fun D1 => xlet (xup D1.1 v0 3 0, D1.2) fun D2 => f_X9_write_12 F P S F v0 v1 0 D2
set_option maxHeartbeats 4000000 in
theorem S_X9_write {F P : Nat} {S : xSt} (hS : xWF S) {v0 : Nat} {v1 : Nat} {D : xDt} {r : Int32 × xDt} (k0 : xK S v0 9) (k1 : xK S v1 2) (h : f_X9_write F P S v0 v1 D = some r) : xSp md_X9_write (3, 0, 0) [.ref v0, .ref v1] (S, D) (xQi S r) := by
  unfold f_X9_write at h
  refine xEntry (by decide) (Nat.le_of_ble_eq_true rfl) ?_
  refine x_lv (lv' := [(0, .ref v0), (1, .ref v1)]) [0, 1] rfl ?_
  refine x_aload_n dX9_write_0 0 rfl ?_
  refine x_iconst 0 dX9_write_1 (by decide) ?_
  refine xlet_e h (fun D1 eD1 h => ?_)
  refine y_puti fp_RX9_19 dX9_write_2 rfl k0 eD1 ?_
  refine x_aload_n dX9_write_5 0 rfl ?_
  refine x_iconst 0 dX9_write_6 (by decide) ?_
  refine xlet_e h (fun D2 eD2 h => ?_)
  refine y_puti fp_RX9_23 dX9_write_7 rfl k0 eD2 ?_
  refine x_iconst 0 dX9_write_10 (by decide) ?_
  refine y_istore_n 0 rfl [(2, .int 0), (0, .ref v0), (1, .ref v1)] dX9_write_11 (by show _ < 4; decide) rfl ?_
  refine x_lv (lv' := [(0, .ref v0), (1, .ref v1), (2, .int 0)]) [1, 2, 0] rfl ?_
  exact t_X9_write_12 hS F k0 k1 h

theorem dX10_has_0 : decode cX10_has 0 = .ok (.iload_n 1, 1) := by decide +kernel
theorem dX10_has_1 : decode cX10_has 1 = .ok (.ifCond .lt 15, 3) := by decide +kernel
theorem dX10_has_4 : decode cX10_has 4 = .ok (.iload_n 1, 1) := by decide +kernel
theorem dX10_has_5 : decode cX10_has 5 = .ok (.aload_n 0, 1) := by decide +kernel
theorem dX10_has_6 : decode cX10_has 6 = .ok (.getfield 18, 3) := by decide +kernel
theorem dX10_has_9 : decode cX10_has 9 = .ok (.if_icmp .ge 7, 3) := by decide +kernel
theorem dX10_has_12 : decode cX10_has 12 = .ok (.iconst 1, 1) := by decide +kernel
theorem dX10_has_13 : decode cX10_has 13 = .ok (.goto 4, 3) := by decide +kernel
theorem dX10_has_16 : decode cX10_has 16 = .ok (.iconst 0, 1) := by decide +kernel
theorem dX10_has_17 : decode cX10_has 17 = .ok (.ireturn, 1) := by decide +kernel
def f_X10_has_16 (F P : Nat) (S : xSt) (D : xDt) : Option (Int32 × xDt) :=
  some (0, D)
set_option maxHeartbeats 4000000 in
theorem t_X10_has_16 {F P : Nat} {S : xSt} (hS : xWF S) {D : xDt} {r : Int32 × xDt} (h : f_X10_has_16 F P S D = some r) : yEx md_X10_has 0 16 [] [] S D (xQi S r) := by
  unfold f_X10_has_16 at h
  refine x_iconst 0 dX10_has_16 (by decide) ?_
  obtain rfl := Option.some.inj h
  exact y_zret rfl rfl dX10_has_17

def f_X10_has (F P : Nat) (S : xSt) (v0 : Nat) (v1 : Int32) (D : xDt) : Option (Int32 × xDt) :=
  if v1 < 0 then (f_X10_has_16 F P S D) else (if (D.1 v0 0) ≤ v1 then (f_X10_has_16 F P S D) else (some (1, D)))
set_option maxHeartbeats 4000000 in
theorem S_X10_has {F P : Nat} {S : xSt} (hS : xWF S) {v0 : Nat} {v1 : Int32} {D : xDt} {r : Int32 × xDt} (k0 : xK S v0 10) (h : f_X10_has F P S v0 v1 D = some r) : xSp md_X10_has (0, 0, 0) [.ref v0, .int v1] (S, D) (xQi S r) := by
  unfold f_X10_has at h
  refine xEntry (by decide) (Nat.le_of_ble_eq_true rfl) ?_
  refine x_lv (lv' := [(0, .ref v0), (1, .int v1)]) [0, 1] rfl ?_
  refine x_iload_n dX10_has_0 1 rfl ?_
  refine x_if_lt 16 dX10_has_1 (by decide) (fun c => ?_) (fun c => ?_)
  · rw [if_pos c] at h
    refine x_lv (lv' := []) [] rfl ?_
    exact t_X10_has_16 hS h
  · rw [if_neg c] at h
    refine x_iload_n dX10_has_4 1 rfl ?_
    refine x_aload_n dX10_has_5 0 rfl ?_
    refine y_geti fl_RX10_18 dX10_has_6 rfl k0 ?_
    refine x_icmp_ge 16 dX10_has_9 (by decide) (fun c => ?_) (fun c => ?_)
    · rw [if_pos c] at h
      refine x_lv (lv' := []) [] rfl ?_
      exact t_X10_has_16 hS h
    · rw [if_neg c] at h
      refine x_iconst 1 dX10_has_12 (by decide) ?_
      refine x_goto 17 dX10_has_13 (by decide) ?_
      obtain rfl := Option.some.inj h
      exact y_zret rfl rfl dX10_has_17

