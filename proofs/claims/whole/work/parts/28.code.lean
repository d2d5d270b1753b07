/-! printed by wip/whole/gen.py: the methods as plain functions, each proved to be what its bytecode does -/
theorem dX12_laid_0 : decode cX12_laid 0 = .ok (.aload_n 0, 1) := by decide +kernel
theorem dX12_laid_1 : decode cX12_laid 1 = .ok (.sipush 12800, 3) := by decide +kernel
theorem dX12_laid_4 : decode cX12_laid 4 = .ok (.putfield 153, 3) := by decide +kernel
theorem dX12_laid_7 : decode cX12_laid 7 = .ok (.aload_n 0, 1) := by decide +kernel
theorem dX12_laid_8 : decode cX12_laid 8 = .ok (.iload_n 1, 1) := by decide +kernel
theorem dX12_laid_9 : decode cX12_laid 9 = .ok (.invokevirtual 164, 3) := by decide +kernel
theorem dX12_laid_12 : decode cX12_laid 12 = .ok (.istore_n 3, 1) := by decide +kernel
theorem dX12_laid_13 : decode cX12_laid 13 = .ok (.aload_n 0, 1) := by decide +kernel
theorem dX12_laid_14 : decode cX12_laid 14 = .ok (.getfield 153, 3) := by decide +kernel
theorem dX12_laid_17 : decode cX12_laid 17 = .ok (.sipush 12800, 3) := by decide +kernel
theorem dX12_laid_20 : decode cX12_laid 20 = .ok (.isub, 1) := by decide +kernel
theorem dX12_laid_21 : decode cX12_laid 21 = .ok (.istore 4, 2) := by decide +kernel
theorem dX12_laid_23 : decode cX12_laid 23 = .ok (.iconst 0, 1) := by decide +kernel
theorem dX12_laid_24 : decode cX12_laid 24 = .ok (.istore 5, 2) := by decide +kernel
theorem dX12_laid_26 : decode cX12_laid 26 = .ok (.iload 5, 2) := by decide +kernel
theorem dX12_laid_28 : decode cX12_laid 28 = .ok (.iload 4, 2) := by decide +kernel
theorem dX12_laid_30 : decode cX12_laid 30 = .ok (.if_icmp .ge 159, 3) := by decide +kernel
theorem dX12_laid_33 : decode cX12_laid 33 = .ok (.aload_n 0, 1) := by decide +kernel
theorem dX12_laid_34 : decode cX12_laid 34 = .ok (.getfield 72, 3) := by decide +kernel
theorem dX12_laid_37 : decode cX12_laid 37 = .ok (.iload_n 2, 1) := by decide +kernel
theorem dX12_laid_38 : decode cX12_laid 38 = .ok (.iload 5, 2) := by decide +kernel
theorem dX12_laid_40 : decode cX12_laid 40 = .ok (.iadd, 1) := by decide +kernel
theorem dX12_laid_41 : decode cX12_laid 41 = .ok (.aload_n 0, 1) := by decide +kernel
theorem dX12_laid_42 : decode cX12_laid 42 = .ok (.getfield 72, 3) := by decide +kernel
theorem dX12_laid_45 : decode cX12_laid 45 = .ok (.sipush 12800, 3) := by decide +kernel
theorem dX12_laid_48 : decode cX12_laid 48 = .ok (.iload 5, 2) := by decide +kernel
theorem dX12_laid_50 : decode cX12_laid 50 = .ok (.iadd, 1) := by decide +kernel
theorem dX12_laid_51 : decode cX12_laid 51 = .ok (.iaload, 1) := by decide +kernel
theorem dX12_laid_52 : decode cX12_laid 52 = .ok (.iastore, 1) := by decide +kernel
theorem dX12_laid_53 : decode cX12_laid 53 = .ok (.aload_n 0, 1) := by decide +kernel
theorem dX12_laid_54 : decode cX12_laid 54 = .ok (.getfield 75, 3) := by decide +kernel
theorem dX12_laid_57 : decode cX12_laid 57 = .ok (.iload_n 2, 1) := by decide +kernel
theorem dX12_laid_58 : decode cX12_laid 58 = .ok (.iload 5, 2) := by decide +kernel
theorem dX12_laid_60 : decode cX12_laid 60 = .ok (.iadd, 1) := by decide +kernel
theorem dX12_laid_61 : decode cX12_laid 61 = .ok (.aload_n 0, 1) := by decide +kernel
theorem dX12_laid_62 : decode cX12_laid 62 = .ok (.getfield 75, 3) := by decide +kernel
theorem dX12_laid_65 : decode cX12_laid 65 = .ok (.sipush 12800, 3) := by decide +kernel
theorem dX12_laid_68 : decode cX12_laid 68 = .ok (.iload 5, 2) := by decide +kernel
theorem dX12_laid_70 : decode cX12_laid 70 = .ok (.iadd, 1) := by decide +kernel
theorem dX12_laid_71 : decode cX12_laid 71 = .ok (.iaload, 1) := by decide +kernel
theorem dX12_laid_72 : decode cX12_laid 72 = .ok (.ifCond .ge 8, 3) := by decide +kernel
theorem dX12_laid_75 : decode cX12_laid 75 = .ok (.bipush (-2), 2) := by decide +kernel
theorem dX12_laid_77 : decode cX12_laid 77 = .ok (.goto 20, 3) := by decide +kernel
theorem dX12_laid_80 : decode cX12_laid 80 = .ok (.aload_n 0, 1) := by decide +kernel
theorem dX12_laid_81 : decode cX12_laid 81 = .ok (.getfield 75, 3) := by decide +kernel
theorem dX12_laid_84 : decode cX12_laid 84 = .ok (.sipush 12800, 3) := by decide +kernel
theorem dX12_laid_87 : decode cX12_laid 87 = .ok (.iload 5, 2) := by decide +kernel
theorem dX12_laid_89 : decode cX12_laid 89 = .ok (.iadd, 1) := by decide +kernel
theorem dX12_laid_90 : decode cX12_laid 90 = .ok (.iaload, 1) := by decide +kernel
theorem dX12_laid_91 : decode cX12_laid 91 = .ok (.sipush 12800, 3) := by decide +kernel
theorem dX12_laid_94 : decode cX12_laid 94 = .ok (.isub, 1) := by decide +kernel
theorem dX12_laid_95 : decode cX12_laid 95 = .ok (.iload_n 2, 1) := by decide +kernel
theorem dX12_laid_96 : decode cX12_laid 96 = .ok (.iadd, 1) := by decide +kernel
theorem dX12_laid_97 : decode cX12_laid 97 = .ok (.iastore, 1) := by decide +kernel
theorem dX12_laid_98 : decode cX12_laid 98 = .ok (.aload_n 0, 1) := by decide +kernel
theorem dX12_laid_99 : decode cX12_laid 99 = .ok (.getfield 78, 3) := by decide +kernel
theorem dX12_laid_102 : decode cX12_laid 102 = .ok (.iload_n 2, 1) := by decide +kernel
theorem dX12_laid_103 : decode cX12_laid 103 = .ok (.iload 5, 2) := by decide +kernel
theorem dX12_laid_105 : decode cX12_laid 105 = .ok (.iadd, 1) := by decide +kernel
theorem dX12_laid_106 : decode cX12_laid 106 = .ok (.aload_n 0, 1) := by decide +kernel
theorem dX12_laid_107 : decode cX12_laid 107 = .ok (.getfield 78, 3) := by decide +kernel
theorem dX12_laid_110 : decode cX12_laid 110 = .ok (.sipush 12800, 3) := by decide +kernel
theorem dX12_laid_113 : decode cX12_laid 113 = .ok (.iload 5, 2) := by decide +kernel
theorem dX12_laid_115 : decode cX12_laid 115 = .ok (.iadd, 1) := by decide +kernel
theorem dX12_laid_116 : decode cX12_laid 116 = .ok (.iaload, 1) := by decide +kernel
theorem dX12_laid_117 : decode cX12_laid 117 = .ok (.ifCond .ge 8, 3) := by decide +kernel
theorem dX12_laid_120 : decode cX12_laid 120 = .ok (.bipush (-2), 2) := by decide +kernel
theorem dX12_laid_122 : decode cX12_laid 122 = .ok (.goto 20, 3) := by decide +kernel
theorem dX12_laid_125 : decode cX12_laid 125 = .ok (.aload_n 0, 1) := by decide +kernel
theorem dX12_laid_126 : decode cX12_laid 126 = .ok (.getfield 78, 3) := by decide +kernel
theorem dX12_laid_129 : decode cX12_laid 129 = .ok (.sipush 12800, 3) := by decide +kernel
theorem dX12_laid_132 : decode cX12_laid 132 = .ok (.iload 5, 2) := by decide +kernel
theorem dX12_laid_134 : decode cX12_laid 134 = .ok (.iadd, 1) := by decide +kernel
theorem dX12_laid_135 : decode cX12_laid 135 = .ok (.iaload, 1) := by decide +kernel
theorem dX12_laid_136 : decode cX12_laid 136 = .ok (.sipush 12800, 3) := by decide +kernel
theorem dX12_laid_139 : decode cX12_laid 139 = .ok (.isub, 1) := by decide +kernel
theorem dX12_laid_140 : decode cX12_laid 140 = .ok (.iload_n 2, 1) := by decide +kernel
theorem dX12_laid_141 : decode cX12_laid 141 = .ok (.iadd, 1) := by decide +kernel
theorem dX12_laid_142 : decode cX12_laid 142 = .ok (.iastore, 1) := by decide +kernel
theorem dX12_laid_143 : decode cX12_laid 143 = .ok (.aload_n 0, 1) := by decide +kernel
theorem dX12_laid_144 : decode cX12_laid 144 = .ok (.getfield 81, 3) := by decide +kernel
theorem dX12_laid_147 : decode cX12_laid 147 = .ok (.iload_n 2, 1) := by decide +kernel
theorem dX12_laid_148 : decode cX12_laid 148 = .ok (.iload 5, 2) := by decide +kernel
theorem dX12_laid_150 : decode cX12_laid 150 = .ok (.iadd, 1) := by decide +kernel
theorem dX12_laid_151 : decode cX12_laid 151 = .ok (.aload_n 0, 1) := by decide +kernel
theorem dX12_laid_152 : decode cX12_laid 152 = .ok (.getfield 81, 3) := by decide +kernel
theorem dX12_laid_155 : decode cX12_laid 155 = .ok (.sipush 12800, 3) := by decide +kernel
theorem dX12_laid_158 : decode cX12_laid 158 = .ok (.iload 5, 2) := by decide +kernel
theorem dX12_laid_160 : decode cX12_laid 160 = .ok (.iadd, 1) := by decide +kernel
theorem dX12_laid_161 : decode cX12_laid 161 = .ok (.iaload, 1) := by decide +kernel
theorem dX12_laid_162 : decode cX12_laid 162 = .ok (.iastore, 1) := by decide +kernel
theorem dX12_laid_163 : decode cX12_laid 163 = .ok (.aload_n 0, 1) := by decide +kernel
theorem dX12_laid_164 : decode cX12_laid 164 = .ok (.getfield 84, 3) := by decide +kernel
theorem dX12_laid_167 : decode cX12_laid 167 = .ok (.iload_n 2, 1) := by decide +kernel
theorem dX12_laid_168 : decode cX12_laid 168 = .ok (.iload 5, 2) := by decide +kernel
theorem dX12_laid_170 : decode cX12_laid 170 = .ok (.iadd, 1) := by decide +kernel
theorem dX12_laid_171 : decode cX12_laid 171 = .ok (.aload_n 0, 1) := by decide +kernel
theorem dX12_laid_172 : decode cX12_laid 172 = .ok (.getfield 84, 3) := by decide +kernel
theorem dX12_laid_175 : decode cX12_laid 175 = .ok (.sipush 12800, 3) := by decide +kernel
theorem dX12_laid_178 : decode cX12_laid 178 = .ok (.iload 5, 2) := by decide +kernel
theorem dX12_laid_180 : decode cX12_laid 180 = .ok (.iadd, 1) := by decide +kernel
theorem dX12_laid_181 : decode cX12_laid 181 = .ok (.iaload, 1) := by decide +kernel
theorem dX12_laid_182 : decode cX12_laid 182 = .ok (.iastore, 1) := by decide +kernel
theorem dX12_laid_183 : decode cX12_laid 183 = .ok (.iinc 5 1, 3) := by decide +kernel
theorem dX12_laid_186 : decode cX12_laid 186 = .ok (.goto (-160), 3) := by decide +kernel
theorem dX12_laid_189 : decode cX12_laid 189 = .ok (.iload_n 3, 1) := by decide +kernel
theorem dX12_laid_190 : decode cX12_laid 190 = .ok (.sipush 12800, 3) := by decide +kernel
theorem dX12_laid_193 : decode cX12_laid 193 = .ok (.isub, 1) := by decide +kernel
theorem dX12_laid_194 : decode cX12_laid 194 = .ok (.iload_n 2, 1) := by decide +kernel
theorem dX12_laid_195 : decode cX12_laid 195 = .ok (.iadd, 1) := by decide +kernel
theorem dX12_laid_196 : decode cX12_laid 196 = .ok (.ireturn, 1) := by decide +kernel
def f_X12_laid_142 (F P : Nat) (S : xSt) (rec_26 : Nat → Int32 → Int32 → Int32 → Int32 → xDt → Option (Int32 × xDt)) (v0 : Nat) (v2 : Int32) (v3 : Int32) (v4 : Int32) (v5 : Int32) (s0 : Int32) (s1 : Int32) (s2 : Nat) (D : xDt) : Option (Int32 × xDt) :=
  xgrd (xin s1 (xl S s2)) (xlet (xup D.1 s2 (s1).toNatClampNeg s0, D.2) fun D2 => xgrd (xin (12800 + v5) (xl S (xr S v0 11))) (xgrd (xin (v2 + v5) (xl S (xr S v0 11))) (xlet (xup D2.1 (xr S v0 11) (v2 + v5).toNatClampNeg (D2.1 (xr S v0 11) (12800 + v5).toNatClampNeg), D2.2) fun D5 => xgrd (xin (12800 + v5) (xl S (xr S v0 12))) (xgrd (xin (v2 + v5) (xl S (xr S v0 12))) (xlet (xup D5.1 (xr S v0 12) (v2 + v5).toNatClampNeg (D5.1 (xr S v0 12) (12800 + v5).toNatClampNeg), D5.2) fun D8 => xlet (v5 + 1) fun v5_9 => rec_26 v0 v2 v3 v4 v5_9 D8)))))
set_option maxHeartbeats 4000000 in
theorem t_X12_laid_142 {F P : Nat} {S : xSt} (hS : xWF S) {rec_26 : Nat → Int32 → Int32 → Int32 → Int32 → xDt → Option (Int32 × xDt)} (hrec_26 : ∀ {v0 : Nat} {v2 : Int32} {v3 : Int32} {v4 : Int32} {v5 : Int32} {D : xDt} {r : Int32 × xDt}, xK S v0 12 → rec_26 v0 v2 v3 v4 v5 D = some r → yEx md_X12_laid (P + 2) 26 [(0, .ref v0), (2, .int v2), (3, .int v3), (4, .int v4), (5, .int v5)] [] S D (xQi S r)) {v0 : Nat} {v2 : Int32} {v3 : Int32} {v4 : Int32} {v5 : Int32} {s0 : Int32} {s1 : Int32} {s2 : Nat} {D : xDt} {r : Int32 × xDt} (k0 : xK S v0 12) (ks2 : xK S s2 100) (h : f_X12_laid_142 F P S rec_26 v0 v2 v3 v4 v5 s0 s1 s2 D = some r) : yEx md_X12_laid (P + 2) 142 [(0, .ref v0), (2, .int v2), (3, .int v3), (4, .int v4), (5, .int v5)] [.int s0, .int s1, .ref s2] S D (xQi S r) := by
  unfold f_X12_laid_142 at h
  refine xgrd_e h (fun g1 h => ?_)
  refine xlet_e h (fun D2 eD2 h => ?_)
  refine y_iast dX12_laid_142 ks2 g1 eD2 ?_
  refine x_aload_n dX12_laid_143 0 rfl ?_
  refine y_getr (kd := 100) hS fl_RX12_81 dX12_laid_144 rfl k0 ?_
  refine x_iload_n dX12_laid_147 1 rfl ?_
  refine x_iload dX12_laid_148 4 rfl ?_
  refine x_iadd dX12_laid_150 ?_
  refine x_aload_n dX12_laid_151 0 rfl ?_
  refine y_getr (kd := 100) hS fl_RX12_81 dX12_laid_152 rfl k0 ?_
  refine x_sipush 12800 dX12_laid_155 (by decide) ?_
  refine x_iload dX12_laid_158 4 rfl ?_
  refine x_iadd dX12_laid_160 ?_
  refine xgrd_e h (fun g3 h => ?_)
  refine y_iald dX12_laid_161 ((hS.f k0 11 100 rfl).2) g3 ?_
  refine xgrd_e h (fun g4 h => ?_)
  refine xlet_e h (fun D5 eD5 h => ?_)
  refine y_iast dX12_laid_162 ((hS.f k0 11 100 rfl).2) g4 eD5 ?_
  refine x_aload_n dX12_laid_163 0 rfl ?_
  refine y_getr (kd := 100) hS fl_RX12_84 dX12_laid_164 rfl k0 ?_
  refine x_iload_n dX12_laid_167 1 rfl ?_
  refine x_iload dX12_laid_168 4 rfl ?_
  refine x_iadd dX12_laid_170 ?_
  refine x_aload_n dX12_laid_171 0 rfl ?_
  refine y_getr (kd := 100) hS fl_RX12_84 dX12_laid_172 rfl k0 ?_
  refine x_sipush 12800 dX12_laid_175 (by decide) ?_
  refine x_iload dX12_laid_178 4 rfl ?_
  refine x_iadd dX12_laid_180 ?_
  refine xgrd_e h (fun g6 h => ?_)
  refine y_iald dX12_laid_181 ((hS.f k0 12 100 rfl).2) g6 ?_
  refine xgrd_e h (fun g7 h => ?_)
  refine xlet_e h (fun D8 eD8 h => ?_)
  refine y_iast dX12_laid_182 ((hS.f k0 12 100 rfl).2) g7 eD8 ?_
  refine xlet_e h (fun v5_9 ev5_9 h => ?_)
  refine y_iinc v5_9 ev5_9 (by decide) [(5, .int v5_9), (0, .ref v0), (2, .int v2), (3, .int v3), (4, .int v4)] dX12_laid_183 4 rfl (by show _ < 6; decide) rfl ?_
  refine x_goto 26 dX12_laid_186 (by decide) ?_
  refine x_lv (lv' := [(0, .ref v0), (2, .int v2), (3, .int v3), (4, .int v4), (5, .int v5_9)]) [1, 2, 3, 4, 0] rfl ?_
  exact hrec_26 k0 h

def f_X12_laid_97 (F P : Nat) (S : xSt) (rec_26 : Nat → Int32 → Int32 → Int32 → Int32 → xDt → Option (Int32 × xDt)) (v0 : Nat) (v2 : Int32) (v3 : Int32) (v4 : Int32) (v5 : Int32) (s0 : Int32) (s1 : Int32) (s2 : Nat) (D : xDt) : Option (Int32 × xDt) :=
  xgrd (xin s1 (xl S s2)) (xlet (xup D.1 s2 (s1).toNatClampNeg s0, D.2) fun D2 => xgrd (xin (12800 + v5) (xl S (xr S v0 10))) (if 0 ≤ (D2.1 (xr S v0 10) (12800 + v5).toNatClampNeg) then (xgrd (xin (12800 + v5) (xl S (xr S v0 10))) (f_X12_laid_142 F P S rec_26 v0 v2 v3 v4 v5 (((D2.1 (xr S v0 10) (12800 + v5).toNatClampNeg) - 12800) + v2) (v2 + v5) (xr S v0 10) D2)) else (f_X12_laid_142 F P S rec_26 v0 v2 v3 v4 v5 (-2) (v2 + v5) (xr S v0 10) D2)))
set_option maxHeartbeats 4000000 in
theorem t_X12_laid_97 {F P : Nat} {S : xSt} (hS : xWF S) {rec_26 : Nat → Int32 → Int32 → Int32 → Int32 → xDt → Option (Int32 × xDt)} (hrec_26 : ∀ {v0 : Nat} {v2 : Int32} {v3 : Int32} {v4 : Int32} {v5 : Int32} {D : xDt} {r : Int32 × xDt}, xK S v0 12 → rec_26 v0 v2 v3 v4 v5 D = some r → yEx md_X12_laid (P + 2) 26 [(0, .ref v0), (2, .int v2), (3, .int v3), (4, .int v4), (5, .int v5)] [] S D (xQi S r)) {v0 : Nat} {v2 : Int32} {v3 : Int32} {v4 : Int32} {v5 : Int32} {s0 : Int32} {s1 : Int32} {s2 : Nat} {D : xDt} {r : Int32 × xDt} (k0 : xK S v0 12) (ks2 : xK S s2 100) (h : f_X12_laid_97 F P S rec_26 v0 v2 v3 v4 v5 s0 s1 s2 D = some r) : yEx md_X12_laid (P + 2) 97 [(0, .ref v0), (2, .int v2), (3, .int v3), (4, .int v4), (5, .int v5)] [.int s0, .int s1, .ref s2] S D (xQi S r) := by
  unfold f_X12_laid_97 at h
  refine xgrd_e h (fun g1 h => ?_)
  refine xlet_e h (fun D2 eD2 h => ?_)
  refine y_iast dX12_laid_97 ks2 g1 eD2 ?_
  refine x_aload_n dX12_laid_98 0 rfl ?_
  refine y_getr (kd := 100) hS fl_RX12_78 dX12_laid_99 rfl k0 ?_
  refine x_iload_n dX12_laid_102 1 rfl ?_
  refine x_iload dX12_laid_103 4 rfl ?_
  refine x_iadd dX12_laid_105 ?_
  refine x_aload_n dX12_laid_106 0 rfl ?_
  refine y_getr (kd := 100) hS fl_RX12_78 dX12_laid_107 rfl k0 ?_
  refine x_sipush 12800 dX12_laid_110 (by decide) ?_
  refine x_iload dX12_laid_113 4 rfl ?_
  refine x_iadd dX12_laid_115 ?_
  refine xgrd_e h (fun g3 h => ?_)
  refine y_iald dX12_laid_116 ((hS.f k0 10 100 rfl).2) g3 ?_
  refine x_if_ge 125 dX12_laid_117 (by decide) (fun c => ?_) (fun c => ?_)
  · rw [if_pos c] at h
    refine x_aload_n dX12_laid_125 0 rfl ?_
    refine y_getr (kd := 100) hS fl_RX12_78 dX12_laid_126 rfl k0 ?_
    refine x_sipush 12800 dX12_laid_129 (by decide) ?_
    refine x_iload dX12_laid_132 4 rfl ?_
    refine x_iadd dX12_laid_134 ?_
    refine xgrd_e h (fun g4 h => ?_)
    refine y_iald dX12_laid_135 ((hS.f k0 10 100 rfl).2) g4 ?_
    refine x_sipush 12800 dX12_laid_136 (by decide) ?_
    refine x_isub dX12_laid_139 ?_
    refine x_iload_n dX12_laid_140 1 rfl ?_
    refine x_iadd dX12_laid_141 ?_
    exact t_X12_laid_142 hS hrec_26 k0 ((hS.f k0 10 100 rfl).2) h
  · rw [if_neg c] at h
    refine x_bipush (-2) dX12_laid_120 (by decide) ?_
    refine x_goto 142 dX12_laid_122 (by decide) ?_
    exact t_X12_laid_142 hS hrec_26 k0 ((hS.f k0 10 100 rfl).2) h

def f_X12_laid_26s (F P : Nat) (S : xSt) (rec_26 : Nat → Int32 → Int32 → Int32 → Int32 → xDt → Option (Int32 × xDt)) (v0 : Nat) (v2 : Int32) (v3 : Int32) (v4 : Int32) (v5 : Int32) (D : xDt) : Option (Int32 × xDt) :=
  if v4 ≤ v5 then (some ((v3 - 12800) + v2, D)) else (xgrd (xin (12800 + v5) (xl S (xr S v0 8))) (xgrd (xin (v2 + v5) (xl S (xr S v0 8))) (xlet (xup D.1 (xr S v0 8) (v2 + v5).toNatClampNeg (D.1 (xr S v0 8) (12800 + v5).toNatClampNeg), D.2) fun D3 => xgrd (xin (12800 + v5) (xl S (xr S v0 9))) (if 0 ≤ (D3.1 (xr S v0 9) (12800 + v5).toNatClampNeg) then (xgrd (xin (12800 + v5) (xl S (xr S v0 9))) (f_X12_laid_97 F P S rec_26 v0 v2 v3 v4 v5 (((D3.1 (xr S v0 9) (12800 + v5).toNatClampNeg) - 12800) + v2) (v2 + v5) (xr S v0 9) D3)) else (f_X12_laid_97 F P S rec_26 v0 v2 v3 v4 v5 (-2) (v2 + v5) (xr S v0 9) D3)))))
def f_X12_laid_26 (F P : Nat) (S : xSt) : Nat → Nat → Int32 → Int32 → Int32 → Int32 → xDt → Option (Int32 × xDt)
  | 0 => fun _ _ _ _ _ _ => none
  | n + 1 => f_X12_laid_26s F P S (f_X12_laid_26 F P S n)
set_option maxHeartbeats 4000000 in
theorem t_X12_laid_26s {F P : Nat} {S : xSt} (hS : xWF S) {rec_26 : Nat → Int32 → Int32 → Int32 → Int32 → xDt → Option (Int32 × xDt)} (hrec_26 : ∀ {v0 : Nat} {v2 : Int32} {v3 : Int32} {v4 : Int32} {v5 : Int32} {D : xDt} {r : Int32 × xDt}, xK S v0 12 → rec_26 v0 v2 v3 v4 v5 D = some r → yEx md_X12_laid (P + 2) 26 [(0, .ref v0), (2, .int v2), (3, .int v3), (4, .int v4), (5, .int v5)] [] S D (xQi S r)) {v0 : Nat} {v2 : Int32} {v3 : Int32} {v4 : Int32} {v5 : Int32} {D : xDt} {r : Int32 × xDt} (k0 : xK S v0 12) (h : f_X12_laid_26s F P S rec_26 v0 v2 v3 v4 v5 D = some r) : yEx md_X12_laid (P + 2) 26 [(0, .ref v0), (2, .int v2), (3, .int v3), (4, .int v4), (5, .int v5)] [] S D (xQi S r) := by
  unfold f_X12_laid_26s at h
  refine x_iload dX12_laid_26 4 rfl ?_
  refine x_iload dX12_laid_28 3 rfl ?_
  refine x_icmp_ge 189 dX12_laid_30 (by decide) (fun c => ?_) (fun c => ?_)
  · rw [if_pos c] at h
    refine x_iload_n dX12_laid_189 2 rfl ?_
    refine x_sipush 12800 dX12_laid_190 (by decide) ?_
    refine x_isub dX12_laid_193 ?_
    refine x_iload_n dX12_laid_194 1 rfl ?_
    refine x_iadd dX12_laid_195 ?_
    obtain rfl := Option.some.inj h
    exact y_iret rfl dX12_laid_196
  · rw [if_neg c] at h
    refine x_aload_n dX12_laid_33 0 rfl ?_
    refine y_getr (kd := 100) hS fl_RX12_72 dX12_laid_34 rfl k0 ?_
    refine x_iload_n dX12_laid_37 1 rfl ?_
    refine x_iload dX12_laid_38 4 rfl ?_
    refine x_iadd dX12_laid_40 ?_
    refine x_aload_n dX12_laid_41 0 rfl ?_
    refine y_getr (kd := 100) hS fl_RX12_72 dX12_laid_42 rfl k0 ?_
    refine x_sipush 12800 dX12_laid_45 (by decide) ?_
    refine x_iload dX12_laid_48 4 rfl ?_
    refine x_iadd dX12_laid_50 ?_
    refine xgrd_e h (fun g1 h => ?_)
    refine y_iald dX12_laid_51 ((hS.f k0 8 100 rfl).2) g1 ?_
    refine xgrd_e h (fun g2 h => ?_)
    refine xlet_e h (fun D3 eD3 h => ?_)
    refine y_iast dX12_laid_52 ((hS.f k0 8 100 rfl).2) g2 eD3 ?_
    refine x_aload_n dX12_laid_53 0 rfl ?_
    refine y_getr (kd := 100) hS fl_RX12_75 dX12_laid_54 rfl k0 ?_
    refine x_iload_n dX12_laid_57 1 rfl ?_
    refine x_iload dX12_laid_58 4 rfl ?_
    refine x_iadd dX12_laid_60 ?_
    refine x_aload_n dX12_laid_61 0 rfl ?_
    refine y_getr (kd := 100) hS fl_RX12_75 dX12_laid_62 rfl k0 ?_
    refine x_sipush 12800 dX12_laid_65 (by decide) ?_
    refine x_iload dX12_laid_68 4 rfl ?_
    refine x_iadd dX12_laid_70 ?_
    refine xgrd_e h (fun g4 h => ?_)
    refine y_iald dX12_laid_71 ((hS.f k0 9 100 rfl).2) g4 ?_
    refine x_if_ge 80 dX12_laid_72 (by decide) (fun c => ?_) (fun c => ?_)
    · rw [if_pos c] at h
      refine x_aload_n dX12_laid_80 0 rfl ?_
      refine y_getr (kd := 100) hS fl_RX12_75 dX12_laid_81 rfl k0 ?_
      refine x_sipush 12800 dX12_laid_84 (by decide) ?_
      refine x_iload dX12_laid_87 4 rfl ?_
      refine x_iadd dX12_laid_89 ?_
      refine xgrd_e h (fun g5 h => ?_)
      refine y_iald dX12_laid_90 ((hS.f k0 9 100 rfl).2) g5 ?_
      refine x_sipush 12800 dX12_laid_91 (by decide) ?_
      refine x_isub dX12_laid_94 ?_
      refine x_iload_n dX12_laid_95 1 rfl ?_
      refine x_iadd dX12_laid_96 ?_
      exact t_X12_laid_97 hS hrec_26 k0 ((hS.f k0 9 100 rfl).2) h
    · rw [if_neg c] at h
      refine x_bipush (-2) dX12_laid_75 (by decide) ?_
      refine x_goto 97 dX12_laid_77 (by decide) ?_
      exact t_X12_laid_97 hS hrec_26 k0 ((hS.f k0 9 100 rfl).2) h
theorem t_X12_laid_26 {F P : Nat} {S : xSt} (hS : xWF S) : ∀ (n : Nat) {v0 : Nat} {v2 : Int32} {v3 : Int32} {v4 : Int32} {v5 : Int32} {D : xDt} {r : Int32 × xDt}, xK S v0 12 → f_X12_laid_26 F P S n v0 v2 v3 v4 v5 D = some r → yEx md_X12_laid (P + 2) 26 [(0, .ref v0), (2, .int v2), (3, .int v3), (4, .int v4), (5, .int v5)] [] S D (xQi S r) := by
  intro n
  induction n with
  | zero => intros; rename_i h; cases h
  | succ n ih =>
    intro v0 v2 v3 v4 v5 D r k0 h
    exact t_X12_laid_26s hS (fun k0 h => ih k0 h) k0 h

def f_X12_laid (F P : Nat) (S : xSt) (v0 : Nat) (v1 : Int32) (v2 : Int32) (D : xDt) : Option (Int32 × xDt) :=
  xlet (xup D.1 v0 13 12800, D.2) fun D1 => (f_X12_copied F P S P v0 v1 D1).bind fun q2 => xlet ((q2.2.1 v0 13) - 12800) fun v4_3 => f_X12_laid_26 F P S F v0 v2 q2.1 v4_3 0 q2.2
set_option maxHeartbeats 4000000 in
theorem S_X12_laid {F P : Nat} {S : xSt} (hS : xWF S) {v0 : Nat} {v1 : Int32} {v2 : Int32} {D : xDt} {r : Int32 × xDt} (k0 : xK S v0 12) (h : f_X12_laid F P S v0 v1 v2 D = some r) : xSp md_X12_laid ((P + 2), 0, 0) [.ref v0, .int v1, .int v2] (S, D) (xQi S r) := by
  unfold f_X12_laid at h
  refine xEntry (by decide) (Nat.le_of_ble_eq_true rfl) ?_
  refine x_lv (lv' := [(0, .ref v0), (1, .int v1), (2, .int v2)]) [0, 1, 2] rfl ?_
  refine x_aload_n dX12_laid_0 0 rfl ?_
  refine x_sipush 12800 dX12_laid_1 (by decide) ?_
  refine xlet_e h (fun D1 eD1 h => ?_)
  refine y_puti fp_RX12_153 dX12_laid_4 rfl k0 eD1 ?_
  refine x_aload_n dX12_laid_7 0 rfl ?_
  refine x_iload_n dX12_laid_8 1 rfl ?_
  refine xbnd_e h (fun q2 e2 h => ?_)
  refine y_callVi (As := [.int v1]) (q := q2) cv_RX12_164 dX12_laid_9 k0 rfl (Nat.le_of_ble_eq_true rfl) (by omega) (S_X12_copied hS P k0 e2) ?_
  refine y_istore_n q2.1 rfl [(3, .int q2.1), (0, .ref v0), (1, .int v1), (2, .int v2)] dX12_laid_12 (by show _ < 6; decide) rfl ?_
  refine x_aload_n dX12_laid_13 1 rfl ?_
  refine y_geti fl_RX12_153 dX12_laid_14 rfl k0 ?_
  refine x_sipush 12800 dX12_laid_17 (by decide) ?_
  refine x_isub dX12_laid_20 ?_
  refine xlet_e h (fun v4_3 ev4_3 h => ?_)
  refine y_istore v4_3 ev4_3 [(4, .int v4_3), (3, .int q2.1), (0, .ref v0), (1, .int v1), (2, .int v2)] dX12_laid_21 (by show _ < 6; decide) rfl ?_
  refine x_iconst 0 dX12_laid_23 (by decide) ?_
  refine y_istore 0 rfl [(5, .int 0), (4, .int v4_3), (3, .int q2.1), (0, .ref v0), (1, .int v1), (2, .int v2)] dX12_laid_24 (by show _ < 6; decide) rfl ?_
  refine x_lv (lv' := [(0, .ref v0), (2, .int v2), (3, .int q2.1), (4, .int v4_3), (5, .int 0)]) [3, 5, 2, 1, 0] rfl ?_
  exact t_X12_laid_26 hS F k0 h

theorem dX12_type_0 : decode cX12_type 0 = .ok (.iload_n 1, 1) := by decide +kernel
theorem dX12_type_1 : decode cX12_type 1 = .ok (.bipush 32, 2) := by decide +kernel
theorem dX12_type_3 : decode cX12_type 3 = .ok (.bipush 126, 2) := by decide +kernel
theorem dX12_type_5 : decode cX12_type 5 = .ok (.invokestatic 10, 3) := by decide +kernel
theorem dX12_type_8 : decode cX12_type 8 = .ok (.ifCond .eq 13, 3) := by decide +kernel
theorem dX12_type_11 : decode cX12_type 11 = .ok (.aload_n 0, 1) := by decide +kernel
theorem dX12_type_12 : decode cX12_type 12 = .ok (.getfield 168, 3) := by decide +kernel
theorem dX12_type_15 : decode cX12_type 15 = .ok (.sipush 200, 3) := by decide +kernel
theorem dX12_type_18 : decode cX12_type 18 = .ok (.if_icmp .ne 5, 3) := by decide +kernel
theorem dX12_type_21 : decode cX12_type 21 = .ok (.iconst (-1), 1) := by decide +kernel
theorem dX12_type_22 : decode cX12_type 22 = .ok (.ireturn, 1) := by decide +kernel
theorem dX12_type_23 : decode cX12_type 23 = .ok (.aload_n 0, 1) := by decide +kernel
theorem dX12_type_24 : decode cX12_type 24 = .ok (.getfield 87, 3) := by decide +kernel
theorem dX12_type_27 : decode cX12_type 27 = .ok (.aload_n 0, 1) := by decide +kernel
theorem dX12_type_28 : decode cX12_type 28 = .ok (.getfield 168, 3) := by decide +kernel
theorem dX12_type_31 : decode cX12_type 31 = .ok (.iload_n 1, 1) := by decide +kernel
theorem dX12_type_32 : decode cX12_type 32 = .ok (.i2b, 1) := by decide +kernel
theorem dX12_type_33 : decode cX12_type 33 = .ok (.bastore, 1) := by decide +kernel
theorem dX12_type_34 : decode cX12_type 34 = .ok (.aload_n 0, 1) := by decide +kernel
theorem dX12_type_35 : decode cX12_type 35 = .ok (.dup, 1) := by decide +kernel
theorem dX12_type_36 : decode cX12_type 36 = .ok (.getfield 168, 3) := by decide +kernel
theorem dX12_type_39 : decode cX12_type 39 = .ok (.iconst 1, 1) := by decide +kernel
theorem dX12_type_40 : decode cX12_type 40 = .ok (.iadd, 1) := by decide +kernel
theorem dX12_type_41 : decode cX12_type 41 = .ok (.putfield 168, 3) := by decide +kernel
theorem dX12_type_44 : decode cX12_type 44 = .ok (.aload_n 0, 1) := by decide +kernel
theorem dX12_type_45 : decode cX12_type 45 = .ok (.getfield 168, 3) := by decide +kernel
theorem dX12_type_48 : decode cX12_type 48 = .ok (.ireturn, 1) := by decide +kernel
def f_X12_type (F P : Nat) (S : xSt) (v0 : Nat) (v1 : Int32) (D : xDt) : Option (Int32 × xDt) :=
  (f_X12_in F P S v1 32 126 D).bind fun q1 => if q1.1 = 0 then (some ((-1), q1.2)) else (if (q1.2.1 v0 16) = 200 then (some ((-1), q1.2)) else (xgrd (xin (q1.2.1 v0 16) (xl S (xr S v0 15))) (xlet (xup q1.2.1 (xr S v0 15) (q1.2.1 v0 16).toNatClampNeg (ji2b (ji2b v1)), q1.2.2) fun D3 => xlet (xup D3.1 v0 16 ((D3.1 v0 16) + 1), D3.2) fun D4 => some (D4.1 v0 16, D4))))
set_option maxHeartbeats 4000000 in
theorem S_X12_type {F P : Nat} {S : xSt} (hS : xWF S) {v0 : Nat} {v1 : Int32} {D : xDt} {r : Int32 × xDt} (k0 : xK S v0 12) (h : f_X12_type F P S v0 v1 D = some r) : xSp md_X12_type (1, 0, 0) [.ref v0, .int v1] (S, D) (xQi S r) := by
  unfold f_X12_type at h
  refine xEntry (by decide) (Nat.le_of_ble_eq_true rfl) ?_
  refine x_lv (lv' := [(0, .ref v0), (1, .int v1)]) [0, 1] rfl ?_
  refine x_iload_n dX12_type_0 1 rfl ?_
  refine x_bipush 32 dX12_type_1 (by decide) ?_
  refine x_bipush 126 dX12_type_3 (by decide) ?_
  refine xbnd_e h (fun q1 e1 h => ?_)
  refine y_callSi (As := [.int v1, .int 32, .int 126]) (q := q1) cs_RX12_10 dX12_type_5 rfl (Nat.le_of_ble_eq_true rfl) (by omega) (S_X12_in hS e1) ?_
  refine x_if_eq 21 dX12_type_8 (by decide) (fun c => ?_) (fun c => ?_)
  · rw [if_pos c] at h
    refine x_iconst (-1) dX12_type_21 (by decide) ?_
    obtain rfl := Option.some.inj h
    exact y_iret rfl dX12_type_22
  · rw [if_neg c] at h
    refine x_aload_n dX12_type_11 0 rfl ?_
    refine y_geti fl_RX12_168 dX12_type_12 rfl k0 ?_
    refine x_sipush 200 dX12_type_15 (by decide) ?_
    refine x_icmp_ne 23 dX12_type_18 (by decide) (fun c => ?_) (fun c => ?_)
    · rw [if_neg c] at h
      refine x_aload_n dX12_type_23 0 rfl ?_
      refine y_getr (kd := 103) hS fl_RX12_87 dX12_type_24 rfl k0 ?_
      refine x_aload_n dX12_type_27 0 rfl ?_
      refine y_geti fl_RX12_168 dX12_type_28 rfl k0 ?_
      refine x_iload_n dX12_type_31 1 rfl ?_
      refine x_i2b dX12_type_32 ?_
      refine xgrd_e h (fun g2 h => ?_)
      refine xlet_e h (fun D3 eD3 h => ?_)
      refine y_bast dX12_type_33 ((hS.f k0 15 103 rfl).2) g2 eD3 ?_
      refine x_aload_n dX12_type_34 0 rfl ?_
      refine x_dup dX12_type_35 rfl ?_
      refine y_geti fl_RX12_168 dX12_type_36 rfl k0 ?_
      refine x_iconst 1 dX12_type_39 (by decide) ?_
      refine x_iadd dX12_type_40 ?_
      refine xlet_e h (fun D4 eD4 h => ?_)
      refine y_puti fp_RX12_168 dX12_type_41 rfl k0 eD4 ?_
      refine x_aload_n dX12_type_44 0 rfl ?_
      refine y_geti fl_RX12_168 dX12_type_45 rfl k0 ?_
      obtain rfl := Option.some.inj h
      exact y_iret rfl dX12_type_48
    · rw [if_pos c] at h
      refine x_iconst (-1) dX12_type_21 (by decide) ?_
      obtain rfl := Option.some.inj h
      exact y_iret rfl dX12_type_22

theorem dX12_four_0 : decode cX12_four 0 = .ok (.iconst 0, 1) := by decide +kernel
theorem dX12_four_1 : decode cX12_four 1 = .ok (.istore_n 2, 1) := by decide +kernel
theorem dX12_four_2 : decode cX12_four 2 = .ok (.bipush 24, 2) := by decide +kernel
theorem dX12_four_4 : decode cX12_four 4 = .ok (.istore_n 3, 1) := by decide +kernel
theorem dX12_four_5 : decode cX12_four 5 = .ok (.iload_n 3, 1) := by decide +kernel
theorem dX12_four_6 : decode cX12_four 6 = .ok (.ifCond .lt 50, 3) := by decide +kernel
theorem dX12_four_9 : decode cX12_four 9 = .ok (.iload_n 1, 1) := by decide +kernel
theorem dX12_four_10 : decode cX12_four 10 = .ok (.iload_n 3, 1) := by decide +kernel
theorem dX12_four_11 : decode cX12_four 11 = .ok (.ishr, 1) := by decide +kernel
theorem dX12_four_12 : decode cX12_four 12 = .ok (.sipush 255, 3) := by decide +kernel
theorem dX12_four_15 : decode cX12_four 15 = .ok (.iand, 1) := by decide +kernel
theorem dX12_four_16 : decode cX12_four 16 = .ok (.istore 4, 2) := by decide +kernel
theorem dX12_four_18 : decode cX12_four 18 = .ok (.iload 4, 2) := by decide +kernel
theorem dX12_four_20 : decode cX12_four 20 = .ok (.ifCond .eq 17, 3) := by decide +kernel
theorem dX12_four_23 : decode cX12_four 23 = .ok (.iload 4, 2) := by decide +kernel
theorem dX12_four_25 : decode cX12_four 25 = .ok (.bipush 32, 2) := by decide +kernel
theorem dX12_four_27 : decode cX12_four 27 = .ok (.bipush 126, 2) := by decide +kernel
theorem dX12_four_29 : decode cX12_four 29 = .ok (.invokestatic 10, 3) := by decide +kernel
theorem dX12_four_32 : decode cX12_four 32 = .ok (.ifCond .ne 5, 3) := by decide +kernel
theorem dX12_four_35 : decode cX12_four 35 = .ok (.iconst (-1), 1) := by decide +kernel
theorem dX12_four_36 : decode cX12_four 36 = .ok (.ireturn, 1) := by decide +kernel
theorem dX12_four_37 : decode cX12_four 37 = .ok (.iload_n 2, 1) := by decide +kernel
theorem dX12_four_38 : decode cX12_four 38 = .ok (.iload 4, 2) := by decide +kernel
theorem dX12_four_40 : decode cX12_four 40 = .ok (.ifCond .eq 7, 3) := by decide +kernel
theorem dX12_four_43 : decode cX12_four 43 = .ok (.iconst 1, 1) := by decide +kernel
theorem dX12_four_44 : decode cX12_four 44 = .ok (.goto 4, 3) := by decide +kernel
theorem dX12_four_47 : decode cX12_four 47 = .ok (.iconst 0, 1) := by decide +kernel
theorem dX12_four_48 : decode cX12_four 48 = .ok (.iadd, 1) := by decide +kernel
theorem dX12_four_49 : decode cX12_four 49 = .ok (.istore_n 2, 1) := by decide +kernel
theorem dX12_four_50 : decode cX12_four 50 = .ok (.iinc 3 (-8), 3) := by decide +kernel
theorem dX12_four_53 : decode cX12_four 53 = .ok (.goto (-48), 3) := by decide +kernel
theorem dX12_four_56 : decode cX12_four 56 = .ok (.aload_n 0, 1) := by decide +kernel
theorem dX12_four_57 : decode cX12_four 57 = .ok (.getfield 168, 3) := by decide +kernel
theorem dX12_four_60 : decode cX12_four 60 = .ok (.iload_n 2, 1) := by decide +kernel
theorem dX12_four_61 : decode cX12_four 61 = .ok (.iadd, 1) := by decide +kernel
theorem dX12_four_62 : decode cX12_four 62 = .ok (.sipush 200, 3) := by decide +kernel
theorem dX12_four_65 : decode cX12_four 65 = .ok (.if_icmp .le 5, 3) := by decide +kernel
theorem dX12_four_68 : decode cX12_four 68 = .ok (.iconst (-1), 1) := by decide +kernel
theorem dX12_four_69 : decode cX12_four 69 = .ok (.ireturn, 1) := by decide +kernel
theorem dX12_four_70 : decode cX12_four 70 = .ok (.bipush 24, 2) := by decide +kernel
theorem dX12_four_72 : decode cX12_four 72 = .ok (.istore_n 3, 1) := by decide +kernel
theorem dX12_four_73 : decode cX12_four 73 = .ok (.iload_n 3, 1) := by decide +kernel
theorem dX12_four_74 : decode cX12_four 74 = .ok (.ifCond .lt 42, 3) := by decide +kernel
theorem dX12_four_77 : decode cX12_four 77 = .ok (.iload_n 1, 1) := by decide +kernel
theorem dX12_four_78 : decode cX12_four 78 = .ok (.iload_n 3, 1) := by decide +kernel
theorem dX12_four_79 : decode cX12_four 79 = .ok (.ishr, 1) := by decide +kernel
theorem dX12_four_80 : decode cX12_four 80 = .ok (.sipush 255, 3) := by decide +kernel
theorem dX12_four_83 : decode cX12_four 83 = .ok (.iand, 1) := by decide +kernel
theorem dX12_four_84 : decode cX12_four 84 = .ok (.ifCond .eq 26, 3) := by decide +kernel
theorem dX12_four_87 : decode cX12_four 87 = .ok (.aload_n 0, 1) := by decide +kernel
theorem dX12_four_88 : decode cX12_four 88 = .ok (.getfield 87, 3) := by decide +kernel
theorem dX12_four_91 : decode cX12_four 91 = .ok (.aload_n 0, 1) := by decide +kernel
theorem dX12_four_92 : decode cX12_four 92 = .ok (.getfield 168, 3) := by decide +kernel
theorem dX12_four_95 : decode cX12_four 95 = .ok (.iload_n 1, 1) := by decide +kernel
theorem dX12_four_96 : decode cX12_four 96 = .ok (.iload_n 3, 1) := by decide +kernel
theorem dX12_four_97 : decode cX12_four 97 = .ok (.ishr, 1) := by decide +kernel
theorem dX12_four_98 : decode cX12_four 98 = .ok (.i2b, 1) := by decide +kernel
theorem dX12_four_99 : decode cX12_four 99 = .ok (.bastore, 1) := by decide +kernel
theorem dX12_four_100 : decode cX12_four 100 = .ok (.aload_n 0, 1) := by decide +kernel
theorem dX12_four_101 : decode cX12_four 101 = .ok (.dup, 1) := by decide +kernel
theorem dX12_four_102 : decode cX12_four 102 = .ok (.getfield 168, 3) := by decide +kernel
theorem dX12_four_105 : decode cX12_four 105 = .ok (.iconst 1, 1) := by decide +kernel
theorem dX12_four_106 : decode cX12_four 106 = .ok (.iadd, 1) := by decide +kernel
theorem dX12_four_107 : decode cX12_four 107 = .ok (.putfield 168, 3) := by decide +kernel
theorem dX12_four_110 : decode cX12_four 110 = .ok (.iinc 3 (-8), 3) := by decide +kernel
theorem dX12_four_113 : decode cX12_four 113 = .ok (.goto (-40), 3) := by decide +kernel
theorem dX12_four_116 : decode cX12_four 116 = .ok (.aload_n 0, 1) := by decide +kernel
theorem dX12_four_117 : decode cX12_four 117 = .ok (.getfield 168, 3) := by decide +kernel
theorem dX12_four_120 : decode cX12_four 120 = .ok (.ireturn, 1) := by decide +kernel
def f_X12_four_48 (F P : Nat) (S : xSt) (rec_5 : Nat → Int32 → Int32 → Int32 → xDt → Option (Int32 × xDt)) (v0 : Nat) (v1 : Int32) (v3 : Int32) (s0 : Int32) (s1 : Int32) (D : xDt) : Option (Int32 × xDt) :=
  xlet (s1 + s0) fun v2_1 => xlet (v3 + (-8)) fun v3_2 => rec_5 v0 v1 v2_1 v3_2 D
set_option maxHeartbeats 4000000 in
theorem t_X12_four_48 {F P : Nat} {S : xSt} (hS : xWF S) {rec_5 : Nat → Int32 → Int32 → Int32 → xDt → Option (Int32 × xDt)} (hrec_5 : ∀ {v0 : Nat} {v1 : Int32} {v2 : Int32} {v3 : Int32} {D : xDt} {r : Int32 × xDt}, xK S v0 12 → rec_5 v0 v1 v2 v3 D = some r → yEx md_X12_four 1 5 [(0, .ref v0), (1, .int v1), (2, .int v2), (3, .int v3)] [] S D (xQi S r)) {v0 : Nat} {v1 : Int32} {v3 : Int32} {s0 : Int32} {s1 : Int32} {D : xDt} {r : Int32 × xDt} (k0 : xK S v0 12) (h : f_X12_four_48 F P S rec_5 v0 v1 v3 s0 s1 D = some r) : yEx md_X12_four 1 48 [(0, .ref v0), (1, .int v1), (3, .int v3)] [.int s0, .int s1] S D (xQi S r) := by
  unfold f_X12_four_48 at h
  refine x_iadd dX12_four_48 ?_
  refine xlet_e h (fun v2_1 ev2_1 h => ?_)
  refine y_istore_n v2_1 ev2_1 [(2, .int v2_1), (0, .ref v0), (1, .int v1), (3, .int v3)] dX12_four_49 (by show _ < 5; decide) rfl ?_
  refine xlet_e h (fun v3_2 ev3_2 h => ?_)
  refine y_iinc v3_2 ev3_2 (by decide) [(3, .int v3_2), (2, .int v2_1), (0, .ref v0), (1, .int v1)] dX12_four_50 3 rfl (by show _ < 5; decide) rfl ?_
  refine x_goto 5 dX12_four_53 (by decide) ?_
  refine x_lv (lv' := [(0, .ref v0), (1, .int v1), (2, .int v2_1), (3, .int v3_2)]) [2, 3, 1, 0] rfl ?_
  exact hrec_5 k0 h

def f_X12_four_37 (F P : Nat) (S : xSt) (rec_5 : Nat → Int32 → Int32 → Int32 → xDt → Option (Int32 × xDt)) (v0 : Nat) (v1 : Int32) (v2 : Int32) (v3 : Int32) (v4 : Int32) (D : xDt) : Option (Int32 × xDt) :=
  if v4 = 0 then (f_X12_four_48 F P S rec_5 v0 v1 v3 0 v2 D) else (f_X12_four_48 F P S rec_5 v0 v1 v3 1 v2 D)
set_option maxHeartbeats 4000000 in
theorem t_X12_four_37 {F P : Nat} {S : xSt} (hS : xWF S) {rec_5 : Nat → Int32 → Int32 → Int32 → xDt → Option (Int32 × xDt)} (hrec_5 : ∀ {v0 : Nat} {v1 : Int32} {v2 : Int32} {v3 : Int32} {D : xDt} {r : Int32 × xDt}, xK S v0 12 → rec_5 v0 v1 v2 v3 D = some r → yEx md_X12_four 1 5 [(0, .ref v0), (1, .int v1), (2, .int v2), (3, .int v3)] [] S D (xQi S r)) {v0 : Nat} {v1 : Int32} {v2 : Int32} {v3 : Int32} {v4 : Int32} {D : xDt} {r : Int32 × xDt} (k0 : xK S v0 12) (h : f_X12_four_37 F P S rec_5 v0 v1 v2 v3 v4 D = some r) : yEx md_X12_four 1 37 [(0, .ref v0), (1, .int v1), (2, .int v2), (3, .int v3), (4, .int v4)] [] S D (xQi S r) := by
  unfold f_X12_four_37 at h
  refine x_iload_n dX12_four_37 2 rfl ?_
  refine x_iload dX12_four_38 4 rfl ?_
  refine x_if_eq 47 dX12_four_40 (by decide) (fun c => ?_) (fun c => ?_)
  · rw [if_pos c] at h
    refine x_iconst 0 dX12_four_47 (by decide) ?_
    refine x_lv (lv' := [(0, .ref v0), (1, .int v1), (3, .int v3)]) [0, 1, 3] rfl ?_
    exact t_X12_four_48 hS hrec_5 k0 h
  · rw [if_neg c] at h
    refine x_iconst 1 dX12_four_43 (by decide) ?_
    refine x_goto 48 dX12_four_44 (by decide) ?_
    refine x_lv (lv' := [(0, .ref v0), (1, .int v1), (3, .int v3)]) [0, 1, 3] rfl ?_
    exact t_X12_four_48 hS hrec_5 k0 h

def f_X12_four_110 (F P : Nat) (S : xSt) (rec_73 : Nat → Int32 → Int32 → xDt → Option (Int32 × xDt)) (v0 : Nat) (v1 : Int32) (v3 : Int32) (D : xDt) : Option (Int32 × xDt) :=
  xlet (v3 + (-8)) fun v3_1 => rec_73 v0 v1 v3_1 D
set_option maxHeartbeats 4000000 in
theorem t_X12_four_110 {F P : Nat} {S : xSt} (hS : xWF S) {rec_73 : Nat → Int32 → Int32 → xDt → Option (Int32 × xDt)} (hrec_73 : ∀ {v0 : Nat} {v1 : Int32} {v3 : Int32} {D : xDt} {r : Int32 × xDt}, xK S v0 12 → rec_73 v0 v1 v3 D = some r → yEx md_X12_four 1 73 [(0, .ref v0), (1, .int v1), (3, .int v3)] [] S D (xQi S r)) {v0 : Nat} {v1 : Int32} {v3 : Int32} {D : xDt} {r : Int32 × xDt} (k0 : xK S v0 12) (h : f_X12_four_110 F P S rec_73 v0 v1 v3 D = some r) : yEx md_X12_four 1 110 [(0, .ref v0), (1, .int v1), (3, .int v3)] [] S D (xQi S r) := by
  unfold f_X12_four_110 at h
  refine xlet_e h (fun v3_1 ev3_1 h => ?_)
  refine y_iinc v3_1 ev3_1 (by decide) [(3, .int v3_1), (0, .ref v0), (1, .int v1)] dX12_four_110 2 rfl (by show _ < 5; decide) rfl ?_
  refine x_goto 73 dX12_four_113 (by decide) ?_
  refine x_lv (lv' := [(0, .ref v0), (1, .int v1), (3, .int v3_1)]) [1, 2, 0] rfl ?_
  exact hrec_73 k0 h

def f_X12_four_73s (F P : Nat) (S : xSt) (rec_73 : Nat → Int32 → Int32 → xDt → Option (Int32 × xDt)) (v0 : Nat) (v1 : Int32) (v3 : Int32) (D : xDt) : Option (Int32 × xDt) :=
  if v3 < 0 then (some (D.1 v0 16, D)) else (if ((jishr v1 v3) &&& 255) = 0 then (f_X12_four_110 F P S rec_73 v0 v1 v3 D) else (xgrd (xin (D.1 v0 16) (xl S (xr S v0 15))) (xlet (xup D.1 (xr S v0 15) (D.1 v0 16).toNatClampNeg (ji2b (ji2b (jishr v1 v3))), D.2) fun D2 => xlet (xup D2.1 v0 16 ((D2.1 v0 16) + 1), D2.2) fun D3 => f_X12_four_110 F P S rec_73 v0 v1 v3 D3)))
def f_X12_four_73 (F P : Nat) (S : xSt) : Nat → Nat → Int32 → Int32 → xDt → Option (Int32 × xDt)
  | 0 => fun _ _ _ _ => none
  | n + 1 => f_X12_four_73s F P S (f_X12_four_73 F P S n)
set_option maxHeartbeats 4000000 in
theorem t_X12_four_73s {F P : Nat} {S : xSt} (hS : xWF S) {rec_73 : Nat → Int32 → Int32 → xDt → Option (Int32 × xDt)} (hrec_73 : ∀ {v0 : Nat} {v1 : Int32} {v3 : Int32} {D : xDt} {r : Int32 × xDt}, xK S v0 12 → rec_73 v0 v1 v3 D = some r → yEx md_X12_four 1 73 [(0, .ref v0), (1, .int v1), (3, .int v3)] [] S D (xQi S r)) {v0 : Nat} {v1 : Int32} {v3 : Int32} {D : xDt} {r : Int32 × xDt} (k0 : xK S v0 12) (h : f_X12_four_73s F P S rec_73 v0 v1 v3 D = some r) : yEx md_X12_four 1 73 [(0, .ref v0), (1, .int v1), (3, .int v3)] [] S D (xQi S r) := by
  unfold f_X12_four_73s at h
  refine x_iload_n dX12_four_73 2 rfl ?_
  refine x_if_lt 116 dX12_four_74 (by decide) (fun c => ?_) (fun c => ?_)
  · rw [if_pos c] at h
    refine x_aload_n dX12_four_116 0 rfl ?_
    refine y_geti fl_RX12_168 dX12_four_117 rfl k0 ?_
    obtain rfl := Option.some.inj h
    exact y_iret rfl dX12_four_120
  · rw [if_neg c] at h
    refine x_iload_n dX12_four_77 1 rfl ?_
    refine x_iload_n dX12_four_78 2 rfl ?_
    refine x_ishr dX12_four_79 ?_
    refine x_sipush 255 dX12_four_80 (by decide) ?_
    refine x_iand dX12_four_83 ?_
    refine x_if_eq 110 dX12_four_84 (by decide) (fun c => ?_) (fun c => ?_)
    · rw [if_pos c] at h
      exact t_X12_four_110 hS hrec_73 k0 h
    · rw [if_neg c] at h
      refine x_aload_n dX12_four_87 0 rfl ?_
      refine y_getr (kd := 103) hS fl_RX12_87 dX12_four_88 rfl k0 ?_
      refine x_aload_n dX12_four_91 0 rfl ?_
      refine y_geti fl_RX12_168 dX12_four_92 rfl k0 ?_
      refine x_iload_n dX12_four_95 1 rfl ?_
      refine x_iload_n dX12_four_96 2 rfl ?_
      refine x_ishr dX12_four_97 ?_
      refine x_i2b dX12_four_98 ?_
      refine xgrd_e h (fun g1 h => ?_)
      refine xlet_e h (fun D2 eD2 h => ?_)
      refine y_bast dX12_four_99 ((hS.f k0 15 103 rfl).2) g1 eD2 ?_
      refine x_aload_n dX12_four_100 0 rfl ?_
      refine x_dup dX12_four_101 rfl ?_
      refine y_geti fl_RX12_168 dX12_four_102 rfl k0 ?_
      refine x_iconst 1 dX12_four_105 (by decide) ?_
      refine x_iadd dX12_four_106 ?_
      refine xlet_e h (fun D3 eD3 h => ?_)
      refine y_puti fp_RX12_168 dX12_four_107 rfl k0 eD3 ?_
      exact t_X12_four_110 hS hrec_73 k0 h
theorem t_X12_four_73 {F P : Nat} {S : xSt} (hS : xWF S) : ∀ (n : Nat) {v0 : Nat} {v1 : Int32} {v3 : Int32} {D : xDt} {r : Int32 × xDt}, xK S v0 12 → f_X12_four_73 F P S n v0 v1 v3 D = some r → yEx md_X12_four 1 73 [(0, .ref v0), (1, .int v1), (3, .int v3)] [] S D (xQi S r) := by
  intro n
  induction n with
  | zero => intros; rename_i h; cases h
  | succ n ih =>
    intro v0 v1 v3 D r k0 h
    exact t_X12_four_73s hS (fun k0 h => ih k0 h) k0 h

def f_X12_four_5s (F P : Nat) (S : xSt) (rec_5 : Nat → Int32 → Int32 → Int32 → xDt → Option (Int32 × xDt)) (v0 : Nat) (v1 : Int32) (v2 : Int32) (v3 : Int32) (D : xDt) : Option (Int32 × xDt) :=
  if v3 < 0 then (if ((D.1 v0 16) + v2) ≤ 200 then (f_X12_four_73 F P S F v0 v1 24 D) else (some ((-1), D))) else (xlet ((jishr v1 v3) &&& 255) fun v4_1 => if v4_1 = 0 then (f_X12_four_37 F P S rec_5 v0 v1 v2 v3 v4_1 D) else ((f_X12_in F P S v4_1 32 126 D).bind fun q2 => if q2.1 = 0 then (some ((-1), q2.2)) else (f_X12_four_37 F P S rec_5 v0 v1 v2 v3 v4_1 q2.2)))
def f_X12_four_5 (F P : Nat) (S : xSt) : Nat → Nat → Int32 → Int32 → Int32 → xDt → Option (Int32 × xDt)
  | 0 => fun _ _ _ _ _ => none
  | n + 1 => f_X12_four_5s F P S (f_X12_four_5 F P S n)
set_option maxHeartbeats 4000000 in
theorem t_X12_four_5s {F P : Nat} {S : xSt} (hS : xWF S) {rec_5 : Nat → Int32 → Int32 → Int32 → xDt → Option (Int32 × xDt)} (hrec_5 : ∀ {v0 : Nat} {v1 : Int32} {v2 : Int32} {v3 : Int32} {D : xDt} {r : Int32 × xDt}, xK S v0 12 → rec_5 v0 v1 v2 v3 D = some r → yEx md_X12_four 1 5 [(0, .ref v0), (1, .int v1), (2, .int v2), (3, .int v3)] [] S D (xQi S r)) {v0 : Nat} {v1 : Int32} {v2 : Int32} {v3 : Int32} {D : xDt} {r : Int32 × xDt} (k0 : xK S v0 12) (h : f_X12_four_5s F P S rec_5 v0 v1 v2 v3 D = some r) : yEx md_X12_four 1 5 [(0, .ref v0), (1, .int v1), (2, .int v2), (3, .int v3)] [] S D (xQi S r) := by
  unfold f_X12_four_5s at h
  refine x_iload_n dX12_four_5 3 rfl ?_
  refine x_if_lt 56 dX12_four_6 (by decide) (fun c => ?_) (fun c => ?_)
  · rw [if_pos c] at h
    refine x_aload_n dX12_four_56 0 rfl ?_
    refine y_geti fl_RX12_168 dX12_four_57 rfl k0 ?_
    refine x_iload_n dX12_four_60 2 rfl ?_
    refine x_iadd dX12_four_61 ?_
    refine x_sipush 200 dX12_four_62 (by decide) ?_
    refine x_icmp_le 70 dX12_four_65 (by decide) (fun c => ?_) (fun c => ?_)
    · rw [if_pos c] at h
      refine x_bipush 24 dX12_four_70 (by decide) ?_
      refine y_istore_n 24 rfl [(3, .int 24), (0, .ref v0), (1, .int v1), (2, .int v2)] dX12_four_72 (by show _ < 5; decide) rfl ?_
      refine x_lv (lv' := [(0, .ref v0), (1, .int v1), (3, .int 24)]) [1, 2, 0] rfl ?_
      exact t_X12_four_73 hS F k0 h
    · rw [if_neg c] at h
      refine x_iconst (-1) dX12_four_68 (by decide) ?_
      obtain rfl := Option.some.inj h
      exact y_iret rfl dX12_four_69
  · rw [if_neg c] at h
    refine x_iload_n dX12_four_9 1 rfl ?_
    refine x_iload_n dX12_four_10 3 rfl ?_
    refine x_ishr dX12_four_11 ?_
    refine x_sipush 255 dX12_four_12 (by decide) ?_
    refine x_iand dX12_four_15 ?_
    refine xlet_e h (fun v4_1 ev4_1 h => ?_)
    refine y_istore v4_1 ev4_1 [(4, .int v4_1), (0, .ref v0), (1, .int v1), (2, .int v2), (3, .int v3)] dX12_four_16 (by show _ < 5; decide) rfl ?_
    refine x_iload dX12_four_18 0 rfl ?_
    refine x_if_eq 37 dX12_four_20 (by decide) (fun c => ?_) (fun c => ?_)
    · rw [if_pos c] at h
      refine x_lv (lv' := [(0, .ref v0), (1, .int v1), (2, .int v2), (3, .int v3), (4, .int v4_1)]) [1, 2, 3, 4, 0] rfl ?_
      exact t_X12_four_37 hS hrec_5 k0 h
    · rw [if_neg c] at h
      refine x_iload dX12_four_23 0 rfl ?_
      refine x_bipush 32 dX12_four_25 (by decide) ?_
      refine x_bipush 126 dX12_four_27 (by decide) ?_
      refine xbnd_e h (fun q2 e2 h => ?_)
      refine y_callSi (As := [.int v4_1, .int 32, .int 126]) (q := q2) cs_RX12_10 dX12_four_29 rfl (Nat.le_of_ble_eq_true rfl) (by omega) (S_X12_in hS e2) ?_
      refine x_if_ne 37 dX12_four_32 (by decide) (fun c => ?_) (fun c => ?_)
      · rw [if_neg c] at h
        refine x_lv (lv' := [(0, .ref v0), (1, .int v1), (2, .int v2), (3, .int v3), (4, .int v4_1)]) [1, 2, 3, 4, 0] rfl ?_
        exact t_X12_four_37 hS hrec_5 k0 h
      · rw [if_pos c] at h
        refine x_iconst (-1) dX12_four_35 (by decide) ?_
        obtain rfl := Option.some.inj h
        exact y_iret rfl dX12_four_36
theorem t_X12_four_5 {F P : Nat} {S : xSt} (hS : xWF S) : ∀ (n : Nat) {v0 : Nat} {v1 : Int32} {v2 : Int32} {v3 : Int32} {D : xDt} {r : Int32 × xDt}, xK S v0 12 → f_X12_four_5 F P S n v0 v1 v2 v3 D = some r → yEx md_X12_four 1 5 [(0, .ref v0), (1, .int v1), (2, .int v2), (3, .int v3)] [] S D (xQi S r) := by
  intro n
  induction n with
  | zero => intros; rename_i h; cases h
  | succ n ih =>
    intro v0 v1 v2 v3 D r k0 h
    exact t_X12_four_5s hS (fun k0 h => ih k0 h) k0 h

def f_X12_four (F P : Nat) (S : xSt) (v0 : Nat) (v1 : Int32) (D : xDt) : Option (Int32 × xDt) :=
  f_X12_four_5 F P S F v0 v1 0 24 D
set_option maxHeartbeats 4000000 in
theorem S_X12_four {F P : Nat} {S : xSt} (hS : xWF S) {v0 : Nat} {v1 : Int32} {D : xDt} {r : Int32 × xDt} (k0 : xK S v0 12) (h : f_X12_four F P S v0 v1 D = some r) : xSp md_X12_four (1, 0, 0) [.ref v0, .int v1] (S, D) (xQi S r) := by
  unfold f_X12_four at h
  refine xEntry (by decide) (Nat.le_of_ble_eq_true rfl) ?_
  refine x_lv (lv' := [(0, .ref v0), (1, .int v1)]) [0, 1] rfl ?_
  refine x_iconst 0 dX12_four_0 (by decide) ?_
  refine y_istore_n 0 rfl [(2, .int 0), (0, .ref v0), (1, .int v1)] dX12_four_1 (by show _ < 5; decide) rfl ?_
  refine x_bipush 24 dX12_four_2 (by decide) ?_
  refine y_istore_n 24 rfl [(3, .int 24), (2, .int 0), (0, .ref v0), (1, .int v1)] dX12_four_4 (by show _ < 5; decide) rfl ?_
  refine x_lv (lv' := [(0, .ref v0), (1, .int v1), (2, .int 0), (3, .int 24)]) [2, 3, 1, 0] rfl ?_
  exact t_X12_four_5 hS F k0 h

theorem dX12_look_0 : decode cX12_look 0 = .ok (.aload_n 0, 1) := by decide +kernel
theorem dX12_look_1 : decode cX12_look 1 = .ok (.getfield 171, 3) := by decide +kernel
theorem dX12_look_4 : decode cX12_look 4 = .ok (.aload_n 0, 1) := by decide +kernel
theorem dX12_look_5 : decode cX12_look 5 = .ok (.getfield 168, 3) := by decide +kernel
theorem dX12_look_8 : decode cX12_look 8 = .ok (.if_icmp .ge 30, 3) := by decide +kernel
theorem dX12_look_11 : decode cX12_look 11 = .ok (.aload_n 0, 1) := by decide +kernel
theorem dX12_look_12 : decode cX12_look 12 = .ok (.getfield 87, 3) := by decide +kernel
theorem dX12_look_15 : decode cX12_look 15 = .ok (.aload_n 0, 1) := by decide +kernel
theorem dX12_look_16 : decode cX12_look 16 = .ok (.getfield 171, 3) := by decide +kernel
theorem dX12_look_19 : decode cX12_look 19 = .ok (.baload, 1) := by decide +kernel
theorem dX12_look_20 : decode cX12_look 20 = .ok (.bipush 32, 2) := by decide +kernel
theorem dX12_look_22 : decode cX12_look 22 = .ok (.if_icmp .ne 16, 3) := by decide +kernel
theorem dX12_look_25 : decode cX12_look 25 = .ok (.aload_n 0, 1) := by decide +kernel
theorem dX12_look_26 : decode cX12_look 26 = .ok (.dup, 1) := by decide +kernel
theorem dX12_look_27 : decode cX12_look 27 = .ok (.getfield 171, 3) := by decide +kernel
theorem dX12_look_30 : decode cX12_look 30 = .ok (.iconst 1, 1) := by decide +kernel
theorem dX12_look_31 : decode cX12_look 31 = .ok (.iadd, 1) := by decide +kernel
theorem dX12_look_32 : decode cX12_look 32 = .ok (.putfield 171, 3) := by decide +kernel
theorem dX12_look_35 : decode cX12_look 35 = .ok (.goto (-35), 3) := by decide +kernel
theorem dX12_look_38 : decode cX12_look 38 = .ok (.aload_n 0, 1) := by decide +kernel
theorem dX12_look_39 : decode cX12_look 39 = .ok (.getfield 171, 3) := by decide +kernel
theorem dX12_look_42 : decode cX12_look 42 = .ok (.aload_n 0, 1) := by decide +kernel
theorem dX12_look_43 : decode cX12_look 43 = .ok (.getfield 168, 3) := by decide +kernel
theorem dX12_look_46 : decode cX12_look 46 = .ok (.if_icmp .ge 15, 3) := by decide +kernel
theorem dX12_look_49 : decode cX12_look 49 = .ok (.aload_n 0, 1) := by decide +kernel
theorem dX12_look_50 : decode cX12_look 50 = .ok (.getfield 87, 3) := by decide +kernel
theorem dX12_look_53 : decode cX12_look 53 = .ok (.aload_n 0, 1) := by decide +kernel
theorem dX12_look_54 : decode cX12_look 54 = .ok (.getfield 171, 3) := by decide +kernel
theorem dX12_look_57 : decode cX12_look 57 = .ok (.baload, 1) := by decide +kernel
theorem dX12_look_58 : decode cX12_look 58 = .ok (.goto 5, 3) := by decide +kernel
theorem dX12_look_61 : decode cX12_look 61 = .ok (.bipush (-2), 2) := by decide +kernel
theorem dX12_look_63 : decode cX12_look 63 = .ok (.ireturn, 1) := by decide +kernel
def f_X12_look_38 (F P : Nat) (S : xSt) (v0 : Nat) (D : xDt) : Option (Int32 × xDt) :=
  if (D.1 v0 16) ≤ (D.1 v0 17) then (some ((-2), D)) else (xgrd (xin (D.1 v0 17) (xl S (xr S v0 15))) (some (D.1 (xr S v0 15) (D.1 v0 17).toNatClampNeg, D)))
set_option maxHeartbeats 4000000 in
theorem t_X12_look_38 {F P : Nat} {S : xSt} (hS : xWF S) {v0 : Nat} {D : xDt} {r : Int32 × xDt} (k0 : xK S v0 12) (h : f_X12_look_38 F P S v0 D = some r) : yEx md_X12_look 0 38 [(0, .ref v0)] [] S D (xQi S r) := by
  unfold f_X12_look_38 at h
  refine x_aload_n dX12_look_38 0 rfl ?_
  refine y_geti fl_RX12_171 dX12_look_39 rfl k0 ?_
  refine x_aload_n dX12_look_42 0 rfl ?_
  refine y_geti fl_RX12_168 dX12_look_43 rfl k0 ?_
  refine x_icmp_ge 61 dX12_look_46 (by decide) (fun c => ?_) (fun c => ?_)
  · rw [if_pos c] at h
    refine x_bipush (-2) dX12_look_61 (by decide) ?_
    obtain rfl := Option.some.inj h
    exact y_iret rfl dX12_look_63
  · rw [if_neg c] at h
    refine x_aload_n dX12_look_49 0 rfl ?_
    refine y_getr (kd := 103) hS fl_RX12_87 dX12_look_50 rfl k0 ?_
    refine x_aload_n dX12_look_53 0 rfl ?_
    refine y_geti fl_RX12_171 dX12_look_54 rfl k0 ?_
    refine xgrd_e h (fun g1 h => ?_)
    refine y_bald dX12_look_57 ((hS.f k0 15 103 rfl).2) g1 ?_
    refine x_goto 63 dX12_look_58 (by decide) ?_
    obtain rfl := Option.some.inj h
    exact y_iret rfl dX12_look_63

def f_X12_look_0s (F P : Nat) (S : xSt) (rec_0 : Nat → xDt → Option (Int32 × xDt)) (v0 : Nat) (D : xDt) : Option (Int32 × xDt) :=
  if (D.1 v0 16) ≤ (D.1 v0 17) then (f_X12_look_38 F P S v0 D) else (xgrd (xin (D.1 v0 17) (xl S (xr S v0 15))) (if (D.1 (xr S v0 15) (D.1 v0 17).toNatClampNeg) = 32 then (xlet (xup D.1 v0 17 ((D.1 v0 17) + 1), D.2) fun D2 => rec_0 v0 D2) else (f_X12_look_38 F P S v0 D)))
def f_X12_look_0 (F P : Nat) (S : xSt) : Nat → Nat → xDt → Option (Int32 × xDt)
  | 0 => fun _ _ => none
  | n + 1 => f_X12_look_0s F P S (f_X12_look_0 F P S n)
set_option maxHeartbeats 4000000 in
theorem t_X12_look_0s {F P : Nat} {S : xSt} (hS : xWF S) {rec_0 : Nat → xDt → Option (Int32 × xDt)} (hrec_0 : ∀ {v0 : Nat} {D : xDt} {r : Int32 × xDt}, xK S v0 12 → rec_0 v0 D = some r → yEx md_X12_look 0 0 [(0, .ref v0)] [] S D (xQi S r)) {v0 : Nat} {D : xDt} {r : Int32 × xDt} (k0 : xK S v0 12) (h : f_X12_look_0s F P S rec_0 v0 D = some r) : yEx md_X12_look 0 0 [(0, .ref v0)] [] S D (xQi S r) := by
  unfold f_X12_look_0s at h
  refine x_aload_n dX12_look_0 0 rfl ?_
  refine y_geti fl_RX12_171 dX12_look_1 rfl k0 ?_
  refine x_aload_n dX12_look_4 0 rfl ?_
  refine y_geti fl_RX12_168 dX12_look_5 rfl k0 ?_
  refine x_icmp_ge 38 dX12_look_8 (by decide) (fun c => ?_) (fun c => ?_)
  · rw [if_pos c] at h
    exact t_X12_look_38 hS k0 h
  · rw [if_neg c] at h
    refine x_aload_n dX12_look_11 0 rfl ?_
    refine y_getr (kd := 103) hS fl_RX12_87 dX12_look_12 rfl k0 ?_
    refine x_aload_n dX12_look_15 0 rfl ?_
    refine y_geti fl_RX12_171 dX12_look_16 rfl k0 ?_
    refine xgrd_e h (fun g1 h => ?_)
    refine y_bald dX12_look_19 ((hS.f k0 15 103 rfl).2) g1 ?_
    refine x_bipush 32 dX12_look_20 (by decide) ?_
    refine x_icmp_ne 38 dX12_look_22 (by decide) (fun c => ?_) (fun c => ?_)
    · rw [if_neg c] at h
      exact t_X12_look_38 hS k0 h
    · rw [if_pos c] at h
      refine x_aload_n dX12_look_25 0 rfl ?_
      refine x_dup dX12_look_26 rfl ?_
      refine y_geti fl_RX12_171 dX12_look_27 rfl k0 ?_
      refine x_iconst 1 dX12_look_30 (by decide) ?_
      refine x_iadd dX12_look_31 ?_
      refine xlet_e h (fun D2 eD2 h => ?_)
      refine y_puti fp_RX12_171 dX12_look_32 rfl k0 eD2 ?_
      refine x_goto 0 dX12_look_35 (by decide) ?_
      exact hrec_0 k0 h
theorem t_X12_look_0 {F P : Nat} {S : xSt} (hS : xWF S) : ∀ (n : Nat) {v0 : Nat} {D : xDt} {r : Int32 × xDt}, xK S v0 12 → f_X12_look_0 F P S n v0 D = some r → yEx md_X12_look 0 0 [(0, .ref v0)] [] S D (xQi S r) := by
  intro n
  induction n with
  | zero => intros; rename_i h; cases h
  | succ n ih =>
    intro v0 D r k0 h
    exact t_X12_look_0s hS (fun k0 h => ih k0 h) k0 h

def f_X12_look (F P : Nat) (S : xSt) (v0 : Nat) (D : xDt) : Option (Int32 × xDt) :=
  f_X12_look_0 F P S F v0 D
set_option maxHeartbeats 4000000 in
theorem S_X12_look {F P : Nat} {S : xSt} (hS : xWF S) {v0 : Nat} {D : xDt} {r : Int32 × xDt} (k0 : xK S v0 12) (h : f_X12_look F P S v0 D = some r) : xSp md_X12_look (0, 0, 0) [.ref v0] (S, D) (xQi S r) := by
  unfold f_X12_look at h
  refine xEntry (by decide) (Nat.le_of_ble_eq_true rfl) ?_
  refine x_lv (lv' := [(0, .ref v0)]) [0] rfl ?_
  exact t_X12_look_0 hS F k0 h

theorem dX12_bad_0 : decode cX12_bad 0 = .ok (.aload_n 0, 1) := by decide +kernel
theorem dX12_bad_1 : decode cX12_bad 1 = .ok (.aload_n 0, 1) := by decide +kernel
theorem dX12_bad_2 : decode cX12_bad 2 = .ok (.getfield 174, 3) := by decide +kernel
theorem dX12_bad_5 : decode cX12_bad 5 = .ok (.ifCond .ge 10, 3) := by decide +kernel
theorem dX12_bad_8 : decode cX12_bad 8 = .ok (.aload_n 0, 1) := by decide +kernel
theorem dX12_bad_9 : decode cX12_bad 9 = .ok (.getfield 171, 3) := by decide +kernel
theorem dX12_bad_12 : decode cX12_bad 12 = .ok (.goto 7, 3) := by decide +kernel
theorem dX12_bad_15 : decode cX12_bad 15 = .ok (.aload_n 0, 1) := by decide +kernel
theorem dX12_bad_16 : decode cX12_bad 16 = .ok (.getfield 174, 3) := by decide +kernel
theorem dX12_bad_19 : decode cX12_bad 19 = .ok (.putfield 174, 3) := by decide +kernel
theorem dX12_bad_22 : decode cX12_bad 22 = .ok (.iconst 0, 1) := by decide +kernel
theorem dX12_bad_23 : decode cX12_bad 23 = .ok (.ireturn, 1) := by decide +kernel
def f_X12_bad (F P : Nat) (S : xSt) (v0 : Nat) (D : xDt) : Option (Int32 × xDt) :=
  if 0 ≤ (D.1 v0 18) then (xlet (xup D.1 v0 18 (D.1 v0 18), D.2) fun D1 => some (0, D1)) else (xlet (xup D.1 v0 18 (D.1 v0 17), D.2) fun D2 => some (0, D2))
set_option maxHeartbeats 4000000 in
theorem S_X12_bad {F P : Nat} {S : xSt} (hS : xWF S) {v0 : Nat} {D : xDt} {r : Int32 × xDt} (k0 : xK S v0 12) (h : f_X12_bad F P S v0 D = some r) : xSp md_X12_bad (0, 0, 0) [.ref v0] (S, D) (xQi S r) := by
  unfold f_X12_bad at h
  refine xEntry (by decide) (Nat.le_of_ble_eq_true rfl) ?_
  refine x_lv (lv' := [(0, .ref v0)]) [0] rfl ?_
  refine x_aload_n dX12_bad_0 0 rfl ?_
  refine x_aload_n dX12_bad_1 0 rfl ?_
  refine y_geti fl_RX12_174 dX12_bad_2 rfl k0 ?_
  refine x_if_ge 15 dX12_bad_5 (by decide) (fun c => ?_) (fun c => ?_)
  · rw [if_pos c] at h
    refine x_aload_n dX12_bad_15 0 rfl ?_
    refine y_geti fl_RX12_174 dX12_bad_16 rfl k0 ?_
    refine xlet_e h (fun D1 eD1 h => ?_)
    refine y_puti fp_RX12_174 dX12_bad_19 rfl k0 eD1 ?_
    refine x_iconst 0 dX12_bad_22 (by decide) ?_
    obtain rfl := Option.some.inj h
    exact y_iret rfl dX12_bad_23
  · rw [if_neg c] at h
    refine x_aload_n dX12_bad_8 0 rfl ?_
    refine y_geti fl_RX12_171 dX12_bad_9 rfl k0 ?_
    refine x_goto 19 dX12_bad_12 (by decide) ?_
    refine xlet_e h (fun D2 eD2 h => ?_)
    refine y_puti fp_RX12_174 dX12_bad_19 rfl k0 eD2 ?_
    refine x_iconst 0 dX12_bad_22 (by decide) ?_
    obtain rfl := Option.some.inj h
    exact y_iret rfl dX12_bad_23

theorem dX12_counts_0 : decode cX12_counts 0 = .ok (.aload_n 0, 1) := by decide +kernel
theorem dX12_counts_1 : decode cX12_counts 1 = .ok (.getfield 174, 3) := by decide +kernel
theorem dX12_counts_4 : decode cX12_counts 4 = .ok (.ifCond .ge 18, 3) := by decide +kernel
theorem dX12_counts_7 : decode cX12_counts 7 = .ok (.aload_n 0, 1) := by decide +kernel
theorem dX12_counts_8 : decode cX12_counts 8 = .ok (.getfield 177, 3) := by decide +kernel
theorem dX12_counts_11 : decode cX12_counts 11 = .ok (.sipush 150, 3) := by decide +kernel
theorem dX12_counts_14 : decode cX12_counts 14 = .ok (.if_icmp .ne 8, 3) := by decide +kernel
theorem dX12_counts_17 : decode cX12_counts 17 = .ok (.aload_n 0, 1) := by decide +kernel
theorem dX12_counts_18 : decode cX12_counts 18 = .ok (.invokevirtual 180, 3) := by decide +kernel
theorem dX12_counts_21 : decode cX12_counts 21 = .ok (.pop, 1) := by decide +kernel
theorem dX12_counts_22 : decode cX12_counts 22 = .ok (.aload_n 0, 1) := by decide +kernel
theorem dX12_counts_23 : decode cX12_counts 23 = .ok (.dup, 1) := by decide +kernel
theorem dX12_counts_24 : decode cX12_counts 24 = .ok (.getfield 177, 3) := by decide +kernel
theorem dX12_counts_27 : decode cX12_counts 27 = .ok (.iconst 1, 1) := by decide +kernel
theorem dX12_counts_28 : decode cX12_counts 28 = .ok (.iadd, 1) := by decide +kernel
theorem dX12_counts_29 : decode cX12_counts 29 = .ok (.putfield 177, 3) := by decide +kernel
theorem dX12_counts_32 : decode cX12_counts 32 = .ok (.return_, 1) := by decide +kernel
def f_X12_counts_22 (F P : Nat) (S : xSt) (v0 : Nat) (D : xDt) : Option (xDt) :=
  xlet (xup D.1 v0 19 ((D.1 v0 19) + 1), D.2) fun D1 => some D1
set_option maxHeartbeats 4000000 in
theorem t_X12_counts_22 {F P : Nat} {S : xSt} (hS : xWF S) {v0 : Nat} {D : xDt} {r : xDt} (k0 : xK S v0 12) (h : f_X12_counts_22 F P S v0 D = some r) : yEx md_X12_counts 1 22 [(0, .ref v0)] [] S D (xQv S r) := by
  unfold f_X12_counts_22 at h
  refine x_aload_n dX12_counts_22 0 rfl ?_
  refine x_dup dX12_counts_23 rfl ?_
  refine y_geti fl_RX12_177 dX12_counts_24 rfl k0 ?_
  refine x_iconst 1 dX12_counts_27 (by decide) ?_
  refine x_iadd dX12_counts_28 ?_
  refine xlet_e h (fun D1 eD1 h => ?_)
  refine y_puti fp_RX12_177 dX12_counts_29 rfl k0 eD1 ?_
  obtain rfl := Option.some.inj h
  exact y_vret rfl dX12_counts_32

def f_X12_counts (F P : Nat) (S : xSt) (v0 : Nat) (D : xDt) : Option (xDt) :=
  if 0 ≤ (D.1 v0 18) then (f_X12_counts_22 F P S v0 D) else (if (D.1 v0 19) = 150 then ((f_X12_bad F P S v0 D).bind fun q1 => f_X12_counts_22 F P S v0 q1.2) else (f_X12_counts_22 F P S v0 D))
set_option maxHeartbeats 4000000 in
theorem S_X12_counts {F P : Nat} {S : xSt} (hS : xWF S) {v0 : Nat} {D : xDt} {r : xDt} (k0 : xK S v0 12) (h : f_X12_counts F P S v0 D = some r) : xSp md_X12_counts (1, 0, 0) [.ref v0] (S, D) (xQv S r) := by
  unfold f_X12_counts at h
  refine xEntry (by decide) (Nat.le_of_ble_eq_true rfl) ?_
  refine x_lv (lv' := [(0, .ref v0)]) [0] rfl ?_
  refine x_aload_n dX12_counts_0 0 rfl ?_
  refine y_geti fl_RX12_174 dX12_counts_1 rfl k0 ?_
  refine x_if_ge 22 dX12_counts_4 (by decide) (fun c => ?_) (fun c => ?_)
  · rw [if_pos c] at h
    exact t_X12_counts_22 hS k0 h
  · rw [if_neg c] at h
    refine x_aload_n dX12_counts_7 0 rfl ?_
    refine y_geti fl_RX12_177 dX12_counts_8 rfl k0 ?_
    refine x_sipush 150 dX12_counts_11 (by decide) ?_
    refine x_icmp_ne 22 dX12_counts_14 (by decide) (fun c => ?_) (fun c => ?_)
    · rw [if_neg c] at h
      exact t_X12_counts_22 hS k0 h
    · rw [if_pos c] at h
      refine x_aload_n dX12_counts_17 0 rfl ?_
      refine xbnd_e h (fun q1 e1 h => ?_)
      refine y_callVi (As := []) (q := q1) cv_RX12_180 dX12_counts_18 k0 rfl (Nat.le_of_ble_eq_true rfl) (by omega) (S_X12_bad hS k0 e1) ?_
      refine x_pop dX12_counts_21 rfl ?_
      exact t_X12_counts_22 hS k0 h

theorem dX12_must_0 : decode cX12_must 0 = .ok (.aload_n 0, 1) := by decide +kernel
theorem dX12_must_1 : decode cX12_must 1 = .ok (.getfield 174, 3) := by decide +kernel
theorem dX12_must_4 : decode cX12_must 4 = .ok (.ifCond .ge 16, 3) := by decide +kernel
theorem dX12_must_7 : decode cX12_must 7 = .ok (.aload_n 0, 1) := by decide +kernel
theorem dX12_must_8 : decode cX12_must 8 = .ok (.invokevirtual 184, 3) := by decide +kernel
theorem dX12_must_11 : decode cX12_must 11 = .ok (.iload_n 1, 1) := by decide +kernel
theorem dX12_must_12 : decode cX12_must 12 = .ok (.if_icmp .eq 8, 3) := by decide +kernel
theorem dX12_must_15 : decode cX12_must 15 = .ok (.aload_n 0, 1) := by decide +kernel
theorem dX12_must_16 : decode cX12_must 16 = .ok (.invokevirtual 180, 3) := by decide +kernel
theorem dX12_must_19 : decode cX12_must 19 = .ok (.pop, 1) := by decide +kernel
theorem dX12_must_20 : decode cX12_must 20 = .ok (.aload_n 0, 1) := by decide +kernel
theorem dX12_must_21 : decode cX12_must 21 = .ok (.dup, 1) := by decide +kernel
theorem dX12_must_22 : decode cX12_must 22 = .ok (.getfield 171, 3) := by decide +kernel
theorem dX12_must_25 : decode cX12_must 25 = .ok (.aload_n 0, 1) := by decide +kernel
theorem dX12_must_26 : decode cX12_must 26 = .ok (.getfield 174, 3) := by decide +kernel
theorem dX12_must_29 : decode cX12_must 29 = .ok (.ifCond .ge 7, 3) := by decide +kernel
theorem dX12_must_32 : decode cX12_must 32 = .ok (.iconst 1, 1) := by decide +kernel
theorem dX12_must_33 : decode cX12_must 33 = .ok (.goto 4, 3) := by decide +kernel
theorem dX12_must_36 : decode cX12_must 36 = .ok (.iconst 0, 1) := by decide +kernel
theorem dX12_must_37 : decode cX12_must 37 = .ok (.iadd, 1) := by decide +kernel
theorem dX12_must_38 : decode cX12_must 38 = .ok (.putfield 171, 3) := by decide +kernel
theorem dX12_must_41 : decode cX12_must 41 = .ok (.return_, 1) := by decide +kernel
def f_X12_must_20 (F P : Nat) (S : xSt) (v0 : Nat) (D : xDt) : Option (xDt) :=
  if 0 ≤ (D.1 v0 18) then (xlet (xup D.1 v0 17 ((D.1 v0 17) + 0), D.2) fun D1 => some D1) else (xlet (xup D.1 v0 17 ((D.1 v0 17) + 1), D.2) fun D2 => some D2)
set_option maxHeartbeats 4000000 in
theorem t_X12_must_20 {F P : Nat} {S : xSt} (hS : xWF S) {v0 : Nat} {D : xDt} {r : xDt} (k0 : xK S v0 12) (h : f_X12_must_20 F P S v0 D = some r) : yEx md_X12_must 1 20 [(0, .ref v0)] [] S D (xQv S r) := by
  unfold f_X12_must_20 at h
  refine x_aload_n dX12_must_20 0 rfl ?_
  refine x_dup dX12_must_21 rfl ?_
  refine y_geti fl_RX12_171 dX12_must_22 rfl k0 ?_
  refine x_aload_n dX12_must_25 0 rfl ?_
  refine y_geti fl_RX12_174 dX12_must_26 rfl k0 ?_
  refine x_if_ge 36 dX12_must_29 (by decide) (fun c => ?_) (fun c => ?_)
  · rw [if_pos c] at h
    refine x_iconst 0 dX12_must_36 (by decide) ?_
    refine x_iadd dX12_must_37 ?_
    refine xlet_e h (fun D1 eD1 h => ?_)
    refine y_puti fp_RX12_171 dX12_must_38 rfl k0 eD1 ?_
    obtain rfl := Option.some.inj h
    exact y_vret rfl dX12_must_41
  · rw [if_neg c] at h
    refine x_iconst 1 dX12_must_32 (by decide) ?_
    refine x_goto 37 dX12_must_33 (by decide) ?_
    refine x_iadd dX12_must_37 ?_
    refine xlet_e h (fun D2 eD2 h => ?_)
    refine y_puti fp_RX12_171 dX12_must_38 rfl k0 eD2 ?_
    obtain rfl := Option.some.inj h
    exact y_vret rfl dX12_must_41

def f_X12_must (F P : Nat) (S : xSt) (v0 : Nat) (v1 : Int32) (D : xDt) : Option (xDt) :=
  if 0 ≤ (D.1 v0 18) then (f_X12_must_20 F P S v0 D) else ((f_X12_look F P S v0 D).bind fun q1 => if q1.1 = v1 then (f_X12_must_20 F P S v0 q1.2) else ((f_X12_bad F P S v0 q1.2).bind fun q2 => f_X12_must_20 F P S v0 q2.2))
set_option maxHeartbeats 4000000 in
theorem S_X12_must {F P : Nat} {S : xSt} (hS : xWF S) {v0 : Nat} {v1 : Int32} {D : xDt} {r : xDt} (k0 : xK S v0 12) (h : f_X12_must F P S v0 v1 D = some r) : xSp md_X12_must (1, 0, 0) [.ref v0, .int v1] (S, D) (xQv S r) := by
  unfold f_X12_must at h
  refine xEntry (by decide) (Nat.le_of_ble_eq_true rfl) ?_
  refine x_lv (lv' := [(0, .ref v0), (1, .int v1)]) [0, 1] rfl ?_
  refine x_aload_n dX12_must_0 0 rfl ?_
  refine y_geti fl_RX12_174 dX12_must_1 rfl k0 ?_
  refine x_if_ge 20 dX12_must_4 (by decide) (fun c => ?_) (fun c => ?_)
  · rw [if_pos c] at h
    refine x_lv (lv' := [(0, .ref v0)]) [0] rfl ?_
    exact t_X12_must_20 hS k0 h
  · rw [if_neg c] at h
    refine x_aload_n dX12_must_7 0 rfl ?_
    refine xbnd_e h (fun q1 e1 h => ?_)
    refine y_callVi (As := []) (q := q1) cv_RX12_184 dX12_must_8 k0 rfl (Nat.le_of_ble_eq_true rfl) (by omega) (S_X12_look hS k0 e1) ?_
    refine x_iload_n dX12_must_11 1 rfl ?_
    refine x_icmp_eq 20 dX12_must_12 (by decide) (fun c => ?_) (fun c => ?_)
    · rw [if_pos c] at h
      refine x_lv (lv' := [(0, .ref v0)]) [0] rfl ?_
      exact t_X12_must_20 hS k0 h
    · rw [if_neg c] at h
      refine x_aload_n dX12_must_15 0 rfl ?_
      refine xbnd_e h (fun q2 e2 h => ?_)
      refine y_callVi (As := []) (q := q2) cv_RX12_180 dX12_must_16 k0 rfl (Nat.le_of_ble_eq_true rfl) (by omega) (S_X12_bad hS k0 e2) ?_
      refine x_pop dX12_must_19 rfl ?_
      refine x_lv (lv' := [(0, .ref v0)]) [0] rfl ?_
      exact t_X12_must_20 hS k0 h

theorem dX12_group_0 : decode cX12_group 0 = .ok (.iconst 0, 1) := by decide +kernel
theorem dX12_group_1 : decode cX12_group 1 = .ok (.istore_n 2, 1) := by decide +kernel
theorem dX12_group_2 : decode cX12_group 2 = .ok (.iconst 0, 1) := by decide +kernel
theorem dX12_group_3 : decode cX12_group 3 = .ok (.istore_n 3, 1) := by decide +kernel
theorem dX12_group_4 : decode cX12_group 4 = .ok (.aload_n 0, 1) := by decide +kernel
theorem dX12_group_5 : decode cX12_group 5 = .ok (.invokevirtual 184, 3) := by decide +kernel
theorem dX12_group_8 : decode cX12_group 8 = .ok (.istore 4, 2) := by decide +kernel
theorem dX12_group_10 : decode cX12_group 10 = .ok (.iload 4, 2) := by decide +kernel
theorem dX12_group_12 : decode cX12_group 12 = .ok (.bipush 49, 2) := by decide +kernel
theorem dX12_group_14 : decode cX12_group 14 = .ok (.bipush 52, 2) := by decide +kernel
theorem dX12_group_16 : decode cX12_group 16 = .ok (.invokestatic 10, 3) := by decide +kernel
theorem dX12_group_19 : decode cX12_group 19 = .ok (.ifCond .ne 8, 3) := by decide +kernel
theorem dX12_group_22 : decode cX12_group 22 = .ok (.aload_n 0, 1) := by decide +kernel
theorem dX12_group_23 : decode cX12_group 23 = .ok (.invokevirtual 180, 3) := by decide +kernel
theorem dX12_group_26 : decode cX12_group 26 = .ok (.ireturn, 1) := by decide +kernel
theorem dX12_group_27 : decode cX12_group 27 = .ok (.iload 4, 2) := by decide +kernel
theorem dX12_group_29 : decode cX12_group 29 = .ok (.bipush 49, 2) := by decide +kernel
theorem dX12_group_31 : decode cX12_group 31 = .ok (.iload_n 3, 1) := by decide +kernel
theorem dX12_group_32 : decode cX12_group 32 = .ok (.iadd, 1) := by decide +kernel
theorem dX12_group_33 : decode cX12_group 33 = .ok (.bipush 52, 2) := by decide +kernel
theorem dX12_group_35 : decode cX12_group 35 = .ok (.invokestatic 10, 3) := by decide +kernel
theorem dX12_group_38 : decode cX12_group 38 = .ok (.ifCond .eq 44, 3) := by decide +kernel
theorem dX12_group_41 : decode cX12_group 41 = .ok (.iload_n 2, 1) := by decide +kernel
theorem dX12_group_42 : decode cX12_group 42 = .ok (.ifCond .eq 7, 3) := by decide +kernel
theorem dX12_group_45 : decode cX12_group 45 = .ok (.iload_n 1, 1) := by decide +kernel
theorem dX12_group_46 : decode cX12_group 46 = .ok (.ifCond .ne 36, 3) := by decide +kernel
theorem dX12_group_49 : decode cX12_group 49 = .ok (.iload 4, 2) := by decide +kernel
theorem dX12_group_51 : decode cX12_group 51 = .ok (.bipush 48, 2) := by decide +kernel
theorem dX12_group_53 : decode cX12_group 53 = .ok (.isub, 1) := by decide +kernel
theorem dX12_group_54 : decode cX12_group 54 = .ok (.istore_n 3, 1) := by decide +kernel
theorem dX12_group_55 : decode cX12_group 55 = .ok (.iload_n 2, 1) := by decide +kernel
theorem dX12_group_56 : decode cX12_group 56 = .ok (.iconst 1, 1) := by decide +kernel
theorem dX12_group_57 : decode cX12_group 57 = .ok (.iload_n 3, 1) := by decide +kernel
theorem dX12_group_58 : decode cX12_group 58 = .ok (.iconst 1, 1) := by decide +kernel
theorem dX12_group_59 : decode cX12_group 59 = .ok (.isub, 1) := by decide +kernel
theorem dX12_group_60 : decode cX12_group 60 = .ok (.ishl, 1) := by decide +kernel
theorem dX12_group_61 : decode cX12_group 61 = .ok (.ior, 1) := by decide +kernel
theorem dX12_group_62 : decode cX12_group 62 = .ok (.istore_n 2, 1) := by decide +kernel
theorem dX12_group_63 : decode cX12_group 63 = .ok (.aload_n 0, 1) := by decide +kernel
theorem dX12_group_64 : decode cX12_group 64 = .ok (.dup, 1) := by decide +kernel
theorem dX12_group_65 : decode cX12_group 65 = .ok (.getfield 171, 3) := by decide +kernel
theorem dX12_group_68 : decode cX12_group 68 = .ok (.iconst 1, 1) := by decide +kernel
theorem dX12_group_69 : decode cX12_group 69 = .ok (.iadd, 1) := by decide +kernel
theorem dX12_group_70 : decode cX12_group 70 = .ok (.putfield 171, 3) := by decide +kernel
theorem dX12_group_73 : decode cX12_group 73 = .ok (.aload_n 0, 1) := by decide +kernel
theorem dX12_group_74 : decode cX12_group 74 = .ok (.invokevirtual 184, 3) := by decide +kernel
theorem dX12_group_77 : decode cX12_group 77 = .ok (.istore 4, 2) := by decide +kernel
theorem dX12_group_79 : decode cX12_group 79 = .ok (.goto (-52), 3) := by decide +kernel
theorem dX12_group_82 : decode cX12_group 82 = .ok (.iload_n 2, 1) := by decide +kernel
theorem dX12_group_83 : decode cX12_group 83 = .ok (.ireturn, 1) := by decide +kernel
def f_X12_group_49 (F P : Nat) (S : xSt) (rec_27 : Nat → Int32 → Int32 → Int32 → Int32 → xDt → Option (Int32 × xDt)) (v0 : Nat) (v1 : Int32) (v2 : Int32) (v4 : Int32) (D : xDt) : Option (Int32 × xDt) :=
  xlet (v4 - 48) fun v3_1 => xlet (v2 ||| (jishl 1 (v3_1 - 1))) fun v2_2 => xlet (xup D.1 v0 17 ((D.1 v0 17) + 1), D.2) fun D3 => (f_X12_look F P S v0 D3).bind fun q4 => rec_27 v0 v1 v2_2 v3_1 q4.1 q4.2
set_option maxHeartbeats 4000000 in
theorem t_X12_group_49 {F P : Nat} {S : xSt} (hS : xWF S) {rec_27 : Nat → Int32 → Int32 → Int32 → Int32 → xDt → Option (Int32 × xDt)} (hrec_27 : ∀ {v0 : Nat} {v1 : Int32} {v2 : Int32} {v3 : Int32} {v4 : Int32} {D : xDt} {r : Int32 × xDt}, xK S v0 12 → rec_27 v0 v1 v2 v3 v4 D = some r → yEx md_X12_group 1 27 [(0, .ref v0), (1, .int v1), (2, .int v2), (3, .int v3), (4, .int v4)] [] S D (xQi S r)) {v0 : Nat} {v1 : Int32} {v2 : Int32} {v4 : Int32} {D : xDt} {r : Int32 × xDt} (k0 : xK S v0 12) (h : f_X12_group_49 F P S rec_27 v0 v1 v2 v4 D = some r) : yEx md_X12_group 1 49 [(0, .ref v0), (1, .int v1), (2, .int v2), (4, .int v4)] [] S D (xQi S r) := by
  unfold f_X12_group_49 at h
  refine x_iload dX12_group_49 3 rfl ?_
  refine x_bipush 48 dX12_group_51 (by decide) ?_
  refine x_isub dX12_group_53 ?_
  refine xlet_e h (fun v3_1 ev3_1 h => ?_)
  refine y_istore_n v3_1 ev3_1 [(3, .int v3_1), (0, .ref v0), (1, .int v1), (2, .int v2), (4, .int v4)] dX12_group_54 (by show _ < 5; decide) rfl ?_
  refine x_iload_n dX12_group_55 3 rfl ?_
  refine x_iconst 1 dX12_group_56 (by decide) ?_
  refine x_iload_n dX12_group_57 0 rfl ?_
  refine x_iconst 1 dX12_group_58 (by decide) ?_
  refine x_isub dX12_group_59 ?_
  refine x_ishl dX12_group_60 ?_
  refine x_ior dX12_group_61 ?_
  refine xlet_e h (fun v2_2 ev2_2 h => ?_)
  refine y_istore_n v2_2 ev2_2 [(2, .int v2_2), (3, .int v3_1), (0, .ref v0), (1, .int v1), (4, .int v4)] dX12_group_62 (by show _ < 5; decide) rfl ?_
  refine x_aload_n dX12_group_63 2 rfl ?_
  refine x_dup dX12_group_64 rfl ?_
  refine y_geti fl_RX12_171 dX12_group_65 rfl k0 ?_
  refine x_iconst 1 dX12_group_68 (by decide) ?_
  refine x_iadd dX12_group_69 ?_
  refine xlet_e h (fun D3 eD3 h => ?_)
  refine y_puti fp_RX12_171 dX12_group_70 rfl k0 eD3 ?_
  refine x_aload_n dX12_group_73 2 rfl ?_
  refine xbnd_e h (fun q4 e4 h => ?_)
  refine y_callVi (As := []) (q := q4) cv_RX12_184 dX12_group_74 k0 rfl (Nat.le_of_ble_eq_true rfl) (by omega) (S_X12_look hS k0 e4) ?_
  refine y_istore q4.1 rfl [(4, .int q4.1), (2, .int v2_2), (3, .int v3_1), (0, .ref v0), (1, .int v1)] dX12_group_77 (by show _ < 5; decide) rfl ?_
  refine x_goto 27 dX12_group_79 (by decide) ?_
  refine x_lv (lv' := [(0, .ref v0), (1, .int v1), (2, .int v2_2), (3, .int v3_1), (4, .int q4.1)]) [3, 4, 1, 2, 0] rfl ?_
  exact hrec_27 k0 h

def f_X12_group_27s (F P : Nat) (S : xSt) (rec_27 : Nat → Int32 → Int32 → Int32 → Int32 → xDt → Option (Int32 × xDt)) (v0 : Nat) (v1 : Int32) (v2 : Int32) (v3 : Int32) (v4 : Int32) (D : xDt) : Option (Int32 × xDt) :=
  (f_X12_in F P S v4 (49 + v3) 52 D).bind fun q1 => if q1.1 = 0 then (some (v2, q1.2)) else (if v2 = 0 then (f_X12_group_49 F P S rec_27 v0 v1 v2 v4 q1.2) else (if v1 = 0 then (f_X12_group_49 F P S rec_27 v0 v1 v2 v4 q1.2) else (some (v2, q1.2))))
def f_X12_group_27 (F P : Nat) (S : xSt) : Nat → Nat → Int32 → Int32 → Int32 → Int32 → xDt → Option (Int32 × xDt)
  | 0 => fun _ _ _ _ _ _ => none
  | n + 1 => f_X12_group_27s F P S (f_X12_group_27 F P S n)
set_option maxHeartbeats 4000000 in
theorem t_X12_group_27s {F P : Nat} {S : xSt} (hS : xWF S) {rec_27 : Nat → Int32 → Int32 → Int32 → Int32 → xDt → Option (Int32 × xDt)} (hrec_27 : ∀ {v0 : Nat} {v1 : Int32} {v2 : Int32} {v3 : Int32} {v4 : Int32} {D : xDt} {r : Int32 × xDt}, xK S v0 12 → rec_27 v0 v1 v2 v3 v4 D = some r → yEx md_X12_group 1 27 [(0, .ref v0), (1, .int v1), (2, .int v2), (3, .int v3), (4, .int v4)] [] S D (xQi S r)) {v0 : Nat} {v1 : Int32} {v2 : Int32} {v3 : Int32} {v4 : Int32} {D : xDt} {r : Int32 × xDt} (k0 : xK S v0 12) (h : f_X12_group_27s F P S rec_27 v0 v1 v2 v3 v4 D = some r) : yEx md_X12_group 1 27 [(0, .ref v0), (1, .int v1), (2, .int v2), (3, .int v3), (4, .int v4)] [] S D (xQi S r) := by
  unfold f_X12_group_27s at h
  refine x_iload dX12_group_27 4 rfl ?_
  refine x_bipush 49 dX12_group_29 (by decide) ?_
  refine x_iload_n dX12_group_31 3 rfl ?_
  refine x_iadd dX12_group_32 ?_
  refine x_bipush 52 dX12_group_33 (by decide) ?_
  refine xbnd_e h (fun q1 e1 h => ?_)
  refine y_callSi (As := [.int v4, .int (49 + v3), .int 52]) (q := q1) cs_RX12_10 dX12_group_35 rfl (Nat.le_of_ble_eq_true rfl) (by omega) (S_X12_in hS e1) ?_
  refine x_if_eq 82 dX12_group_38 (by decide) (fun c => ?_) (fun c => ?_)
  · rw [if_pos c] at h
    refine x_iload_n dX12_group_82 2 rfl ?_
    obtain rfl := Option.some.inj h
    exact y_iret rfl dX12_group_83
  · rw [if_neg c] at h
    refine x_iload_n dX12_group_41 2 rfl ?_
    refine x_if_eq 49 dX12_group_42 (by decide) (fun c => ?_) (fun c => ?_)
    · rw [if_pos c] at h
      refine x_lv (lv' := [(0, .ref v0), (1, .int v1), (2, .int v2), (4, .int v4)]) [0, 1, 2, 4] rfl ?_
      exact t_X12_group_49 hS hrec_27 k0 h
    · rw [if_neg c] at h
      refine x_iload_n dX12_group_45 1 rfl ?_
      refine x_if_ne 82 dX12_group_46 (by decide) (fun c => ?_) (fun c => ?_)
      · rw [if_neg c] at h
        refine x_iload_n dX12_group_82 2 rfl ?_
        obtain rfl := Option.some.inj h
        exact y_iret rfl dX12_group_83
      · rw [if_pos c] at h
        refine x_lv (lv' := [(0, .ref v0), (1, .int v1), (2, .int v2), (4, .int v4)]) [0, 1, 2, 4] rfl ?_
        exact t_X12_group_49 hS hrec_27 k0 h
theorem t_X12_group_27 {F P : Nat} {S : xSt} (hS : xWF S) : ∀ (n : Nat) {v0 : Nat} {v1 : Int32} {v2 : Int32} {v3 : Int32} {v4 : Int32} {D : xDt} {r : Int32 × xDt}, xK S v0 12 → f_X12_group_27 F P S n v0 v1 v2 v3 v4 D = some r → yEx md_X12_group 1 27 [(0, .ref v0), (1, .int v1), (2, .int v2), (3, .int v3), (4, .int v4)] [] S D (xQi S r) := by
  intro n
  induction n with
  | zero => intros; rename_i h; cases h
  | succ n ih =>
    intro v0 v1 v2 v3 v4 D r k0 h
    exact t_X12_group_27s hS (fun k0 h => ih k0 h) k0 h

def f_X12_group (F P : Nat) (S : xSt) (v0 : Nat) (v1 : Int32) (D : xDt) : Option (Int32 × xDt) :=
  (f_X12_look F P S v0 D).bind fun q1 => (f_X12_in F P S q1.1 49 52 q1.2).bind fun q2 => if q2.1 = 0 then ((f_X12_bad F P S v0 q2.2).bind fun q3 => some (q3.1, q3.2)) else (f_X12_group_27 F P S F v0 v1 0 0 q1.1 q2.2)
set_option maxHeartbeats 4000000 in
theorem S_X12_group {F P : Nat} {S : xSt} (hS : xWF S) {v0 : Nat} {v1 : Int32} {D : xDt} {r : Int32 × xDt} (k0 : xK S v0 12) (h : f_X12_group F P S v0 v1 D = some r) : xSp md_X12_group (1, 0, 0) [.ref v0, .int v1] (S, D) (xQi S r) := by
  unfold f_X12_group at h
  refine xEntry (by decide) (Nat.le_of_ble_eq_true rfl) ?_
  refine x_lv (lv' := [(0, .ref v0), (1, .int v1)]) [0, 1] rfl ?_
  refine x_iconst 0 dX12_group_0 (by decide) ?_
  refine y_istore_n 0 rfl [(2, .int 0), (0, .ref v0), (1, .int v1)] dX12_group_1 (by show _ < 5; decide) rfl ?_
  refine x_iconst 0 dX12_group_2 (by decide) ?_
  refine y_istore_n 0 rfl [(3, .int 0), (2, .int 0), (0, .ref v0), (1, .int v1)] dX12_group_3 (by show _ < 5; decide) rfl ?_
  refine x_aload_n dX12_group_4 2 rfl ?_
  refine xbnd_e h (fun q1 e1 h => ?_)
  refine y_callVi (As := []) (q := q1) cv_RX12_184 dX12_group_5 k0 rfl (Nat.le_of_ble_eq_true rfl) (by omega) (S_X12_look hS k0 e1) ?_
  refine y_istore q1.1 rfl [(4, .int q1.1), (3, .int 0), (2, .int 0), (0, .ref v0), (1, .int v1)] dX12_group_8 (by show _ < 5; decide) rfl ?_
  refine x_iload dX12_group_10 0 rfl ?_
  refine x_bipush 49 dX12_group_12 (by decide) ?_
  refine x_bipush 52 dX12_group_14 (by decide) ?_
  refine xbnd_e h (fun q2 e2 h => ?_)
  refine y_callSi (As := [.int q1.1, .int 49, .int 52]) (q := q2) cs_RX12_10 dX12_group_16 rfl (Nat.le_of_ble_eq_true rfl) (by omega) (S_X12_in hS e2) ?_
  refine x_if_ne 27 dX12_group_19 (by decide) (fun c => ?_) (fun c => ?_)
  · rw [if_neg c] at h
    refine x_lv (lv' := [(0, .ref v0), (1, .int v1), (2, .int 0), (3, .int 0), (4, .int q1.1)]) [3, 4, 2, 1, 0] rfl ?_
    exact t_X12_group_27 hS F k0 h
  · rw [if_pos c] at h
    refine x_aload_n dX12_group_22 3 rfl ?_
    refine xbnd_e h (fun q3 e3 h => ?_)
    refine y_callVi (As := []) (q := q3) cv_RX12_180 dX12_group_23 k0 rfl (Nat.le_of_ble_eq_true rfl) (by omega) (S_X12_bad hS k0 e3) ?_
    obtain rfl := Option.some.inj h
    exact y_iret rfl dX12_group_26

