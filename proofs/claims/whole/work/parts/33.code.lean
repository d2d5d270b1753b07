/-! printed by wip/whole/gen.py: the methods as plain functions, each proved to be what its bytecode does -/
theorem dX12_reckon_0 : decode cX12_reckon 0 = .ok (.sipush 12800, 3) := by decide +kernel
theorem dX12_reckon_3 : decode cX12_reckon 3 = .ok (.istore_n 3, 1) := by decide +kernel
theorem dX12_reckon_4 : decode cX12_reckon 4 = .ok (.iload_n 3, 1) := by decide +kernel
theorem dX12_reckon_5 : decode cX12_reckon 5 = .ok (.iload_n 2, 1) := by decide +kernel
theorem dX12_reckon_6 : decode cX12_reckon 6 = .ok (.if_icmp .ge 225, 3) := by decide +kernel
theorem dX12_reckon_9 : decode cX12_reckon 9 = .ok (.aload_n 0, 1) := by decide +kernel
theorem dX12_reckon_10 : decode cX12_reckon 10 = .ok (.getfield 75, 3) := by decide +kernel
theorem dX12_reckon_13 : decode cX12_reckon 13 = .ok (.iload_n 3, 1) := by decide +kernel
theorem dX12_reckon_14 : decode cX12_reckon 14 = .ok (.iaload, 1) := by decide +kernel
theorem dX12_reckon_15 : decode cX12_reckon 15 = .ok (.ifCond .lt 25, 3) := by decide +kernel
theorem dX12_reckon_18 : decode cX12_reckon 18 = .ok (.aload_n 0, 1) := by decide +kernel
theorem dX12_reckon_19 : decode cX12_reckon 19 = .ok (.getfield 150, 3) := by decide +kernel
theorem dX12_reckon_22 : decode cX12_reckon 22 = .ok (.aload_n 0, 1) := by decide +kernel
theorem dX12_reckon_23 : decode cX12_reckon 23 = .ok (.getfield 75, 3) := by decide +kernel
theorem dX12_reckon_26 : decode cX12_reckon 26 = .ok (.iload_n 3, 1) := by decide +kernel
theorem dX12_reckon_27 : decode cX12_reckon 27 = .ok (.iaload, 1) := by decide +kernel
theorem dX12_reckon_28 : decode cX12_reckon 28 = .ok (.sipush 12800, 3) := by decide +kernel
theorem dX12_reckon_31 : decode cX12_reckon 31 = .ok (.isub, 1) := by decide +kernel
theorem dX12_reckon_32 : decode cX12_reckon 32 = .ok (.baload, 1) := by decide +kernel
theorem dX12_reckon_33 : decode cX12_reckon 33 = .ok (.ifCond .eq 7, 3) := by decide +kernel
theorem dX12_reckon_36 : decode cX12_reckon 36 = .ok (.iconst 1, 1) := by decide +kernel
theorem dX12_reckon_37 : decode cX12_reckon 37 = .ok (.goto 4, 3) := by decide +kernel
theorem dX12_reckon_40 : decode cX12_reckon 40 = .ok (.iconst 0, 1) := by decide +kernel
theorem dX12_reckon_41 : decode cX12_reckon 41 = .ok (.istore 4, 2) := by decide +kernel
theorem dX12_reckon_43 : decode cX12_reckon 43 = .ok (.aload_n 0, 1) := by decide +kernel
theorem dX12_reckon_44 : decode cX12_reckon 44 = .ok (.getfield 78, 3) := by decide +kernel
theorem dX12_reckon_47 : decode cX12_reckon 47 = .ok (.iload_n 3, 1) := by decide +kernel
theorem dX12_reckon_48 : decode cX12_reckon 48 = .ok (.iaload, 1) := by decide +kernel
theorem dX12_reckon_49 : decode cX12_reckon 49 = .ok (.ifCond .lt 25, 3) := by decide +kernel
theorem dX12_reckon_52 : decode cX12_reckon 52 = .ok (.aload_n 0, 1) := by decide +kernel
theorem dX12_reckon_53 : decode cX12_reckon 53 = .ok (.getfield 150, 3) := by decide +kernel
theorem dX12_reckon_56 : decode cX12_reckon 56 = .ok (.aload_n 0, 1) := by decide +kernel
theorem dX12_reckon_57 : decode cX12_reckon 57 = .ok (.getfield 78, 3) := by decide +kernel
theorem dX12_reckon_60 : decode cX12_reckon 60 = .ok (.iload_n 3, 1) := by decide +kernel
theorem dX12_reckon_61 : decode cX12_reckon 61 = .ok (.iaload, 1) := by decide +kernel
theorem dX12_reckon_62 : decode cX12_reckon 62 = .ok (.sipush 12800, 3) := by decide +kernel
theorem dX12_reckon_65 : decode cX12_reckon 65 = .ok (.isub, 1) := by decide +kernel
theorem dX12_reckon_66 : decode cX12_reckon 66 = .ok (.baload, 1) := by decide +kernel
theorem dX12_reckon_67 : decode cX12_reckon 67 = .ok (.ifCond .eq 7, 3) := by decide +kernel
theorem dX12_reckon_70 : decode cX12_reckon 70 = .ok (.iconst 1, 1) := by decide +kernel
theorem dX12_reckon_71 : decode cX12_reckon 71 = .ok (.goto 4, 3) := by decide +kernel
theorem dX12_reckon_74 : decode cX12_reckon 74 = .ok (.iconst 0, 1) := by decide +kernel
theorem dX12_reckon_75 : decode cX12_reckon 75 = .ok (.istore 5, 2) := by decide +kernel
theorem dX12_reckon_77 : decode cX12_reckon 77 = .ok (.aload_n 0, 1) := by decide +kernel
theorem dX12_reckon_78 : decode cX12_reckon 78 = .ok (.getfield 72, 3) := by decide +kernel
theorem dX12_reckon_81 : decode cX12_reckon 81 = .ok (.iload_n 3, 1) := by decide +kernel
theorem dX12_reckon_82 : decode cX12_reckon 82 = .ok (.iaload, 1) := by decide +kernel
theorem dX12_reckon_83 : decode cX12_reckon 83 = .ok (.istore 6, 2) := by decide +kernel
theorem dX12_reckon_85 : decode cX12_reckon 85 = .ok (.iload 6, 2) := by decide +kernel
theorem dX12_reckon_87 : decode cX12_reckon 87 = .ok (.iconst 3, 1) := by decide +kernel
theorem dX12_reckon_88 : decode cX12_reckon 88 = .ok (.if_icmp .eq 79, 3) := by decide +kernel
theorem dX12_reckon_91 : decode cX12_reckon 91 = .ok (.iload 6, 2) := by decide +kernel
theorem dX12_reckon_93 : decode cX12_reckon 93 = .ok (.iconst 4, 1) := by decide +kernel
theorem dX12_reckon_94 : decode cX12_reckon 94 = .ok (.if_icmp .ne 8, 3) := by decide +kernel
theorem dX12_reckon_97 : decode cX12_reckon 97 = .ok (.iload 4, 2) := by decide +kernel
theorem dX12_reckon_99 : decode cX12_reckon 99 = .ok (.ifCond .eq 68, 3) := by decide +kernel
theorem dX12_reckon_102 : decode cX12_reckon 102 = .ok (.iload 6, 2) := by decide +kernel
theorem dX12_reckon_104 : decode cX12_reckon 104 = .ok (.bipush 10, 2) := by decide +kernel
theorem dX12_reckon_106 : decode cX12_reckon 106 = .ok (.if_icmp .ne 10, 3) := by decide +kernel
theorem dX12_reckon_109 : decode cX12_reckon 109 = .ok (.iload 4, 2) := by decide +kernel
theorem dX12_reckon_111 : decode cX12_reckon 111 = .ok (.iload 5, 2) := by decide +kernel
theorem dX12_reckon_113 : decode cX12_reckon 113 = .ok (.if_icmp .eq 54, 3) := by decide +kernel
theorem dX12_reckon_116 : decode cX12_reckon 116 = .ok (.iload 6, 2) := by decide +kernel
theorem dX12_reckon_118 : decode cX12_reckon 118 = .ok (.bipush 11, 2) := by decide +kernel
theorem dX12_reckon_120 : decode cX12_reckon 120 = .ok (.if_icmp .ne 13, 3) := by decide +kernel
theorem dX12_reckon_123 : decode cX12_reckon 123 = .ok (.iload 4, 2) := by decide +kernel
theorem dX12_reckon_125 : decode cX12_reckon 125 = .ok (.ifCond .eq 42, 3) := by decide +kernel
theorem dX12_reckon_128 : decode cX12_reckon 128 = .ok (.iload 5, 2) := by decide +kernel
theorem dX12_reckon_130 : decode cX12_reckon 130 = .ok (.ifCond .ne 37, 3) := by decide +kernel
theorem dX12_reckon_133 : decode cX12_reckon 133 = .ok (.iload 6, 2) := by decide +kernel
theorem dX12_reckon_135 : decode cX12_reckon 135 = .ok (.bipush 12, 2) := by decide +kernel
theorem dX12_reckon_137 : decode cX12_reckon 137 = .ok (.if_icmp .ne 13, 3) := by decide +kernel
theorem dX12_reckon_140 : decode cX12_reckon 140 = .ok (.iload 4, 2) := by decide +kernel
theorem dX12_reckon_142 : decode cX12_reckon 142 = .ok (.ifCond .ne 25, 3) := by decide +kernel
theorem dX12_reckon_145 : decode cX12_reckon 145 = .ok (.iload 5, 2) := by decide +kernel
theorem dX12_reckon_147 : decode cX12_reckon 147 = .ok (.ifCond .ne 20, 3) := by decide +kernel
theorem dX12_reckon_150 : decode cX12_reckon 150 = .ok (.iload 6, 2) := by decide +kernel
theorem dX12_reckon_152 : decode cX12_reckon 152 = .ok (.bipush 13, 2) := by decide +kernel
theorem dX12_reckon_154 : decode cX12_reckon 154 = .ok (.if_icmp .ne 17, 3) := by decide +kernel
theorem dX12_reckon_157 : decode cX12_reckon 157 = .ok (.iload 4, 2) := by decide +kernel
theorem dX12_reckon_159 : decode cX12_reckon 159 = .ok (.ifCond .eq 12, 3) := by decide +kernel
theorem dX12_reckon_162 : decode cX12_reckon 162 = .ok (.iload 5, 2) := by decide +kernel
theorem dX12_reckon_164 : decode cX12_reckon 164 = .ok (.ifCond .eq 7, 3) := by decide +kernel
theorem dX12_reckon_167 : decode cX12_reckon 167 = .ok (.iconst 1, 1) := by decide +kernel
theorem dX12_reckon_168 : decode cX12_reckon 168 = .ok (.goto 4, 3) := by decide +kernel
theorem dX12_reckon_171 : decode cX12_reckon 171 = .ok (.iconst 0, 1) := by decide +kernel
theorem dX12_reckon_172 : decode cX12_reckon 172 = .ok (.istore 7, 2) := by decide +kernel
theorem dX12_reckon_174 : decode cX12_reckon 174 = .ok (.iload 6, 2) := by decide +kernel
theorem dX12_reckon_176 : decode cX12_reckon 176 = .ok (.iconst 1, 1) := by decide +kernel
theorem dX12_reckon_177 : decode cX12_reckon 177 = .ok (.if_icmp .eq 16, 3) := by decide +kernel
theorem dX12_reckon_180 : decode cX12_reckon 180 = .ok (.iload 6, 2) := by decide +kernel
theorem dX12_reckon_182 : decode cX12_reckon 182 = .ok (.iconst 5, 1) := by decide +kernel
theorem dX12_reckon_183 : decode cX12_reckon 183 = .ok (.if_icmp .eq 10, 3) := by decide +kernel
theorem dX12_reckon_186 : decode cX12_reckon 186 = .ok (.iload 6, 2) := by decide +kernel
theorem dX12_reckon_188 : decode cX12_reckon 188 = .ok (.bipush 8, 2) := by decide +kernel
theorem dX12_reckon_190 : decode cX12_reckon 190 = .ok (.if_icmp .ne 23, 3) := by decide +kernel
theorem dX12_reckon_193 : decode cX12_reckon 193 = .ok (.iload_n 1, 1) := by decide +kernel
theorem dX12_reckon_194 : decode cX12_reckon 194 = .ok (.aload_n 0, 1) := by decide +kernel
theorem dX12_reckon_195 : decode cX12_reckon 195 = .ok (.iload_n 3, 1) := by decide +kernel
theorem dX12_reckon_196 : decode cX12_reckon 196 = .ok (.invokevirtual 313, 3) := by decide +kernel
theorem dX12_reckon_199 : decode cX12_reckon 199 = .ok (.ishr, 1) := by decide +kernel
theorem dX12_reckon_200 : decode cX12_reckon 200 = .ok (.iconst 1, 1) := by decide +kernel
theorem dX12_reckon_201 : decode cX12_reckon 201 = .ok (.iand, 1) := by decide +kernel
theorem dX12_reckon_202 : decode cX12_reckon 202 = .ok (.iconst 1, 1) := by decide +kernel
theorem dX12_reckon_203 : decode cX12_reckon 203 = .ok (.if_icmp .ne 7, 3) := by decide +kernel
theorem dX12_reckon_206 : decode cX12_reckon 206 = .ok (.iconst 1, 1) := by decide +kernel
theorem dX12_reckon_207 : decode cX12_reckon 207 = .ok (.goto 4, 3) := by decide +kernel
theorem dX12_reckon_210 : decode cX12_reckon 210 = .ok (.iconst 0, 1) := by decide +kernel
theorem dX12_reckon_211 : decode cX12_reckon 211 = .ok (.istore 7, 2) := by decide +kernel
theorem dX12_reckon_213 : decode cX12_reckon 213 = .ok (.aload_n 0, 1) := by decide +kernel
theorem dX12_reckon_214 : decode cX12_reckon 214 = .ok (.getfield 150, 3) := by decide +kernel
theorem dX12_reckon_217 : decode cX12_reckon 217 = .ok (.iload_n 3, 1) := by decide +kernel
theorem dX12_reckon_218 : decode cX12_reckon 218 = .ok (.sipush 12800, 3) := by decide +kernel
theorem dX12_reckon_221 : decode cX12_reckon 221 = .ok (.isub, 1) := by decide +kernel
theorem dX12_reckon_222 : decode cX12_reckon 222 = .ok (.iload 7, 2) := by decide +kernel
theorem dX12_reckon_224 : decode cX12_reckon 224 = .ok (.bastore, 1) := by decide +kernel
theorem dX12_reckon_225 : decode cX12_reckon 225 = .ok (.iinc 3 1, 3) := by decide +kernel
theorem dX12_reckon_228 : decode cX12_reckon 228 = .ok (.goto (-224), 3) := by decide +kernel
theorem dX12_reckon_231 : decode cX12_reckon 231 = .ok (.return_, 1) := by decide +kernel
def f_X12_reckon_213 (F P : Nat) (S : xSt) (rec_4 : Nat → Int32 → Int32 → Int32 → xDt → Option (xDt)) (v0 : Nat) (v1 : Int32) (v2 : Int32) (v3 : Int32) (v7 : Int32) (D : xDt) : Option (xDt) :=
  xgrd (xin (v3 - 12800) (xl S (xr S v0 43))) (xlet (xup D.1 (xr S v0 43) (v3 - 12800).toNatClampNeg (v7 &&& 1), D.2) fun D2 => xlet (v3 + 1) fun v3_3 => rec_4 v0 v1 v2 v3_3 D2)
set_option maxHeartbeats 4000000 in
theorem t_X12_reckon_213 {F P : Nat} {S : xSt} (hS : xWF S) {rec_4 : Nat → Int32 → Int32 → Int32 → xDt → Option (xDt)} (hrec_4 : ∀ {v0 : Nat} {v1 : Int32} {v2 : Int32} {v3 : Int32} {D : xDt} {r : xDt}, xK S v0 12 → rec_4 v0 v1 v2 v3 D = some r → yEx md_X12_reckon 1 4 [(0, .ref v0), (1, .int v1), (2, .int v2), (3, .int v3)] [] S D (xQv S r)) {v0 : Nat} {v1 : Int32} {v2 : Int32} {v3 : Int32} {v7 : Int32} {D : xDt} {r : xDt} (k0 : xK S v0 12) (h : f_X12_reckon_213 F P S rec_4 v0 v1 v2 v3 v7 D = some r) : yEx md_X12_reckon 1 213 [(0, .ref v0), (1, .int v1), (2, .int v2), (3, .int v3), (7, .int v7)] [] S D (xQv S r) := by
  unfold f_X12_reckon_213 at h
  refine x_aload_n dX12_reckon_213 0 rfl ?_
  refine y_getr (kd := 104) hS fl_RX12_150 dX12_reckon_214 rfl k0 ?_
  refine x_iload_n dX12_reckon_217 3 rfl ?_
  refine x_sipush 12800 dX12_reckon_218 (by decide) ?_
  refine x_isub dX12_reckon_221 ?_
  refine x_iload dX12_reckon_222 4 rfl ?_
  refine xgrd_e h (fun g1 h => ?_)
  refine xlet_e h (fun D2 eD2 h => ?_)
  refine y_zast dX12_reckon_224 ((hS.f k0 43 104 rfl).2) g1 eD2 ?_
  refine xlet_e h (fun v3_3 ev3_3 h => ?_)
  refine y_iinc v3_3 ev3_3 (by decide) [(3, .int v3_3), (0, .ref v0), (1, .int v1), (2, .int v2), (7, .int v7)] dX12_reckon_225 3 rfl (by show _ < 8; decide) rfl ?_
  refine x_goto 4 dX12_reckon_228 (by decide) ?_
  refine x_lv (lv' := [(0, .ref v0), (1, .int v1), (2, .int v2), (3, .int v3_3)]) [1, 2, 3, 0] rfl ?_
  exact hrec_4 k0 h

def f_X12_reckon_211 (F P : Nat) (S : xSt) (rec_4 : Nat → Int32 → Int32 → Int32 → xDt → Option (xDt)) (v0 : Nat) (v1 : Int32) (v2 : Int32) (v3 : Int32) (s0 : Int32) (D : xDt) : Option (xDt) :=
  f_X12_reckon_213 F P S rec_4 v0 v1 v2 v3 s0 D
set_option maxHeartbeats 4000000 in
theorem t_X12_reckon_211 {F P : Nat} {S : xSt} (hS : xWF S) {rec_4 : Nat → Int32 → Int32 → Int32 → xDt → Option (xDt)} (hrec_4 : ∀ {v0 : Nat} {v1 : Int32} {v2 : Int32} {v3 : Int32} {D : xDt} {r : xDt}, xK S v0 12 → rec_4 v0 v1 v2 v3 D = some r → yEx md_X12_reckon 1 4 [(0, .ref v0), (1, .int v1), (2, .int v2), (3, .int v3)] [] S D (xQv S r)) {v0 : Nat} {v1 : Int32} {v2 : Int32} {v3 : Int32} {s0 : Int32} {D : xDt} {r : xDt} (k0 : xK S v0 12) (h : f_X12_reckon_211 F P S rec_4 v0 v1 v2 v3 s0 D = some r) : yEx md_X12_reckon 1 211 [(0, .ref v0), (1, .int v1), (2, .int v2), (3, .int v3)] [.int s0] S D (xQv S r) := by
  unfold f_X12_reckon_211 at h
  refine y_istore s0 rfl [(7, .int s0), (0, .ref v0), (1, .int v1), (2, .int v2), (3, .int v3)] dX12_reckon_211 (by show _ < 8; decide) rfl ?_
  refine x_lv (lv' := [(0, .ref v0), (1, .int v1), (2, .int v2), (3, .int v3), (7, .int s0)]) [1, 2, 3, 4, 0] rfl ?_
  exact t_X12_reckon_213 hS hrec_4 k0 h

def f_X12_reckon_193 (F P : Nat) (S : xSt) (rec_4 : Nat → Int32 → Int32 → Int32 → xDt → Option (xDt)) (v0 : Nat) (v1 : Int32) (v2 : Int32) (v3 : Int32) (D : xDt) : Option (xDt) :=
  (f_X12_placeInBase F P S v0 v3 D).bind fun q1 => if ((jishr v1 q1.1) &&& 1) = 1 then (f_X12_reckon_211 F P S rec_4 v0 v1 v2 v3 1 q1.2) else (f_X12_reckon_211 F P S rec_4 v0 v1 v2 v3 0 q1.2)
set_option maxHeartbeats 4000000 in
theorem t_X12_reckon_193 {F P : Nat} {S : xSt} (hS : xWF S) {rec_4 : Nat → Int32 → Int32 → Int32 → xDt → Option (xDt)} (hrec_4 : ∀ {v0 : Nat} {v1 : Int32} {v2 : Int32} {v3 : Int32} {D : xDt} {r : xDt}, xK S v0 12 → rec_4 v0 v1 v2 v3 D = some r → yEx md_X12_reckon 1 4 [(0, .ref v0), (1, .int v1), (2, .int v2), (3, .int v3)] [] S D (xQv S r)) {v0 : Nat} {v1 : Int32} {v2 : Int32} {v3 : Int32} {D : xDt} {r : xDt} (k0 : xK S v0 12) (h : f_X12_reckon_193 F P S rec_4 v0 v1 v2 v3 D = some r) : yEx md_X12_reckon 1 193 [(0, .ref v0), (1, .int v1), (2, .int v2), (3, .int v3)] [] S D (xQv S r) := by
  unfold f_X12_reckon_193 at h
  refine x_iload_n dX12_reckon_193 1 rfl ?_
  refine x_aload_n dX12_reckon_194 0 rfl ?_
  refine x_iload_n dX12_reckon_195 3 rfl ?_
  refine xbnd_e h (fun q1 e1 h => ?_)
  refine y_callVi (As := [.int v3]) (q := q1) cv_RX12_313 dX12_reckon_196 k0 rfl (Nat.le_of_ble_eq_true rfl) (by omega) (S_X12_placeInBase hS k0 e1) ?_
  refine x_ishr dX12_reckon_199 ?_
  refine x_iconst 1 dX12_reckon_200 (by decide) ?_
  refine x_iand dX12_reckon_201 ?_
  refine x_iconst 1 dX12_reckon_202 (by decide) ?_
  refine x_icmp_ne 210 dX12_reckon_203 (by decide) (fun c => ?_) (fun c => ?_)
  · rw [if_neg c] at h
    refine x_iconst 0 dX12_reckon_210 (by decide) ?_
    exact t_X12_reckon_211 hS hrec_4 k0 h
  · rw [if_pos c] at h
    refine x_iconst 1 dX12_reckon_206 (by decide) ?_
    refine x_goto 211 dX12_reckon_207 (by decide) ?_
    exact t_X12_reckon_211 hS hrec_4 k0 h

def f_X12_reckon_172 (F P : Nat) (S : xSt) (rec_4 : Nat → Int32 → Int32 → Int32 → xDt → Option (xDt)) (v0 : Nat) (v1 : Int32) (v2 : Int32) (v3 : Int32) (v6 : Int32) (s0 : Int32) (D : xDt) : Option (xDt) :=
  if v6 = 1 then (f_X12_reckon_193 F P S rec_4 v0 v1 v2 v3 D) else (if v6 = 5 then (f_X12_reckon_193 F P S rec_4 v0 v1 v2 v3 D) else (if v6 = 8 then (f_X12_reckon_193 F P S rec_4 v0 v1 v2 v3 D) else (f_X12_reckon_213 F P S rec_4 v0 v1 v2 v3 s0 D)))
set_option maxHeartbeats 4000000 in
theorem t_X12_reckon_172 {F P : Nat} {S : xSt} (hS : xWF S) {rec_4 : Nat → Int32 → Int32 → Int32 → xDt → Option (xDt)} (hrec_4 : ∀ {v0 : Nat} {v1 : Int32} {v2 : Int32} {v3 : Int32} {D : xDt} {r : xDt}, xK S v0 12 → rec_4 v0 v1 v2 v3 D = some r → yEx md_X12_reckon 1 4 [(0, .ref v0), (1, .int v1), (2, .int v2), (3, .int v3)] [] S D (xQv S r)) {v0 : Nat} {v1 : Int32} {v2 : Int32} {v3 : Int32} {v6 : Int32} {s0 : Int32} {D : xDt} {r : xDt} (k0 : xK S v0 12) (h : f_X12_reckon_172 F P S rec_4 v0 v1 v2 v3 v6 s0 D = some r) : yEx md_X12_reckon 1 172 [(0, .ref v0), (1, .int v1), (2, .int v2), (3, .int v3), (6, .int v6)] [.int s0] S D (xQv S r) := by
  unfold f_X12_reckon_172 at h
  refine y_istore s0 rfl [(7, .int s0), (0, .ref v0), (1, .int v1), (2, .int v2), (3, .int v3), (6, .int v6)] dX12_reckon_172 (by show _ < 8; decide) rfl ?_
  refine x_iload dX12_reckon_174 5 rfl ?_
  refine x_iconst 1 dX12_reckon_176 (by decide) ?_
  refine x_icmp_eq 193 dX12_reckon_177 (by decide) (fun c => ?_) (fun c => ?_)
  · rw [if_pos c] at h
    refine x_lv (lv' := [(0, .ref v0), (1, .int v1), (2, .int v2), (3, .int v3)]) [1, 2, 3, 4] rfl ?_
    exact t_X12_reckon_193 hS hrec_4 k0 h
  · rw [if_neg c] at h
    refine x_iload dX12_reckon_180 5 rfl ?_
    refine x_iconst 5 dX12_reckon_182 (by decide) ?_
    refine x_icmp_eq 193 dX12_reckon_183 (by decide) (fun c => ?_) (fun c => ?_)
    · rw [if_pos c] at h
      refine x_lv (lv' := [(0, .ref v0), (1, .int v1), (2, .int v2), (3, .int v3)]) [1, 2, 3, 4] rfl ?_
      exact t_X12_reckon_193 hS hrec_4 k0 h
    · rw [if_neg c] at h
      refine x_iload dX12_reckon_186 5 rfl ?_
      refine x_bipush 8 dX12_reckon_188 (by decide) ?_
      refine x_icmp_ne 213 dX12_reckon_190 (by decide) (fun c => ?_) (fun c => ?_)
      · rw [if_neg c] at h
        refine x_lv (lv' := [(0, .ref v0), (1, .int v1), (2, .int v2), (3, .int v3), (7, .int s0)]) [1, 2, 3, 4, 0] rfl ?_
        exact t_X12_reckon_213 hS hrec_4 k0 h
      · rw [if_pos c] at h
        refine x_lv (lv' := [(0, .ref v0), (1, .int v1), (2, .int v2), (3, .int v3)]) [1, 2, 3, 4] rfl ?_
        exact t_X12_reckon_193 hS hrec_4 k0 h

def f_X12_reckon_167 (F P : Nat) (S : xSt) (rec_4 : Nat → Int32 → Int32 → Int32 → xDt → Option (xDt)) (v0 : Nat) (v1 : Int32) (v2 : Int32) (v3 : Int32) (v6 : Int32) (D : xDt) : Option (xDt) :=
  f_X12_reckon_172 F P S rec_4 v0 v1 v2 v3 v6 1 D
set_option maxHeartbeats 4000000 in
theorem t_X12_reckon_167 {F P : Nat} {S : xSt} (hS : xWF S) {rec_4 : Nat → Int32 → Int32 → Int32 → xDt → Option (xDt)} (hrec_4 : ∀ {v0 : Nat} {v1 : Int32} {v2 : Int32} {v3 : Int32} {D : xDt} {r : xDt}, xK S v0 12 → rec_4 v0 v1 v2 v3 D = some r → yEx md_X12_reckon 1 4 [(0, .ref v0), (1, .int v1), (2, .int v2), (3, .int v3)] [] S D (xQv S r)) {v0 : Nat} {v1 : Int32} {v2 : Int32} {v3 : Int32} {v6 : Int32} {D : xDt} {r : xDt} (k0 : xK S v0 12) (h : f_X12_reckon_167 F P S rec_4 v0 v1 v2 v3 v6 D = some r) : yEx md_X12_reckon 1 167 [(0, .ref v0), (1, .int v1), (2, .int v2), (3, .int v3), (6, .int v6)] [] S D (xQv S r) := by
  unfold f_X12_reckon_167 at h
  refine x_iconst 1 dX12_reckon_167 (by decide) ?_
  refine x_goto 172 dX12_reckon_168 (by decide) ?_
  exact t_X12_reckon_172 hS hrec_4 k0 h

def f_X12_reckon_171 (F P : Nat) (S : xSt) (rec_4 : Nat → Int32 → Int32 → Int32 → xDt → Option (xDt)) (v0 : Nat) (v1 : Int32) (v2 : Int32) (v3 : Int32) (v6 : Int32) (D : xDt) : Option (xDt) :=
  f_X12_reckon_172 F P S rec_4 v0 v1 v2 v3 v6 0 D
set_option maxHeartbeats 4000000 in
theorem t_X12_reckon_171 {F P : Nat} {S : xSt} (hS : xWF S) {rec_4 : Nat → Int32 → Int32 → Int32 → xDt → Option (xDt)} (hrec_4 : ∀ {v0 : Nat} {v1 : Int32} {v2 : Int32} {v3 : Int32} {D : xDt} {r : xDt}, xK S v0 12 → rec_4 v0 v1 v2 v3 D = some r → yEx md_X12_reckon 1 4 [(0, .ref v0), (1, .int v1), (2, .int v2), (3, .int v3)] [] S D (xQv S r)) {v0 : Nat} {v1 : Int32} {v2 : Int32} {v3 : Int32} {v6 : Int32} {D : xDt} {r : xDt} (k0 : xK S v0 12) (h : f_X12_reckon_171 F P S rec_4 v0 v1 v2 v3 v6 D = some r) : yEx md_X12_reckon 1 171 [(0, .ref v0), (1, .int v1), (2, .int v2), (3, .int v3), (6, .int v6)] [] S D (xQv S r) := by
  unfold f_X12_reckon_171 at h
  refine x_iconst 0 dX12_reckon_171 (by decide) ?_
  exact t_X12_reckon_172 hS hrec_4 k0 h

def f_X12_reckon_150 (F P : Nat) (S : xSt) (rec_4 : Nat → Int32 → Int32 → Int32 → xDt → Option (xDt)) (v0 : Nat) (v1 : Int32) (v2 : Int32) (v3 : Int32) (v4 : Int32) (v5 : Int32) (v6 : Int32) (D : xDt) : Option (xDt) :=
  if v6 = 13 then (if v4 = 0 then (f_X12_reckon_171 F P S rec_4 v0 v1 v2 v3 v6 D) else (if v5 = 0 then (f_X12_reckon_171 F P S rec_4 v0 v1 v2 v3 v6 D) else (f_X12_reckon_167 F P S rec_4 v0 v1 v2 v3 v6 D))) else (f_X12_reckon_171 F P S rec_4 v0 v1 v2 v3 v6 D)
set_option maxHeartbeats 4000000 in
theorem t_X12_reckon_150 {F P : Nat} {S : xSt} (hS : xWF S) {rec_4 : Nat → Int32 → Int32 → Int32 → xDt → Option (xDt)} (hrec_4 : ∀ {v0 : Nat} {v1 : Int32} {v2 : Int32} {v3 : Int32} {D : xDt} {r : xDt}, xK S v0 12 → rec_4 v0 v1 v2 v3 D = some r → yEx md_X12_reckon 1 4 [(0, .ref v0), (1, .int v1), (2, .int v2), (3, .int v3)] [] S D (xQv S r)) {v0 : Nat} {v1 : Int32} {v2 : Int32} {v3 : Int32} {v4 : Int32} {v5 : Int32} {v6 : Int32} {D : xDt} {r : xDt} (k0 : xK S v0 12) (h : f_X12_reckon_150 F P S rec_4 v0 v1 v2 v3 v4 v5 v6 D = some r) : yEx md_X12_reckon 1 150 [(0, .ref v0), (1, .int v1), (2, .int v2), (3, .int v3), (4, .int v4), (5, .int v5), (6, .int v6)] [] S D (xQv S r) := by
  unfold f_X12_reckon_150 at h
  refine x_iload dX12_reckon_150 6 rfl ?_
  refine x_bipush 13 dX12_reckon_152 (by decide) ?_
  refine x_icmp_ne 171 dX12_reckon_154 (by decide) (fun c => ?_) (fun c => ?_)
  · rw [if_neg c] at h
    refine x_lv (lv' := [(0, .ref v0), (1, .int v1), (2, .int v2), (3, .int v3), (6, .int v6)]) [0, 1, 2, 3, 6] rfl ?_
    exact t_X12_reckon_171 hS hrec_4 k0 h
  · rw [if_pos c] at h
    refine x_iload dX12_reckon_157 4 rfl ?_
    refine x_if_eq 171 dX12_reckon_159 (by decide) (fun c => ?_) (fun c => ?_)
    · rw [if_pos c] at h
      refine x_lv (lv' := [(0, .ref v0), (1, .int v1), (2, .int v2), (3, .int v3), (6, .int v6)]) [0, 1, 2, 3, 6] rfl ?_
      exact t_X12_reckon_171 hS hrec_4 k0 h
    · rw [if_neg c] at h
      refine x_iload dX12_reckon_162 5 rfl ?_
      refine x_if_eq 171 dX12_reckon_164 (by decide) (fun c => ?_) (fun c => ?_)
      · rw [if_pos c] at h
        refine x_lv (lv' := [(0, .ref v0), (1, .int v1), (2, .int v2), (3, .int v3), (6, .int v6)]) [0, 1, 2, 3, 6] rfl ?_
        exact t_X12_reckon_171 hS hrec_4 k0 h
      · rw [if_neg c] at h
        refine x_lv (lv' := [(0, .ref v0), (1, .int v1), (2, .int v2), (3, .int v3), (6, .int v6)]) [0, 1, 2, 3, 6] rfl ?_
        exact t_X12_reckon_167 hS hrec_4 k0 h

def f_X12_reckon_133 (F P : Nat) (S : xSt) (rec_4 : Nat → Int32 → Int32 → Int32 → xDt → Option (xDt)) (v0 : Nat) (v1 : Int32) (v2 : Int32) (v3 : Int32) (v4 : Int32) (v5 : Int32) (v6 : Int32) (D : xDt) : Option (xDt) :=
  if v6 = 12 then (if v4 = 0 then (if v5 = 0 then (f_X12_reckon_150 F P S rec_4 v0 v1 v2 v3 v4 v5 v6 D) else (f_X12_reckon_167 F P S rec_4 v0 v1 v2 v3 v6 D)) else (f_X12_reckon_167 F P S rec_4 v0 v1 v2 v3 v6 D)) else (f_X12_reckon_150 F P S rec_4 v0 v1 v2 v3 v4 v5 v6 D)
set_option maxHeartbeats 4000000 in
theorem t_X12_reckon_133 {F P : Nat} {S : xSt} (hS : xWF S) {rec_4 : Nat → Int32 → Int32 → Int32 → xDt → Option (xDt)} (hrec_4 : ∀ {v0 : Nat} {v1 : Int32} {v2 : Int32} {v3 : Int32} {D : xDt} {r : xDt}, xK S v0 12 → rec_4 v0 v1 v2 v3 D = some r → yEx md_X12_reckon 1 4 [(0, .ref v0), (1, .int v1), (2, .int v2), (3, .int v3)] [] S D (xQv S r)) {v0 : Nat} {v1 : Int32} {v2 : Int32} {v3 : Int32} {v4 : Int32} {v5 : Int32} {v6 : Int32} {D : xDt} {r : xDt} (k0 : xK S v0 12) (h : f_X12_reckon_133 F P S rec_4 v0 v1 v2 v3 v4 v5 v6 D = some r) : yEx md_X12_reckon 1 133 [(0, .ref v0), (1, .int v1), (2, .int v2), (3, .int v3), (4, .int v4), (5, .int v5), (6, .int v6)] [] S D (xQv S r) := by
  unfold f_X12_reckon_133 at h
  refine x_iload dX12_reckon_133 6 rfl ?_
  refine x_bipush 12 dX12_reckon_135 (by decide) ?_
  refine x_icmp_ne 150 dX12_reckon_137 (by decide) (fun c => ?_) (fun c => ?_)
  · rw [if_neg c] at h
    exact t_X12_reckon_150 hS hrec_4 k0 h
  · rw [if_pos c] at h
    refine x_iload dX12_reckon_140 4 rfl ?_
    refine x_if_ne 167 dX12_reckon_142 (by decide) (fun c => ?_) (fun c => ?_)
    · rw [if_neg c] at h
      refine x_lv (lv' := [(0, .ref v0), (1, .int v1), (2, .int v2), (3, .int v3), (6, .int v6)]) [0, 1, 2, 3, 6] rfl ?_
      exact t_X12_reckon_167 hS hrec_4 k0 h
    · rw [if_pos c] at h
      refine x_iload dX12_reckon_145 5 rfl ?_
      refine x_if_ne 167 dX12_reckon_147 (by decide) (fun c => ?_) (fun c => ?_)
      · rw [if_neg c] at h
        refine x_lv (lv' := [(0, .ref v0), (1, .int v1), (2, .int v2), (3, .int v3), (6, .int v6)]) [0, 1, 2, 3, 6] rfl ?_
        exact t_X12_reckon_167 hS hrec_4 k0 h
      · rw [if_pos c] at h
        exact t_X12_reckon_150 hS hrec_4 k0 h

def f_X12_reckon_116 (F P : Nat) (S : xSt) (rec_4 : Nat → Int32 → Int32 → Int32 → xDt → Option (xDt)) (v0 : Nat) (v1 : Int32) (v2 : Int32) (v3 : Int32) (v4 : Int32) (v5 : Int32) (v6 : Int32) (D : xDt) : Option (xDt) :=
  if v6 = 11 then (if v4 = 0 then (f_X12_reckon_167 F P S rec_4 v0 v1 v2 v3 v6 D) else (if v5 = 0 then (f_X12_reckon_133 F P S rec_4 v0 v1 v2 v3 v4 v5 v6 D) else (f_X12_reckon_167 F P S rec_4 v0 v1 v2 v3 v6 D))) else (f_X12_reckon_133 F P S rec_4 v0 v1 v2 v3 v4 v5 v6 D)
set_option maxHeartbeats 4000000 in
theorem t_X12_reckon_116 {F P : Nat} {S : xSt} (hS : xWF S) {rec_4 : Nat → Int32 → Int32 → Int32 → xDt → Option (xDt)} (hrec_4 : ∀ {v0 : Nat} {v1 : Int32} {v2 : Int32} {v3 : Int32} {D : xDt} {r : xDt}, xK S v0 12 → rec_4 v0 v1 v2 v3 D = some r → yEx md_X12_reckon 1 4 [(0, .ref v0), (1, .int v1), (2, .int v2), (3, .int v3)] [] S D (xQv S r)) {v0 : Nat} {v1 : Int32} {v2 : Int32} {v3 : Int32} {v4 : Int32} {v5 : Int32} {v6 : Int32} {D : xDt} {r : xDt} (k0 : xK S v0 12) (h : f_X12_reckon_116 F P S rec_4 v0 v1 v2 v3 v4 v5 v6 D = some r) : yEx md_X12_reckon 1 116 [(0, .ref v0), (1, .int v1), (2, .int v2), (3, .int v3), (4, .int v4), (5, .int v5), (6, .int v6)] [] S D (xQv S r) := by
  unfold f_X12_reckon_116 at h
  refine x_iload dX12_reckon_116 6 rfl ?_
  refine x_bipush 11 dX12_reckon_118 (by decide) ?_
  refine x_icmp_ne 133 dX12_reckon_120 (by decide) (fun c => ?_) (fun c => ?_)
  · rw [if_neg c] at h
    exact t_X12_reckon_133 hS hrec_4 k0 h
  · rw [if_pos c] at h
    refine x_iload dX12_reckon_123 4 rfl ?_
    refine x_if_eq 167 dX12_reckon_125 (by decide) (fun c => ?_) (fun c => ?_)
    · rw [if_pos c] at h
      refine x_lv (lv' := [(0, .ref v0), (1, .int v1), (2, .int v2), (3, .int v3), (6, .int v6)]) [0, 1, 2, 3, 6] rfl ?_
      exact t_X12_reckon_167 hS hrec_4 k0 h
    · rw [if_neg c] at h
      refine x_iload dX12_reckon_128 5 rfl ?_
      refine x_if_ne 167 dX12_reckon_130 (by decide) (fun c => ?_) (fun c => ?_)
      · rw [if_neg c] at h
        refine x_lv (lv' := [(0, .ref v0), (1, .int v1), (2, .int v2), (3, .int v3), (6, .int v6)]) [0, 1, 2, 3, 6] rfl ?_
        exact t_X12_reckon_167 hS hrec_4 k0 h
      · rw [if_pos c] at h
        exact t_X12_reckon_133 hS hrec_4 k0 h

def f_X12_reckon_102 (F P : Nat) (S : xSt) (rec_4 : Nat → Int32 → Int32 → Int32 → xDt → Option (xDt)) (v0 : Nat) (v1 : Int32) (v2 : Int32) (v3 : Int32) (v4 : Int32) (v5 : Int32) (v6 : Int32) (D : xDt) : Option (xDt) :=
  if v6 = 10 then (if v4 = v5 then (f_X12_reckon_167 F P S rec_4 v0 v1 v2 v3 v6 D) else (f_X12_reckon_116 F P S rec_4 v0 v1 v2 v3 v4 v5 v6 D)) else (f_X12_reckon_116 F P S rec_4 v0 v1 v2 v3 v4 v5 v6 D)
set_option maxHeartbeats 4000000 in
theorem t_X12_reckon_102 {F P : Nat} {S : xSt} (hS : xWF S) {rec_4 : Nat → Int32 → Int32 → Int32 → xDt → Option (xDt)} (hrec_4 : ∀ {v0 : Nat} {v1 : Int32} {v2 : Int32} {v3 : Int32} {D : xDt} {r : xDt}, xK S v0 12 → rec_4 v0 v1 v2 v3 D = some r → yEx md_X12_reckon 1 4 [(0, .ref v0), (1, .int v1), (2, .int v2), (3, .int v3)] [] S D (xQv S r)) {v0 : Nat} {v1 : Int32} {v2 : Int32} {v3 : Int32} {v4 : Int32} {v5 : Int32} {v6 : Int32} {D : xDt} {r : xDt} (k0 : xK S v0 12) (h : f_X12_reckon_102 F P S rec_4 v0 v1 v2 v3 v4 v5 v6 D = some r) : yEx md_X12_reckon 1 102 [(0, .ref v0), (1, .int v1), (2, .int v2), (3, .int v3), (4, .int v4), (5, .int v5), (6, .int v6)] [] S D (xQv S r) := by
  unfold f_X12_reckon_102 at h
  refine x_iload dX12_reckon_102 6 rfl ?_
  refine x_bipush 10 dX12_reckon_104 (by decide) ?_
  refine x_icmp_ne 116 dX12_reckon_106 (by decide) (fun c => ?_) (fun c => ?_)
  · rw [if_neg c] at h
    exact t_X12_reckon_116 hS hrec_4 k0 h
  · rw [if_pos c] at h
    refine x_iload dX12_reckon_109 4 rfl ?_
    refine x_iload dX12_reckon_111 5 rfl ?_
    refine x_icmp_eq 167 dX12_reckon_113 (by decide) (fun c => ?_) (fun c => ?_)
    · rw [if_pos c] at h
      refine x_lv (lv' := [(0, .ref v0), (1, .int v1), (2, .int v2), (3, .int v3), (6, .int v6)]) [0, 1, 2, 3, 6] rfl ?_
      exact t_X12_reckon_167 hS hrec_4 k0 h
    · rw [if_neg c] at h
      exact t_X12_reckon_116 hS hrec_4 k0 h

def f_X12_reckon_75 (F P : Nat) (S : xSt) (rec_4 : Nat → Int32 → Int32 → Int32 → xDt → Option (xDt)) (v0 : Nat) (v1 : Int32) (v2 : Int32) (v3 : Int32) (v4 : Int32) (s0 : Int32) (D : xDt) : Option (xDt) :=
  xgrd (xin v3 (xl S (xr S v0 8))) (xlet (D.1 (xr S v0 8) (v3).toNatClampNeg) fun v6_2 => if v6_2 = 3 then (f_X12_reckon_167 F P S rec_4 v0 v1 v2 v3 v6_2 D) else (if v6_2 = 4 then (if v4 = 0 then (f_X12_reckon_167 F P S rec_4 v0 v1 v2 v3 v6_2 D) else (f_X12_reckon_102 F P S rec_4 v0 v1 v2 v3 v4 s0 v6_2 D)) else (f_X12_reckon_102 F P S rec_4 v0 v1 v2 v3 v4 s0 v6_2 D)))
set_option maxHeartbeats 4000000 in
theorem t_X12_reckon_75 {F P : Nat} {S : xSt} (hS : xWF S) {rec_4 : Nat → Int32 → Int32 → Int32 → xDt → Option (xDt)} (hrec_4 : ∀ {v0 : Nat} {v1 : Int32} {v2 : Int32} {v3 : Int32} {D : xDt} {r : xDt}, xK S v0 12 → rec_4 v0 v1 v2 v3 D = some r → yEx md_X12_reckon 1 4 [(0, .ref v0), (1, .int v1), (2, .int v2), (3, .int v3)] [] S D (xQv S r)) {v0 : Nat} {v1 : Int32} {v2 : Int32} {v3 : Int32} {v4 : Int32} {s0 : Int32} {D : xDt} {r : xDt} (k0 : xK S v0 12) (h : f_X12_reckon_75 F P S rec_4 v0 v1 v2 v3 v4 s0 D = some r) : yEx md_X12_reckon 1 75 [(0, .ref v0), (1, .int v1), (2, .int v2), (3, .int v3), (4, .int v4)] [.int s0] S D (xQv S r) := by
  unfold f_X12_reckon_75 at h
  refine y_istore s0 rfl [(5, .int s0), (0, .ref v0), (1, .int v1), (2, .int v2), (3, .int v3), (4, .int v4)] dX12_reckon_75 (by show _ < 8; decide) rfl ?_
  refine x_aload_n dX12_reckon_77 1 rfl ?_
  refine y_getr (kd := 100) hS fl_RX12_72 dX12_reckon_78 rfl k0 ?_
  refine x_iload_n dX12_reckon_81 4 rfl ?_
  refine xgrd_e h (fun g1 h => ?_)
  refine y_iald dX12_reckon_82 ((hS.f k0 8 100 rfl).2) g1 ?_
  refine xlet_e h (fun v6_2 ev6_2 h => ?_)
  refine y_istore v6_2 ev6_2 [(6, .int v6_2), (5, .int s0), (0, .ref v0), (1, .int v1), (2, .int v2), (3, .int v3), (4, .int v4)] dX12_reckon_83 (by show _ < 8; decide) rfl ?_
  refine x_iload dX12_reckon_85 0 rfl ?_
  refine x_iconst 3 dX12_reckon_87 (by decide) ?_
  refine x_icmp_eq 167 dX12_reckon_88 (by decide) (fun c => ?_) (fun c => ?_)
  · rw [if_pos c] at h
    refine x_lv (lv' := [(0, .ref v0), (1, .int v1), (2, .int v2), (3, .int v3), (6, .int v6_2)]) [2, 3, 4, 5, 0] rfl ?_
    exact t_X12_reckon_167 hS hrec_4 k0 h
  · rw [if_neg c] at h
    refine x_iload dX12_reckon_91 0 rfl ?_
    refine x_iconst 4 dX12_reckon_93 (by decide) ?_
    refine x_icmp_ne 102 dX12_reckon_94 (by decide) (fun c => ?_) (fun c => ?_)
    · rw [if_neg c] at h
      refine x_lv (lv' := [(0, .ref v0), (1, .int v1), (2, .int v2), (3, .int v3), (4, .int v4), (5, .int s0), (6, .int v6_2)]) [2, 3, 4, 5, 6, 1, 0] rfl ?_
      exact t_X12_reckon_102 hS hrec_4 k0 h
    · rw [if_pos c] at h
      refine x_iload dX12_reckon_97 6 rfl ?_
      refine x_if_eq 167 dX12_reckon_99 (by decide) (fun c => ?_) (fun c => ?_)
      · rw [if_pos c] at h
        refine x_lv (lv' := [(0, .ref v0), (1, .int v1), (2, .int v2), (3, .int v3), (6, .int v6_2)]) [2, 3, 4, 5, 0] rfl ?_
        exact t_X12_reckon_167 hS hrec_4 k0 h
      · rw [if_neg c] at h
        refine x_lv (lv' := [(0, .ref v0), (1, .int v1), (2, .int v2), (3, .int v3), (4, .int v4), (5, .int s0), (6, .int v6_2)]) [2, 3, 4, 5, 6, 1, 0] rfl ?_
        exact t_X12_reckon_102 hS hrec_4 k0 h

def f_X12_reckon_74 (F P : Nat) (S : xSt) (rec_4 : Nat → Int32 → Int32 → Int32 → xDt → Option (xDt)) (v0 : Nat) (v1 : Int32) (v2 : Int32) (v3 : Int32) (v4 : Int32) (D : xDt) : Option (xDt) :=
  f_X12_reckon_75 F P S rec_4 v0 v1 v2 v3 v4 0 D
set_option maxHeartbeats 4000000 in
theorem t_X12_reckon_74 {F P : Nat} {S : xSt} (hS : xWF S) {rec_4 : Nat → Int32 → Int32 → Int32 → xDt → Option (xDt)} (hrec_4 : ∀ {v0 : Nat} {v1 : Int32} {v2 : Int32} {v3 : Int32} {D : xDt} {r : xDt}, xK S v0 12 → rec_4 v0 v1 v2 v3 D = some r → yEx md_X12_reckon 1 4 [(0, .ref v0), (1, .int v1), (2, .int v2), (3, .int v3)] [] S D (xQv S r)) {v0 : Nat} {v1 : Int32} {v2 : Int32} {v3 : Int32} {v4 : Int32} {D : xDt} {r : xDt} (k0 : xK S v0 12) (h : f_X12_reckon_74 F P S rec_4 v0 v1 v2 v3 v4 D = some r) : yEx md_X12_reckon 1 74 [(0, .ref v0), (1, .int v1), (2, .int v2), (3, .int v3), (4, .int v4)] [] S D (xQv S r) := by
  unfold f_X12_reckon_74 at h
  refine x_iconst 0 dX12_reckon_74 (by decide) ?_
  exact t_X12_reckon_75 hS hrec_4 k0 h

def f_X12_reckon_41 (F P : Nat) (S : xSt) (rec_4 : Nat → Int32 → Int32 → Int32 → xDt → Option (xDt)) (v0 : Nat) (v1 : Int32) (v2 : Int32) (v3 : Int32) (s0 : Int32) (D : xDt) : Option (xDt) :=
  xgrd (xin v3 (xl S (xr S v0 10))) (if (D.1 (xr S v0 10) (v3).toNatClampNeg) < 0 then (f_X12_reckon_74 F P S rec_4 v0 v1 v2 v3 s0 D) else (xgrd (xin v3 (xl S (xr S v0 10))) (xgrd (xin ((D.1 (xr S v0 10) (v3).toNatClampNeg) - 12800) (xl S (xr S v0 43))) (if (D.1 (xr S v0 43) ((D.1 (xr S v0 10) (v3).toNatClampNeg) - 12800).toNatClampNeg) = 0 then (f_X12_reckon_74 F P S rec_4 v0 v1 v2 v3 s0 D) else (f_X12_reckon_75 F P S rec_4 v0 v1 v2 v3 s0 1 D)))))
set_option maxHeartbeats 4000000 in
theorem t_X12_reckon_41 {F P : Nat} {S : xSt} (hS : xWF S) {rec_4 : Nat → Int32 → Int32 → Int32 → xDt → Option (xDt)} (hrec_4 : ∀ {v0 : Nat} {v1 : Int32} {v2 : Int32} {v3 : Int32} {D : xDt} {r : xDt}, xK S v0 12 → rec_4 v0 v1 v2 v3 D = some r → yEx md_X12_reckon 1 4 [(0, .ref v0), (1, .int v1), (2, .int v2), (3, .int v3)] [] S D (xQv S r)) {v0 : Nat} {v1 : Int32} {v2 : Int32} {v3 : Int32} {s0 : Int32} {D : xDt} {r : xDt} (k0 : xK S v0 12) (h : f_X12_reckon_41 F P S rec_4 v0 v1 v2 v3 s0 D = some r) : yEx md_X12_reckon 1 41 [(0, .ref v0), (1, .int v1), (2, .int v2), (3, .int v3)] [.int s0] S D (xQv S r) := by
  unfold f_X12_reckon_41 at h
  refine y_istore s0 rfl [(4, .int s0), (0, .ref v0), (1, .int v1), (2, .int v2), (3, .int v3)] dX12_reckon_41 (by show _ < 8; decide) rfl ?_
  refine x_aload_n dX12_reckon_43 1 rfl ?_
  refine y_getr (kd := 100) hS fl_RX12_78 dX12_reckon_44 rfl k0 ?_
  refine x_iload_n dX12_reckon_47 4 rfl ?_
  refine xgrd_e h (fun g1 h => ?_)
  refine y_iald dX12_reckon_48 ((hS.f k0 10 100 rfl).2) g1 ?_
  refine x_if_lt 74 dX12_reckon_49 (by decide) (fun c => ?_) (fun c => ?_)
  · rw [if_pos c] at h
    refine x_lv (lv' := [(0, .ref v0), (1, .int v1), (2, .int v2), (3, .int v3), (4, .int s0)]) [1, 2, 3, 4, 0] rfl ?_
    exact t_X12_reckon_74 hS hrec_4 k0 h
  · rw [if_neg c] at h
    refine x_aload_n dX12_reckon_52 1 rfl ?_
    refine y_getr (kd := 104) hS fl_RX12_150 dX12_reckon_53 rfl k0 ?_
    refine x_aload_n dX12_reckon_56 1 rfl ?_
    refine y_getr (kd := 100) hS fl_RX12_78 dX12_reckon_57 rfl k0 ?_
    refine x_iload_n dX12_reckon_60 4 rfl ?_
    refine xgrd_e h (fun g2 h => ?_)
    refine y_iald dX12_reckon_61 ((hS.f k0 10 100 rfl).2) g2 ?_
    refine x_sipush 12800 dX12_reckon_62 (by decide) ?_
    refine x_isub dX12_reckon_65 ?_
    refine xgrd_e h (fun g3 h => ?_)
    refine y_zald dX12_reckon_66 ((hS.f k0 43 104 rfl).2) g3 ?_
    refine x_if_eq 74 dX12_reckon_67 (by decide) (fun c => ?_) (fun c => ?_)
    · rw [if_pos c] at h
      refine x_lv (lv' := [(0, .ref v0), (1, .int v1), (2, .int v2), (3, .int v3), (4, .int s0)]) [1, 2, 3, 4, 0] rfl ?_
      exact t_X12_reckon_74 hS hrec_4 k0 h
    · rw [if_neg c] at h
      refine x_iconst 1 dX12_reckon_70 (by decide) ?_
      refine x_goto 75 dX12_reckon_71 (by decide) ?_
      refine x_lv (lv' := [(0, .ref v0), (1, .int v1), (2, .int v2), (3, .int v3), (4, .int s0)]) [1, 2, 3, 4, 0] rfl ?_
      exact t_X12_reckon_75 hS hrec_4 k0 h

def f_X12_reckon_40 (F P : Nat) (S : xSt) (rec_4 : Nat → Int32 → Int32 → Int32 → xDt → Option (xDt)) (v0 : Nat) (v1 : Int32) (v2 : Int32) (v3 : Int32) (D : xDt) : Option (xDt) :=
  f_X12_reckon_41 F P S rec_4 v0 v1 v2 v3 0 D
set_option maxHeartbeats 4000000 in
theorem t_X12_reckon_40 {F P : Nat} {S : xSt} (hS : xWF S) {rec_4 : Nat → Int32 → Int32 → Int32 → xDt → Option (xDt)} (hrec_4 : ∀ {v0 : Nat} {v1 : Int32} {v2 : Int32} {v3 : Int32} {D : xDt} {r : xDt}, xK S v0 12 → rec_4 v0 v1 v2 v3 D = some r → yEx md_X12_reckon 1 4 [(0, .ref v0), (1, .int v1), (2, .int v2), (3, .int v3)] [] S D (xQv S r)) {v0 : Nat} {v1 : Int32} {v2 : Int32} {v3 : Int32} {D : xDt} {r : xDt} (k0 : xK S v0 12) (h : f_X12_reckon_40 F P S rec_4 v0 v1 v2 v3 D = some r) : yEx md_X12_reckon 1 40 [(0, .ref v0), (1, .int v1), (2, .int v2), (3, .int v3)] [] S D (xQv S r) := by
  unfold f_X12_reckon_40 at h
  refine x_iconst 0 dX12_reckon_40 (by decide) ?_
  exact t_X12_reckon_41 hS hrec_4 k0 h

def f_X12_reckon_4s (F P : Nat) (S : xSt) (rec_4 : Nat → Int32 → Int32 → Int32 → xDt → Option (xDt)) (v0 : Nat) (v1 : Int32) (v2 : Int32) (v3 : Int32) (D : xDt) : Option (xDt) :=
  if v2 ≤ v3 then (some D) else (xgrd (xin v3 (xl S (xr S v0 9))) (if (D.1 (xr S v0 9) (v3).toNatClampNeg) < 0 then (f_X12_reckon_40 F P S rec_4 v0 v1 v2 v3 D) else (xgrd (xin v3 (xl S (xr S v0 9))) (xgrd (xin ((D.1 (xr S v0 9) (v3).toNatClampNeg) - 12800) (xl S (xr S v0 43))) (if (D.1 (xr S v0 43) ((D.1 (xr S v0 9) (v3).toNatClampNeg) - 12800).toNatClampNeg) = 0 then (f_X12_reckon_40 F P S rec_4 v0 v1 v2 v3 D) else (f_X12_reckon_41 F P S rec_4 v0 v1 v2 v3 1 D))))))
def f_X12_reckon_4 (F P : Nat) (S : xSt) : Nat → Nat → Int32 → Int32 → Int32 → xDt → Option (xDt)
  | 0 => fun _ _ _ _ _ => none
  | n + 1 => f_X12_reckon_4s F P S (f_X12_reckon_4 F P S n)
set_option maxHeartbeats 4000000 in
theorem t_X12_reckon_4s {F P : Nat} {S : xSt} (hS : xWF S) {rec_4 : Nat → Int32 → Int32 → Int32 → xDt → Option (xDt)} (hrec_4 : ∀ {v0 : Nat} {v1 : Int32} {v2 : Int32} {v3 : Int32} {D : xDt} {r : xDt}, xK S v0 12 → rec_4 v0 v1 v2 v3 D = some r → yEx md_X12_reckon 1 4 [(0, .ref v0), (1, .int v1), (2, .int v2), (3, .int v3)] [] S D (xQv S r)) {v0 : Nat} {v1 : Int32} {v2 : Int32} {v3 : Int32} {D : xDt} {r : xDt} (k0 : xK S v0 12) (h : f_X12_reckon_4s F P S rec_4 v0 v1 v2 v3 D = some r) : yEx md_X12_reckon 1 4 [(0, .ref v0), (1, .int v1), (2, .int v2), (3, .int v3)] [] S D (xQv S r) := by
  unfold f_X12_reckon_4s at h
  refine x_iload_n dX12_reckon_4 3 rfl ?_
  refine x_iload_n dX12_reckon_5 2 rfl ?_
  refine x_icmp_ge 231 dX12_reckon_6 (by decide) (fun c => ?_) (fun c => ?_)
  · rw [if_pos c] at h
    obtain rfl := Option.some.inj h
    exact y_vret rfl dX12_reckon_231
  · rw [if_neg c] at h
    refine x_aload_n dX12_reckon_9 0 rfl ?_
    refine y_getr (kd := 100) hS fl_RX12_75 dX12_reckon_10 rfl k0 ?_
    refine x_iload_n dX12_reckon_13 3 rfl ?_
    refine xgrd_e h (fun g1 h => ?_)
    refine y_iald dX12_reckon_14 ((hS.f k0 9 100 rfl).2) g1 ?_
    refine x_if_lt 40 dX12_reckon_15 (by decide) (fun c => ?_) (fun c => ?_)
    · rw [if_pos c] at h
      exact t_X12_reckon_40 hS hrec_4 k0 h
    · rw [if_neg c] at h
      refine x_aload_n dX12_reckon_18 0 rfl ?_
      refine y_getr (kd := 104) hS fl_RX12_150 dX12_reckon_19 rfl k0 ?_
      refine x_aload_n dX12_reckon_22 0 rfl ?_
      refine y_getr (kd := 100) hS fl_RX12_75 dX12_reckon_23 rfl k0 ?_
      refine x_iload_n dX12_reckon_26 3 rfl ?_
      refine xgrd_e h (fun g2 h => ?_)
      refine y_iald dX12_reckon_27 ((hS.f k0 9 100 rfl).2) g2 ?_
      refine x_sipush 12800 dX12_reckon_28 (by decide) ?_
      refine x_isub dX12_reckon_31 ?_
      refine xgrd_e h (fun g3 h => ?_)
      refine y_zald dX12_reckon_32 ((hS.f k0 43 104 rfl).2) g3 ?_
      refine x_if_eq 40 dX12_reckon_33 (by decide) (fun c => ?_) (fun c => ?_)
      · rw [if_pos c] at h
        exact t_X12_reckon_40 hS hrec_4 k0 h
      · rw [if_neg c] at h
        refine x_iconst 1 dX12_reckon_36 (by decide) ?_
        refine x_goto 41 dX12_reckon_37 (by decide) ?_
        exact t_X12_reckon_41 hS hrec_4 k0 h
theorem t_X12_reckon_4 {F P : Nat} {S : xSt} (hS : xWF S) : ∀ (n : Nat) {v0 : Nat} {v1 : Int32} {v2 : Int32} {v3 : Int32} {D : xDt} {r : xDt}, xK S v0 12 → f_X12_reckon_4 F P S n v0 v1 v2 v3 D = some r → yEx md_X12_reckon 1 4 [(0, .ref v0), (1, .int v1), (2, .int v2), (3, .int v3)] [] S D (xQv S r) := by
  intro n
  induction n with
  | zero => intros; rename_i h; cases h
  | succ n ih =>
    intro v0 v1 v2 v3 D r k0 h
    exact t_X12_reckon_4s hS (fun k0 h => ih k0 h) k0 h

def f_X12_reckon (F P : Nat) (S : xSt) (v0 : Nat) (v1 : Int32) (v2 : Int32) (D : xDt) : Option (xDt) :=
  f_X12_reckon_4 F P S F v0 v1 v2 12800 D
set_option maxHeartbeats 4000000 in
theorem S_X12_reckon {F P : Nat} {S : xSt} (hS : xWF S) {v0 : Nat} {v1 : Int32} {v2 : Int32} {D : xDt} {r : xDt} (k0 : xK S v0 12) (h : f_X12_reckon F P S v0 v1 v2 D = some r) : xSp md_X12_reckon (1, 0, 0) [.ref v0, .int v1, .int v2] (S, D) (xQv S r) := by
  unfold f_X12_reckon at h
  refine xEntry (by decide) (Nat.le_of_ble_eq_true rfl) ?_
  refine x_lv (lv' := [(0, .ref v0), (1, .int v1), (2, .int v2)]) [0, 1, 2] rfl ?_
  refine x_sipush 12800 dX12_reckon_0 (by decide) ?_
  refine y_istore_n 12800 rfl [(3, .int 12800), (0, .ref v0), (1, .int v1), (2, .int v2)] dX12_reckon_3 (by show _ < 8; decide) rfl ?_
  refine x_lv (lv' := [(0, .ref v0), (1, .int v1), (2, .int v2), (3, .int 12800)]) [1, 2, 3, 0] rfl ?_
  exact t_X12_reckon_4 hS F k0 h

theorem dX12_agentsBits_0 : decode cX12_agentsBits 0 = .ok (.iconst 0, 1) := by decide +kernel
theorem dX12_agentsBits_1 : decode cX12_agentsBits 1 = .ok (.istore_n 2, 1) := by decide +kernel
theorem dX12_agentsBits_2 : decode cX12_agentsBits 2 = .ok (.iconst 0, 1) := by decide +kernel
theorem dX12_agentsBits_3 : decode cX12_agentsBits 3 = .ok (.istore_n 3, 1) := by decide +kernel
theorem dX12_agentsBits_4 : decode cX12_agentsBits 4 = .ok (.iload_n 3, 1) := by decide +kernel
theorem dX12_agentsBits_5 : decode cX12_agentsBits 5 = .ok (.aload_n 0, 1) := by decide +kernel
theorem dX12_agentsBits_6 : decode cX12_agentsBits 6 = .ok (.getfield 310, 3) := by decide +kernel
theorem dX12_agentsBits_9 : decode cX12_agentsBits 9 = .ok (.if_icmp .ge 51, 3) := by decide +kernel
theorem dX12_agentsBits_12 : decode cX12_agentsBits 12 = .ok (.iload_n 2, 1) := by decide +kernel
theorem dX12_agentsBits_13 : decode cX12_agentsBits 13 = .ok (.aload_n 0, 1) := by decide +kernel
theorem dX12_agentsBits_14 : decode cX12_agentsBits 14 = .ok (.getfield 72, 3) := by decide +kernel
theorem dX12_agentsBits_17 : decode cX12_agentsBits 17 = .ok (.aload_n 0, 1) := by decide +kernel
theorem dX12_agentsBits_18 : decode cX12_agentsBits 18 = .ok (.getfield 134, 3) := by decide +kernel
theorem dX12_agentsBits_21 : decode cX12_agentsBits 21 = .ok (.iload_n 3, 1) := by decide +kernel
theorem dX12_agentsBits_22 : decode cX12_agentsBits 22 = .ok (.iaload, 1) := by decide +kernel
theorem dX12_agentsBits_23 : decode cX12_agentsBits 23 = .ok (.iaload, 1) := by decide +kernel
theorem dX12_agentsBits_24 : decode cX12_agentsBits 24 = .ok (.iconst 5, 1) := by decide +kernel
theorem dX12_agentsBits_25 : decode cX12_agentsBits 25 = .ok (.if_icmp .ne 26, 3) := by decide +kernel
theorem dX12_agentsBits_28 : decode cX12_agentsBits 28 = .ok (.aload_n 0, 1) := by decide +kernel
theorem dX12_agentsBits_29 : decode cX12_agentsBits 29 = .ok (.getfield 81, 3) := by decide +kernel
theorem dX12_agentsBits_32 : decode cX12_agentsBits 32 = .ok (.aload_n 0, 1) := by decide +kernel
theorem dX12_agentsBits_33 : decode cX12_agentsBits 33 = .ok (.getfield 134, 3) := by decide +kernel
theorem dX12_agentsBits_36 : decode cX12_agentsBits 36 = .ok (.iload_n 3, 1) := by decide +kernel
theorem dX12_agentsBits_37 : decode cX12_agentsBits 37 = .ok (.iaload, 1) := by decide +kernel
theorem dX12_agentsBits_38 : decode cX12_agentsBits 38 = .ok (.iaload, 1) := by decide +kernel
theorem dX12_agentsBits_39 : decode cX12_agentsBits 39 = .ok (.iconst 1, 1) := by decide +kernel
theorem dX12_agentsBits_40 : decode cX12_agentsBits 40 = .ok (.iload_n 1, 1) := by decide +kernel
theorem dX12_agentsBits_41 : decode cX12_agentsBits 41 = .ok (.ishl, 1) := by decide +kernel
theorem dX12_agentsBits_42 : decode cX12_agentsBits 42 = .ok (.if_icmp .ne 9, 3) := by decide +kernel
theorem dX12_agentsBits_45 : decode cX12_agentsBits 45 = .ok (.iconst 1, 1) := by decide +kernel
theorem dX12_agentsBits_46 : decode cX12_agentsBits 46 = .ok (.iload_n 3, 1) := by decide +kernel
theorem dX12_agentsBits_47 : decode cX12_agentsBits 47 = .ok (.ishl, 1) := by decide +kernel
theorem dX12_agentsBits_48 : decode cX12_agentsBits 48 = .ok (.goto 4, 3) := by decide +kernel
theorem dX12_agentsBits_51 : decode cX12_agentsBits 51 = .ok (.iconst 0, 1) := by decide +kernel
theorem dX12_agentsBits_52 : decode cX12_agentsBits 52 = .ok (.ior, 1) := by decide +kernel
theorem dX12_agentsBits_53 : decode cX12_agentsBits 53 = .ok (.istore_n 2, 1) := by decide +kernel
theorem dX12_agentsBits_54 : decode cX12_agentsBits 54 = .ok (.iinc 3 1, 3) := by decide +kernel
theorem dX12_agentsBits_57 : decode cX12_agentsBits 57 = .ok (.goto (-53), 3) := by decide +kernel
theorem dX12_agentsBits_60 : decode cX12_agentsBits 60 = .ok (.iload_n 2, 1) := by decide +kernel
theorem dX12_agentsBits_61 : decode cX12_agentsBits 61 = .ok (.ireturn, 1) := by decide +kernel
def f_X12_agentsBits_52 (F P : Nat) (S : xSt) (rec_4 : Nat → Int32 → Int32 → Int32 → xDt → Option (Int32 × xDt)) (v0 : Nat) (v1 : Int32) (v3 : Int32) (s0 : Int32) (s1 : Int32) (D : xDt) : Option (Int32 × xDt) :=
  xlet (s1 ||| s0) fun v2_1 => xlet (v3 + 1) fun v3_2 => rec_4 v0 v1 v2_1 v3_2 D
set_option maxHeartbeats 4000000 in
theorem t_X12_agentsBits_52 {F P : Nat} {S : xSt} (hS : xWF S) {rec_4 : Nat → Int32 → Int32 → Int32 → xDt → Option (Int32 × xDt)} (hrec_4 : ∀ {v0 : Nat} {v1 : Int32} {v2 : Int32} {v3 : Int32} {D : xDt} {r : Int32 × xDt}, xK S v0 12 → rec_4 v0 v1 v2 v3 D = some r → yEx md_X12_agentsBits 0 4 [(0, .ref v0), (1, .int v1), (2, .int v2), (3, .int v3)] [] S D (xQi S r)) {v0 : Nat} {v1 : Int32} {v3 : Int32} {s0 : Int32} {s1 : Int32} {D : xDt} {r : Int32 × xDt} (k0 : xK S v0 12) (h : f_X12_agentsBits_52 F P S rec_4 v0 v1 v3 s0 s1 D = some r) : yEx md_X12_agentsBits 0 52 [(0, .ref v0), (1, .int v1), (3, .int v3)] [.int s0, .int s1] S D (xQi S r) := by
  unfold f_X12_agentsBits_52 at h
  refine x_ior dX12_agentsBits_52 ?_
  refine xlet_e h (fun v2_1 ev2_1 h => ?_)
  refine y_istore_n v2_1 ev2_1 [(2, .int v2_1), (0, .ref v0), (1, .int v1), (3, .int v3)] dX12_agentsBits_53 (by show _ < 4; decide) rfl ?_
  refine xlet_e h (fun v3_2 ev3_2 h => ?_)
  refine y_iinc v3_2 ev3_2 (by decide) [(3, .int v3_2), (2, .int v2_1), (0, .ref v0), (1, .int v1)] dX12_agentsBits_54 3 rfl (by show _ < 4; decide) rfl ?_
  refine x_goto 4 dX12_agentsBits_57 (by decide) ?_
  refine x_lv (lv' := [(0, .ref v0), (1, .int v1), (2, .int v2_1), (3, .int v3_2)]) [2, 3, 1, 0] rfl ?_
  exact hrec_4 k0 h

def f_X12_agentsBits_51 (F P : Nat) (S : xSt) (rec_4 : Nat → Int32 → Int32 → Int32 → xDt → Option (Int32 × xDt)) (v0 : Nat) (v1 : Int32) (v3 : Int32) (s0 : Int32) (D : xDt) : Option (Int32 × xDt) :=
  f_X12_agentsBits_52 F P S rec_4 v0 v1 v3 0 s0 D
set_option maxHeartbeats 4000000 in
theorem t_X12_agentsBits_51 {F P : Nat} {S : xSt} (hS : xWF S) {rec_4 : Nat → Int32 → Int32 → Int32 → xDt → Option (Int32 × xDt)} (hrec_4 : ∀ {v0 : Nat} {v1 : Int32} {v2 : Int32} {v3 : Int32} {D : xDt} {r : Int32 × xDt}, xK S v0 12 → rec_4 v0 v1 v2 v3 D = some r → yEx md_X12_agentsBits 0 4 [(0, .ref v0), (1, .int v1), (2, .int v2), (3, .int v3)] [] S D (xQi S r)) {v0 : Nat} {v1 : Int32} {v3 : Int32} {s0 : Int32} {D : xDt} {r : Int32 × xDt} (k0 : xK S v0 12) (h : f_X12_agentsBits_51 F P S rec_4 v0 v1 v3 s0 D = some r) : yEx md_X12_agentsBits 0 51 [(0, .ref v0), (1, .int v1), (3, .int v3)] [.int s0] S D (xQi S r) := by
  unfold f_X12_agentsBits_51 at h
  refine x_iconst 0 dX12_agentsBits_51 (by decide) ?_
  exact t_X12_agentsBits_52 hS hrec_4 k0 h

def f_X12_agentsBits_4s (F P : Nat) (S : xSt) (rec_4 : Nat → Int32 → Int32 → Int32 → xDt → Option (Int32 × xDt)) (v0 : Nat) (v1 : Int32) (v2 : Int32) (v3 : Int32) (D : xDt) : Option (Int32 × xDt) :=
  if (D.1 v0 38) ≤ v3 then (some (v2, D)) else (xgrd (xin v3 (xl S (xr S v0 37))) (xgrd (xin (D.1 (xr S v0 37) (v3).toNatClampNeg) (xl S (xr S v0 8))) (if (D.1 (xr S v0 8) (D.1 (xr S v0 37) (v3).toNatClampNeg).toNatClampNeg) = 5 then (xgrd (xin v3 (xl S (xr S v0 37))) (xgrd (xin (D.1 (xr S v0 37) (v3).toNatClampNeg) (xl S (xr S v0 11))) (if (D.1 (xr S v0 11) (D.1 (xr S v0 37) (v3).toNatClampNeg).toNatClampNeg) = (jishl 1 v1) then (f_X12_agentsBits_52 F P S rec_4 v0 v1 v3 (jishl 1 v3) v2 D) else (f_X12_agentsBits_51 F P S rec_4 v0 v1 v3 v2 D)))) else (f_X12_agentsBits_51 F P S rec_4 v0 v1 v3 v2 D))))
def f_X12_agentsBits_4 (F P : Nat) (S : xSt) : Nat → Nat → Int32 → Int32 → Int32 → xDt → Option (Int32 × xDt)
  | 0 => fun _ _ _ _ _ => none
  | n + 1 => f_X12_agentsBits_4s F P S (f_X12_agentsBits_4 F P S n)
set_option maxHeartbeats 4000000 in
theorem t_X12_agentsBits_4s {F P : Nat} {S : xSt} (hS : xWF S) {rec_4 : Nat → Int32 → Int32 → Int32 → xDt → Option (Int32 × xDt)} (hrec_4 : ∀ {v0 : Nat} {v1 : Int32} {v2 : Int32} {v3 : Int32} {D : xDt} {r : Int32 × xDt}, xK S v0 12 → rec_4 v0 v1 v2 v3 D = some r → yEx md_X12_agentsBits 0 4 [(0, .ref v0), (1, .int v1), (2, .int v2), (3, .int v3)] [] S D (xQi S r)) {v0 : Nat} {v1 : Int32} {v2 : Int32} {v3 : Int32} {D : xDt} {r : Int32 × xDt} (k0 : xK S v0 12) (h : f_X12_agentsBits_4s F P S rec_4 v0 v1 v2 v3 D = some r) : yEx md_X12_agentsBits 0 4 [(0, .ref v0), (1, .int v1), (2, .int v2), (3, .int v3)] [] S D (xQi S r) := by
  unfold f_X12_agentsBits_4s at h
  refine x_iload_n dX12_agentsBits_4 3 rfl ?_
  refine x_aload_n dX12_agentsBits_5 0 rfl ?_
  refine y_geti fl_RX12_310 dX12_agentsBits_6 rfl k0 ?_
  refine x_icmp_ge 60 dX12_agentsBits_9 (by decide) (fun c => ?_) (fun c => ?_)
  · rw [if_pos c] at h
    refine x_iload_n dX12_agentsBits_60 2 rfl ?_
    obtain rfl := Option.some.inj h
    exact y_iret rfl dX12_agentsBits_61
  · rw [if_neg c] at h
    refine x_iload_n dX12_agentsBits_12 2 rfl ?_
    refine x_aload_n dX12_agentsBits_13 0 rfl ?_
    refine y_getr (kd := 100) hS fl_RX12_72 dX12_agentsBits_14 rfl k0 ?_
    refine x_aload_n dX12_agentsBits_17 0 rfl ?_
    refine y_getr (kd := 100) hS fl_RX12_134 dX12_agentsBits_18 rfl k0 ?_
    refine x_iload_n dX12_agentsBits_21 3 rfl ?_
    refine xgrd_e h (fun g1 h => ?_)
    refine y_iald dX12_agentsBits_22 ((hS.f k0 37 100 rfl).2) g1 ?_
    refine xgrd_e h (fun g2 h => ?_)
    refine y_iald dX12_agentsBits_23 ((hS.f k0 8 100 rfl).2) g2 ?_
    refine x_iconst 5 dX12_agentsBits_24 (by decide) ?_
    refine x_icmp_ne 51 dX12_agentsBits_25 (by decide) (fun c => ?_) (fun c => ?_)
    · rw [if_neg c] at h
      refine x_lv (lv' := [(0, .ref v0), (1, .int v1), (3, .int v3)]) [0, 1, 3] rfl ?_
      exact t_X12_agentsBits_51 hS hrec_4 k0 h
    · rw [if_pos c] at h
      refine x_aload_n dX12_agentsBits_28 0 rfl ?_
      refine y_getr (kd := 100) hS fl_RX12_81 dX12_agentsBits_29 rfl k0 ?_
      refine x_aload_n dX12_agentsBits_32 0 rfl ?_
      refine y_getr (kd := 100) hS fl_RX12_134 dX12_agentsBits_33 rfl k0 ?_
      refine x_iload_n dX12_agentsBits_36 3 rfl ?_
      refine xgrd_e h (fun g3 h => ?_)
      refine y_iald dX12_agentsBits_37 ((hS.f k0 37 100 rfl).2) g3 ?_
      refine xgrd_e h (fun g4 h => ?_)
      refine y_iald dX12_agentsBits_38 ((hS.f k0 11 100 rfl).2) g4 ?_
      refine x_iconst 1 dX12_agentsBits_39 (by decide) ?_
      refine x_iload_n dX12_agentsBits_40 1 rfl ?_
      refine x_ishl dX12_agentsBits_41 ?_
      refine x_icmp_ne 51 dX12_agentsBits_42 (by decide) (fun c => ?_) (fun c => ?_)
      · rw [if_neg c] at h
        refine x_lv (lv' := [(0, .ref v0), (1, .int v1), (3, .int v3)]) [0, 1, 3] rfl ?_
        exact t_X12_agentsBits_51 hS hrec_4 k0 h
      · rw [if_pos c] at h
        refine x_iconst 1 dX12_agentsBits_45 (by decide) ?_
        refine x_iload_n dX12_agentsBits_46 3 rfl ?_
        refine x_ishl dX12_agentsBits_47 ?_
        refine x_goto 52 dX12_agentsBits_48 (by decide) ?_
        refine x_lv (lv' := [(0, .ref v0), (1, .int v1), (3, .int v3)]) [0, 1, 3] rfl ?_
        exact t_X12_agentsBits_52 hS hrec_4 k0 h
theorem t_X12_agentsBits_4 {F P : Nat} {S : xSt} (hS : xWF S) : ∀ (n : Nat) {v0 : Nat} {v1 : Int32} {v2 : Int32} {v3 : Int32} {D : xDt} {r : Int32 × xDt}, xK S v0 12 → f_X12_agentsBits_4 F P S n v0 v1 v2 v3 D = some r → yEx md_X12_agentsBits 0 4 [(0, .ref v0), (1, .int v1), (2, .int v2), (3, .int v3)] [] S D (xQi S r) := by
  intro n
  induction n with
  | zero => intros; rename_i h; cases h
  | succ n ih =>
    intro v0 v1 v2 v3 D r k0 h
    exact t_X12_agentsBits_4s hS (fun k0 h => ih k0 h) k0 h

def f_X12_agentsBits (F P : Nat) (S : xSt) (v0 : Nat) (v1 : Int32) (D : xDt) : Option (Int32 × xDt) :=
  f_X12_agentsBits_4 F P S F v0 v1 0 0 D
set_option maxHeartbeats 4000000 in
theorem S_X12_agentsBits {F P : Nat} {S : xSt} (hS : xWF S) {v0 : Nat} {v1 : Int32} {D : xDt} {r : Int32 × xDt} (k0 : xK S v0 12) (h : f_X12_agentsBits F P S v0 v1 D = some r) : xSp md_X12_agentsBits (0, 0, 0) [.ref v0, .int v1] (S, D) (xQi S r) := by
  unfold f_X12_agentsBits at h
  refine xEntry (by decide) (Nat.le_of_ble_eq_true rfl) ?_
  refine x_lv (lv' := [(0, .ref v0), (1, .int v1)]) [0, 1] rfl ?_
  refine x_iconst 0 dX12_agentsBits_0 (by decide) ?_
  refine y_istore_n 0 rfl [(2, .int 0), (0, .ref v0), (1, .int v1)] dX12_agentsBits_1 (by show _ < 4; decide) rfl ?_
  refine x_iconst 0 dX12_agentsBits_2 (by decide) ?_
  refine y_istore_n 0 rfl [(3, .int 0), (2, .int 0), (0, .ref v0), (1, .int v1)] dX12_agentsBits_3 (by show _ < 4; decide) rfl ?_
  refine x_lv (lv' := [(0, .ref v0), (1, .int v1), (2, .int 0), (3, .int 0)]) [2, 3, 1, 0] rfl ?_
  exact t_X12_agentsBits_4 hS F k0 h

theorem dX12_isType_0 : decode cX12_isType 0 = .ok (.iconst 0, 1) := by decide +kernel
theorem dX12_isType_1 : decode cX12_isType 1 = .ok (.istore_n 2, 1) := by decide +kernel
theorem dX12_isType_2 : decode cX12_isType 2 = .ok (.iload_n 2, 1) := by decide +kernel
theorem dX12_isType_3 : decode cX12_isType 3 = .ok (.aload_n 0, 1) := by decide +kernel
theorem dX12_isType_4 : decode cX12_isType 4 = .ok (.getfield 310, 3) := by decide +kernel
theorem dX12_isType_7 : decode cX12_isType 7 = .ok (.if_icmp .ge 122, 3) := by decide +kernel
theorem dX12_isType_10 : decode cX12_isType 10 = .ok (.aload_n 0, 1) := by decide +kernel
theorem dX12_isType_11 : decode cX12_isType 11 = .ok (.getfield 134, 3) := by decide +kernel
theorem dX12_isType_14 : decode cX12_isType 14 = .ok (.iload_n 2, 1) := by decide +kernel
theorem dX12_isType_15 : decode cX12_isType 15 = .ok (.iaload, 1) := by decide +kernel
theorem dX12_isType_16 : decode cX12_isType 16 = .ok (.istore_n 3, 1) := by decide +kernel
theorem dX12_isType_17 : decode cX12_isType 17 = .ok (.aload_n 0, 1) := by decide +kernel
theorem dX12_isType_18 : decode cX12_isType 18 = .ok (.getfield 72, 3) := by decide +kernel
theorem dX12_isType_21 : decode cX12_isType 21 = .ok (.iload_n 3, 1) := by decide +kernel
theorem dX12_isType_22 : decode cX12_isType 22 = .ok (.iaload, 1) := by decide +kernel
theorem dX12_isType_23 : decode cX12_isType 23 = .ok (.iconst 1, 1) := by decide +kernel
theorem dX12_isType_24 : decode cX12_isType 24 = .ok (.if_icmp .eq 99, 3) := by decide +kernel
theorem dX12_isType_27 : decode cX12_isType 27 = .ok (.iload_n 1, 1) := by decide +kernel
theorem dX12_isType_28 : decode cX12_isType 28 = .ok (.iload_n 2, 1) := by decide +kernel
theorem dX12_isType_29 : decode cX12_isType 29 = .ok (.ishr, 1) := by decide +kernel
theorem dX12_isType_30 : decode cX12_isType 30 = .ok (.iconst 1, 1) := by decide +kernel
theorem dX12_isType_31 : decode cX12_isType 31 = .ok (.iand, 1) := by decide +kernel
theorem dX12_isType_32 : decode cX12_isType 32 = .ok (.iconst 1, 1) := by decide +kernel
theorem dX12_isType_33 : decode cX12_isType 33 = .ok (.if_icmp .ne 90, 3) := by decide +kernel
theorem dX12_isType_36 : decode cX12_isType 36 = .ok (.aload_n 0, 1) := by decide +kernel
theorem dX12_isType_37 : decode cX12_isType 37 = .ok (.getfield 150, 3) := by decide +kernel
theorem dX12_isType_40 : decode cX12_isType 40 = .ok (.aload_n 0, 1) := by decide +kernel
theorem dX12_isType_41 : decode cX12_isType 41 = .ok (.getfield 75, 3) := by decide +kernel
theorem dX12_isType_44 : decode cX12_isType 44 = .ok (.iload_n 3, 1) := by decide +kernel
theorem dX12_isType_45 : decode cX12_isType 45 = .ok (.iaload, 1) := by decide +kernel
theorem dX12_isType_46 : decode cX12_isType 46 = .ok (.sipush 12800, 3) := by decide +kernel
theorem dX12_isType_49 : decode cX12_isType 49 = .ok (.isub, 1) := by decide +kernel
theorem dX12_isType_50 : decode cX12_isType 50 = .ok (.baload, 1) := by decide +kernel
theorem dX12_isType_51 : decode cX12_isType 51 = .ok (.ifCond .ne 5, 3) := by decide +kernel
theorem dX12_isType_54 : decode cX12_isType 54 = .ok (.iconst 0, 1) := by decide +kernel
theorem dX12_isType_55 : decode cX12_isType 55 = .ok (.ireturn, 1) := by decide +kernel
theorem dX12_isType_56 : decode cX12_isType 56 = .ok (.iconst 0, 1) := by decide +kernel
theorem dX12_isType_57 : decode cX12_isType 57 = .ok (.istore 4, 2) := by decide +kernel
theorem dX12_isType_59 : decode cX12_isType 59 = .ok (.iload 4, 2) := by decide +kernel
theorem dX12_isType_61 : decode cX12_isType 61 = .ok (.iconst 4, 1) := by decide +kernel
theorem dX12_isType_62 : decode cX12_isType 62 = .ok (.if_icmp .ge 61, 3) := by decide +kernel
theorem dX12_isType_65 : decode cX12_isType 65 = .ok (.aload_n 0, 1) := by decide +kernel
theorem dX12_isType_66 : decode cX12_isType 66 = .ok (.getfield 72, 3) := by decide +kernel
theorem dX12_isType_69 : decode cX12_isType 69 = .ok (.iload_n 3, 1) := by decide +kernel
theorem dX12_isType_70 : decode cX12_isType 70 = .ok (.iaload, 1) := by decide +kernel
theorem dX12_isType_71 : decode cX12_isType 71 = .ok (.bipush 8, 2) := by decide +kernel
theorem dX12_isType_73 : decode cX12_isType 73 = .ok (.if_icmp .ne 50, 3) := by decide +kernel
theorem dX12_isType_76 : decode cX12_isType 76 = .ok (.aload_n 0, 1) := by decide +kernel
theorem dX12_isType_77 : decode cX12_isType 77 = .ok (.getfield 81, 3) := by decide +kernel
theorem dX12_isType_80 : decode cX12_isType 80 = .ok (.iload_n 3, 1) := by decide +kernel
theorem dX12_isType_81 : decode cX12_isType 81 = .ok (.iaload, 1) := by decide +kernel
theorem dX12_isType_82 : decode cX12_isType 82 = .ok (.iload 4, 2) := by decide +kernel
theorem dX12_isType_84 : decode cX12_isType 84 = .ok (.ishr, 1) := by decide +kernel
theorem dX12_isType_85 : decode cX12_isType 85 = .ok (.iconst 1, 1) := by decide +kernel
theorem dX12_isType_86 : decode cX12_isType 86 = .ok (.iand, 1) := by decide +kernel
theorem dX12_isType_87 : decode cX12_isType 87 = .ok (.iconst 1, 1) := by decide +kernel
theorem dX12_isType_88 : decode cX12_isType 88 = .ok (.if_icmp .ne 29, 3) := by decide +kernel
theorem dX12_isType_91 : decode cX12_isType 91 = .ok (.aload_n 0, 1) := by decide +kernel
theorem dX12_isType_92 : decode cX12_isType 92 = .ok (.getfield 150, 3) := by decide +kernel
theorem dX12_isType_95 : decode cX12_isType 95 = .ok (.aload_n 0, 1) := by decide +kernel
theorem dX12_isType_96 : decode cX12_isType 96 = .ok (.iconst 5, 1) := by decide +kernel
theorem dX12_isType_97 : decode cX12_isType 97 = .ok (.iload_n 3, 1) := by decide +kernel
theorem dX12_isType_98 : decode cX12_isType 98 = .ok (.bipush (-2), 2) := by decide +kernel
theorem dX12_isType_100 : decode cX12_isType 100 = .ok (.iconst 1, 1) := by decide +kernel
theorem dX12_isType_101 : decode cX12_isType 101 = .ok (.iload 4, 2) := by decide +kernel
theorem dX12_isType_103 : decode cX12_isType 103 = .ok (.ishl, 1) := by decide +kernel
theorem dX12_isType_104 : decode cX12_isType 104 = .ok (.invokevirtual 307, 3) := by decide +kernel
theorem dX12_isType_107 : decode cX12_isType 107 = .ok (.sipush 12800, 3) := by decide +kernel
theorem dX12_isType_110 : decode cX12_isType 110 = .ok (.isub, 1) := by decide +kernel
theorem dX12_isType_111 : decode cX12_isType 111 = .ok (.baload, 1) := by decide +kernel
theorem dX12_isType_112 : decode cX12_isType 112 = .ok (.ifCond .ne 5, 3) := by decide +kernel
theorem dX12_isType_115 : decode cX12_isType 115 = .ok (.iconst 0, 1) := by decide +kernel
theorem dX12_isType_116 : decode cX12_isType 116 = .ok (.ireturn, 1) := by decide +kernel
theorem dX12_isType_117 : decode cX12_isType 117 = .ok (.iinc 4 1, 3) := by decide +kernel
theorem dX12_isType_120 : decode cX12_isType 120 = .ok (.goto (-61), 3) := by decide +kernel
theorem dX12_isType_123 : decode cX12_isType 123 = .ok (.iinc 2 1, 3) := by decide +kernel
theorem dX12_isType_126 : decode cX12_isType 126 = .ok (.goto (-124), 3) := by decide +kernel
theorem dX12_isType_129 : decode cX12_isType 129 = .ok (.iconst 1, 1) := by decide +kernel
theorem dX12_isType_130 : decode cX12_isType 130 = .ok (.ireturn, 1) := by decide +kernel
def f_X12_isType_117 (F P : Nat) (S : xSt) (rec_2 : Nat → Int32 → Int32 → xDt → Option (Int32 × xDt)) (rec_59 : Nat → Int32 → Int32 → Int32 → Int32 → xDt → Option (Int32 × xDt)) (v0 : Nat) (v1 : Int32) (v2 : Int32) (v3 : Int32) (v4 : Int32) (D : xDt) : Option (Int32 × xDt) :=
  xlet (v4 + 1) fun v4_1 => rec_59 v0 v1 v2 v3 v4_1 D
set_option maxHeartbeats 4000000 in
theorem t_X12_isType_117 {F P : Nat} {S : xSt} (hS : xWF S) {rec_2 : Nat → Int32 → Int32 → xDt → Option (Int32 × xDt)} (hrec_2 : ∀ {v0 : Nat} {v1 : Int32} {v2 : Int32} {D : xDt} {r : Int32 × xDt}, xK S v0 12 → rec_2 v0 v1 v2 D = some r → yEx md_X12_isType 2 2 [(0, .ref v0), (1, .int v1), (2, .int v2)] [] S D (xQi S r)) {rec_59 : Nat → Int32 → Int32 → Int32 → Int32 → xDt → Option (Int32 × xDt)} (hrec_59 : ∀ {v0 : Nat} {v1 : Int32} {v2 : Int32} {v3 : Int32} {v4 : Int32} {D : xDt} {r : Int32 × xDt}, xK S v0 12 → rec_59 v0 v1 v2 v3 v4 D = some r → yEx md_X12_isType 2 59 [(0, .ref v0), (1, .int v1), (2, .int v2), (3, .int v3), (4, .int v4)] [] S D (xQi S r)) {v0 : Nat} {v1 : Int32} {v2 : Int32} {v3 : Int32} {v4 : Int32} {D : xDt} {r : Int32 × xDt} (k0 : xK S v0 12) (h : f_X12_isType_117 F P S rec_2 rec_59 v0 v1 v2 v3 v4 D = some r) : yEx md_X12_isType 2 117 [(0, .ref v0), (1, .int v1), (2, .int v2), (3, .int v3), (4, .int v4)] [] S D (xQi S r) := by
  unfold f_X12_isType_117 at h
  refine xlet_e h (fun v4_1 ev4_1 h => ?_)
  refine y_iinc v4_1 ev4_1 (by decide) [(4, .int v4_1), (0, .ref v0), (1, .int v1), (2, .int v2), (3, .int v3)] dX12_isType_117 4 rfl (by show _ < 5; decide) rfl ?_
  refine x_goto 59 dX12_isType_120 (by decide) ?_
  refine x_lv (lv' := [(0, .ref v0), (1, .int v1), (2, .int v2), (3, .int v3), (4, .int v4_1)]) [1, 2, 3, 4, 0] rfl ?_
  exact hrec_59 k0 h

def f_X12_isType_123 (F P : Nat) (S : xSt) (rec_2 : Nat → Int32 → Int32 → xDt → Option (Int32 × xDt)) (v0 : Nat) (v1 : Int32) (v2 : Int32) (D : xDt) : Option (Int32 × xDt) :=
  xlet (v2 + 1) fun v2_1 => rec_2 v0 v1 v2_1 D
set_option maxHeartbeats 4000000 in
theorem t_X12_isType_123 {F P : Nat} {S : xSt} (hS : xWF S) {rec_2 : Nat → Int32 → Int32 → xDt → Option (Int32 × xDt)} (hrec_2 : ∀ {v0 : Nat} {v1 : Int32} {v2 : Int32} {D : xDt} {r : Int32 × xDt}, xK S v0 12 → rec_2 v0 v1 v2 D = some r → yEx md_X12_isType 2 2 [(0, .ref v0), (1, .int v1), (2, .int v2)] [] S D (xQi S r)) {v0 : Nat} {v1 : Int32} {v2 : Int32} {D : xDt} {r : Int32 × xDt} (k0 : xK S v0 12) (h : f_X12_isType_123 F P S rec_2 v0 v1 v2 D = some r) : yEx md_X12_isType 2 123 [(0, .ref v0), (1, .int v1), (2, .int v2)] [] S D (xQi S r) := by
  unfold f_X12_isType_123 at h
  refine xlet_e h (fun v2_1 ev2_1 h => ?_)
  refine y_iinc v2_1 ev2_1 (by decide) [(2, .int v2_1), (0, .ref v0), (1, .int v1)] dX12_isType_123 2 rfl (by show _ < 5; decide) rfl ?_
  refine x_goto 2 dX12_isType_126 (by decide) ?_
  refine x_lv (lv' := [(0, .ref v0), (1, .int v1), (2, .int v2_1)]) [1, 2, 0] rfl ?_
  exact hrec_2 k0 h

def f_X12_isType_59s (F P : Nat) (S : xSt) (rec_2 : Nat → Int32 → Int32 → xDt → Option (Int32 × xDt)) (rec_59 : Nat → Int32 → Int32 → Int32 → Int32 → xDt → Option (Int32 × xDt)) (v0 : Nat) (v1 : Int32) (v2 : Int32) (v3 : Int32) (v4 : Int32) (D : xDt) : Option (Int32 × xDt) :=
  if 4 ≤ v4 then (f_X12_isType_123 F P S rec_2 v0 v1 v2 D) else (xgrd (xin v3 (xl S (xr S v0 8))) (if (D.1 (xr S v0 8) (v3).toNatClampNeg) = 8 then (xgrd (xin v3 (xl S (xr S v0 11))) (if ((jishr (D.1 (xr S v0 11) (v3).toNatClampNeg) v4) &&& 1) = 1 then ((f_X12_shared F P S v0 5 v3 (-2) (jishl 1 v4) D).bind fun q3 => xgrd (xin (q3.1 - 12800) (xl S (xr S v0 43))) (if (q3.2.1 (xr S v0 43) (q3.1 - 12800).toNatClampNeg) = 0 then (some (0, q3.2)) else (f_X12_isType_117 F P S rec_2 rec_59 v0 v1 v2 v3 v4 q3.2))) else (f_X12_isType_117 F P S rec_2 rec_59 v0 v1 v2 v3 v4 D))) else (f_X12_isType_123 F P S rec_2 v0 v1 v2 D)))
def f_X12_isType_59 (F P : Nat) (S : xSt) (rec_2 : Nat → Int32 → Int32 → xDt → Option (Int32 × xDt)) : Nat → Nat → Int32 → Int32 → Int32 → Int32 → xDt → Option (Int32 × xDt)
  | 0 => fun _ _ _ _ _ _ => none
  | n + 1 => f_X12_isType_59s F P S rec_2 (f_X12_isType_59 F P S rec_2 n)
set_option maxHeartbeats 4000000 in
theorem t_X12_isType_59s {F P : Nat} {S : xSt} (hS : xWF S) {rec_2 : Nat → Int32 → Int32 → xDt → Option (Int32 × xDt)} (hrec_2 : ∀ {v0 : Nat} {v1 : Int32} {v2 : Int32} {D : xDt} {r : Int32 × xDt}, xK S v0 12 → rec_2 v0 v1 v2 D = some r → yEx md_X12_isType 2 2 [(0, .ref v0), (1, .int v1), (2, .int v2)] [] S D (xQi S r)) {rec_59 : Nat → Int32 → Int32 → Int32 → Int32 → xDt → Option (Int32 × xDt)} (hrec_59 : ∀ {v0 : Nat} {v1 : Int32} {v2 : Int32} {v3 : Int32} {v4 : Int32} {D : xDt} {r : Int32 × xDt}, xK S v0 12 → rec_59 v0 v1 v2 v3 v4 D = some r → yEx md_X12_isType 2 59 [(0, .ref v0), (1, .int v1), (2, .int v2), (3, .int v3), (4, .int v4)] [] S D (xQi S r)) {v0 : Nat} {v1 : Int32} {v2 : Int32} {v3 : Int32} {v4 : Int32} {D : xDt} {r : Int32 × xDt} (k0 : xK S v0 12) (h : f_X12_isType_59s F P S rec_2 rec_59 v0 v1 v2 v3 v4 D = some r) : yEx md_X12_isType 2 59 [(0, .ref v0), (1, .int v1), (2, .int v2), (3, .int v3), (4, .int v4)] [] S D (xQi S r) := by
  unfold f_X12_isType_59s at h
  refine x_iload dX12_isType_59 4 rfl ?_
  refine x_iconst 4 dX12_isType_61 (by decide) ?_
  refine x_icmp_ge 123 dX12_isType_62 (by decide) (fun c => ?_) (fun c => ?_)
  · rw [if_pos c] at h
    refine x_lv (lv' := [(0, .ref v0), (1, .int v1), (2, .int v2)]) [0, 1, 2] rfl ?_
    exact t_X12_isType_123 hS hrec_2 k0 h
  · rw [if_neg c] at h
    refine x_aload_n dX12_isType_65 0 rfl ?_
    refine y_getr (kd := 100) hS fl_RX12_72 dX12_isType_66 rfl k0 ?_
    refine x_iload_n dX12_isType_69 3 rfl ?_
    refine xgrd_e h (fun g1 h => ?_)
    refine y_iald dX12_isType_70 ((hS.f k0 8 100 rfl).2) g1 ?_
    refine x_bipush 8 dX12_isType_71 (by decide) ?_
    refine x_icmp_ne 123 dX12_isType_73 (by decide) (fun c => ?_) (fun c => ?_)
    · rw [if_neg c] at h
      refine x_lv (lv' := [(0, .ref v0), (1, .int v1), (2, .int v2)]) [0, 1, 2] rfl ?_
      exact t_X12_isType_123 hS hrec_2 k0 h
    · rw [if_pos c] at h
      refine x_aload_n dX12_isType_76 0 rfl ?_
      refine y_getr (kd := 100) hS fl_RX12_81 dX12_isType_77 rfl k0 ?_
      refine x_iload_n dX12_isType_80 3 rfl ?_
      refine xgrd_e h (fun g2 h => ?_)
      refine y_iald dX12_isType_81 ((hS.f k0 11 100 rfl).2) g2 ?_
      refine x_iload dX12_isType_82 4 rfl ?_
      refine x_ishr dX12_isType_84 ?_
      refine x_iconst 1 dX12_isType_85 (by decide) ?_
      refine x_iand dX12_isType_86 ?_
      refine x_iconst 1 dX12_isType_87 (by decide) ?_
      refine x_icmp_ne 117 dX12_isType_88 (by decide) (fun c => ?_) (fun c => ?_)
      · rw [if_neg c] at h
        exact t_X12_isType_117 hS hrec_2 hrec_59 k0 h
      · rw [if_pos c] at h
        refine x_aload_n dX12_isType_91 0 rfl ?_
        refine y_getr (kd := 104) hS fl_RX12_150 dX12_isType_92 rfl k0 ?_
        refine x_aload_n dX12_isType_95 0 rfl ?_
        refine x_iconst 5 dX12_isType_96 (by decide) ?_
        refine x_iload_n dX12_isType_97 3 rfl ?_
        refine x_bipush (-2) dX12_isType_98 (by decide) ?_
        refine x_iconst 1 dX12_isType_100 (by decide) ?_
        refine x_iload dX12_isType_101 4 rfl ?_
        refine x_ishl dX12_isType_103 ?_
        refine xbnd_e h (fun q3 e3 h => ?_)
        refine y_callVi (As := [.int 5, .int v3, .int (-2), .int (jishl 1 v4)]) (q := q3) cv_RX12_307 dX12_isType_104 k0 rfl (Nat.le_of_ble_eq_true rfl) (by omega) (S_X12_shared hS k0 e3) ?_
        refine x_sipush 12800 dX12_isType_107 (by decide) ?_
        refine x_isub dX12_isType_110 ?_
        refine xgrd_e h (fun g4 h => ?_)
        refine y_zald dX12_isType_111 ((hS.f k0 43 104 rfl).2) g4 ?_
        refine x_if_ne 117 dX12_isType_112 (by decide) (fun c => ?_) (fun c => ?_)
        · rw [if_neg c] at h
          exact t_X12_isType_117 hS hrec_2 hrec_59 k0 h
        · rw [if_pos c] at h
          refine x_iconst 0 dX12_isType_115 (by decide) ?_
          obtain rfl := Option.some.inj h
          exact y_zret rfl rfl dX12_isType_116
theorem t_X12_isType_59 {F P : Nat} {S : xSt} (hS : xWF S) {rec_2 : Nat → Int32 → Int32 → xDt → Option (Int32 × xDt)} (hrec_2 : ∀ {v0 : Nat} {v1 : Int32} {v2 : Int32} {D : xDt} {r : Int32 × xDt}, xK S v0 12 → rec_2 v0 v1 v2 D = some r → yEx md_X12_isType 2 2 [(0, .ref v0), (1, .int v1), (2, .int v2)] [] S D (xQi S r)) : ∀ (n : Nat) {v0 : Nat} {v1 : Int32} {v2 : Int32} {v3 : Int32} {v4 : Int32} {D : xDt} {r : Int32 × xDt}, xK S v0 12 → f_X12_isType_59 F P S rec_2 n v0 v1 v2 v3 v4 D = some r → yEx md_X12_isType 2 59 [(0, .ref v0), (1, .int v1), (2, .int v2), (3, .int v3), (4, .int v4)] [] S D (xQi S r) := by
  intro n
  induction n with
  | zero => intros; rename_i h; cases h
  | succ n ih =>
    intro v0 v1 v2 v3 v4 D r k0 h
    exact t_X12_isType_59s hS hrec_2 (fun k0 h => ih k0 h) k0 h

def f_X12_isType_2s (F P : Nat) (S : xSt) (rec_2 : Nat → Int32 → Int32 → xDt → Option (Int32 × xDt)) (v0 : Nat) (v1 : Int32) (v2 : Int32) (D : xDt) : Option (Int32 × xDt) :=
  if (D.1 v0 38) ≤ v2 then (some (1, D)) else (xgrd (xin v2 (xl S (xr S v0 37))) (xlet (D.1 (xr S v0 37) (v2).toNatClampNeg) fun v3_2 => xgrd (xin v3_2 (xl S (xr S v0 8))) (if (D.1 (xr S v0 8) (v3_2).toNatClampNeg) = 1 then (f_X12_isType_123 F P S rec_2 v0 v1 v2 D) else (if ((jishr v1 v2) &&& 1) = 1 then (xgrd (xin v3_2 (xl S (xr S v0 9))) (xgrd (xin ((D.1 (xr S v0 9) (v3_2).toNatClampNeg) - 12800) (xl S (xr S v0 43))) (if (D.1 (xr S v0 43) ((D.1 (xr S v0 9) (v3_2).toNatClampNeg) - 12800).toNatClampNeg) = 0 then (some (0, D)) else (f_X12_isType_59 F P S rec_2 F v0 v1 v2 v3_2 0 D)))) else (f_X12_isType_123 F P S rec_2 v0 v1 v2 D)))))
def f_X12_isType_2 (F P : Nat) (S : xSt) : Nat → Nat → Int32 → Int32 → xDt → Option (Int32 × xDt)
  | 0 => fun _ _ _ _ => none
  | n + 1 => f_X12_isType_2s F P S (f_X12_isType_2 F P S n)
set_option maxHeartbeats 4000000 in
theorem t_X12_isType_2s {F P : Nat} {S : xSt} (hS : xWF S) {rec_2 : Nat → Int32 → Int32 → xDt → Option (Int32 × xDt)} (hrec_2 : ∀ {v0 : Nat} {v1 : Int32} {v2 : Int32} {D : xDt} {r : Int32 × xDt}, xK S v0 12 → rec_2 v0 v1 v2 D = some r → yEx md_X12_isType 2 2 [(0, .ref v0), (1, .int v1), (2, .int v2)] [] S D (xQi S r)) {v0 : Nat} {v1 : Int32} {v2 : Int32} {D : xDt} {r : Int32 × xDt} (k0 : xK S v0 12) (h : f_X12_isType_2s F P S rec_2 v0 v1 v2 D = some r) : yEx md_X12_isType 2 2 [(0, .ref v0), (1, .int v1), (2, .int v2)] [] S D (xQi S r) := by
  unfold f_X12_isType_2s at h
  refine x_iload_n dX12_isType_2 2 rfl ?_
  refine x_aload_n dX12_isType_3 0 rfl ?_
  refine y_geti fl_RX12_310 dX12_isType_4 rfl k0 ?_
  refine x_icmp_ge 129 dX12_isType_7 (by decide) (fun c => ?_) (fun c => ?_)
  · rw [if_pos c] at h
    refine x_iconst 1 dX12_isType_129 (by decide) ?_
    obtain rfl := Option.some.inj h
    exact y_zret rfl rfl dX12_isType_130
  · rw [if_neg c] at h
    refine x_aload_n dX12_isType_10 0 rfl ?_
    refine y_getr (kd := 100) hS fl_RX12_134 dX12_isType_11 rfl k0 ?_
    refine x_iload_n dX12_isType_14 2 rfl ?_
    refine xgrd_e h (fun g1 h => ?_)
    refine y_iald dX12_isType_15 ((hS.f k0 37 100 rfl).2) g1 ?_
    refine xlet_e h (fun v3_2 ev3_2 h => ?_)
    refine y_istore_n v3_2 ev3_2 [(3, .int v3_2), (0, .ref v0), (1, .int v1), (2, .int v2)] dX12_isType_16 (by show _ < 5; decide) rfl ?_
    refine x_aload_n dX12_isType_17 1 rfl ?_
    refine y_getr (kd := 100) hS fl_RX12_72 dX12_isType_18 rfl k0 ?_
    refine x_iload_n dX12_isType_21 0 rfl ?_
    refine xgrd_e h (fun g3 h => ?_)
    refine y_iald dX12_isType_22 ((hS.f k0 8 100 rfl).2) g3 ?_
    refine x_iconst 1 dX12_isType_23 (by decide) ?_
    refine x_icmp_eq 123 dX12_isType_24 (by decide) (fun c => ?_) (fun c => ?_)
    · rw [if_pos c] at h
      refine x_lv (lv' := [(0, .ref v0), (1, .int v1), (2, .int v2)]) [1, 2, 3] rfl ?_
      exact t_X12_isType_123 hS hrec_2 k0 h
    · rw [if_neg c] at h
      refine x_iload_n dX12_isType_27 2 rfl ?_
      refine x_iload_n dX12_isType_28 3 rfl ?_
      refine x_ishr dX12_isType_29 ?_
      refine x_iconst 1 dX12_isType_30 (by decide) ?_
      refine x_iand dX12_isType_31 ?_
      refine x_iconst 1 dX12_isType_32 (by decide) ?_
      refine x_icmp_ne 123 dX12_isType_33 (by decide) (fun c => ?_) (fun c => ?_)
      · rw [if_neg c] at h
        refine x_lv (lv' := [(0, .ref v0), (1, .int v1), (2, .int v2)]) [1, 2, 3] rfl ?_
        exact t_X12_isType_123 hS hrec_2 k0 h
      · rw [if_pos c] at h
        refine x_aload_n dX12_isType_36 1 rfl ?_
        refine y_getr (kd := 104) hS fl_RX12_150 dX12_isType_37 rfl k0 ?_
        refine x_aload_n dX12_isType_40 1 rfl ?_
        refine y_getr (kd := 100) hS fl_RX12_75 dX12_isType_41 rfl k0 ?_
        refine x_iload_n dX12_isType_44 0 rfl ?_
        refine xgrd_e h (fun g4 h => ?_)
        refine y_iald dX12_isType_45 ((hS.f k0 9 100 rfl).2) g4 ?_
        refine x_sipush 12800 dX12_isType_46 (by decide) ?_
        refine x_isub dX12_isType_49 ?_
        refine xgrd_e h (fun g5 h => ?_)
        refine y_zald dX12_isType_50 ((hS.f k0 43 104 rfl).2) g5 ?_
        refine x_if_ne 56 dX12_isType_51 (by decide) (fun c => ?_) (fun c => ?_)
        · rw [if_neg c] at h
          refine x_iconst 0 dX12_isType_56 (by decide) ?_
          refine y_istore 0 rfl [(4, .int 0), (3, .int v3_2), (0, .ref v0), (1, .int v1), (2, .int v2)] dX12_isType_57 (by show _ < 5; decide) rfl ?_
          refine x_lv (lv' := [(0, .ref v0), (1, .int v1), (2, .int v2), (3, .int v3_2), (4, .int 0)]) [2, 3, 4, 1, 0] rfl ?_
          exact t_X12_isType_59 hS hrec_2 F k0 h
        · rw [if_pos c] at h
          refine x_iconst 0 dX12_isType_54 (by decide) ?_
          obtain rfl := Option.some.inj h
          exact y_zret rfl rfl dX12_isType_55
theorem t_X12_isType_2 {F P : Nat} {S : xSt} (hS : xWF S) : ∀ (n : Nat) {v0 : Nat} {v1 : Int32} {v2 : Int32} {D : xDt} {r : Int32 × xDt}, xK S v0 12 → f_X12_isType_2 F P S n v0 v1 v2 D = some r → yEx md_X12_isType 2 2 [(0, .ref v0), (1, .int v1), (2, .int v2)] [] S D (xQi S r) := by
  intro n
  induction n with
  | zero => intros; rename_i h; cases h
  | succ n ih =>
    intro v0 v1 v2 D r k0 h
    exact t_X12_isType_2s hS (fun k0 h => ih k0 h) k0 h

def f_X12_isType (F P : Nat) (S : xSt) (v0 : Nat) (v1 : Int32) (D : xDt) : Option (Int32 × xDt) :=
  f_X12_isType_2 F P S F v0 v1 0 D
set_option maxHeartbeats 4000000 in
theorem S_X12_isType {F P : Nat} {S : xSt} (hS : xWF S) {v0 : Nat} {v1 : Int32} {D : xDt} {r : Int32 × xDt} (k0 : xK S v0 12) (h : f_X12_isType F P S v0 v1 D = some r) : xSp md_X12_isType (2, 0, 0) [.ref v0, .int v1] (S, D) (xQi S r) := by
  unfold f_X12_isType at h
  refine xEntry (by decide) (Nat.le_of_ble_eq_true rfl) ?_
  refine x_lv (lv' := [(0, .ref v0), (1, .int v1)]) [0, 1] rfl ?_
  refine x_iconst 0 dX12_isType_0 (by decide) ?_
  refine y_istore_n 0 rfl [(2, .int 0), (0, .ref v0), (1, .int v1)] dX12_isType_1 (by show _ < 5; decide) rfl ?_
  refine x_lv (lv' := [(0, .ref v0), (1, .int v1), (2, .int 0)]) [1, 2, 0] rfl ?_
  exact t_X12_isType_2 hS F k0 h

theorem dX12_root_0 : decode cX12_root 0 = .ok (.iload_n 1, 1) := by decide +kernel
theorem dX12_root_1 : decode cX12_root 1 = .ok (.istore_n 2, 1) := by decide +kernel
theorem dX12_root_2 : decode cX12_root 2 = .ok (.aload_n 0, 1) := by decide +kernel
theorem dX12_root_3 : decode cX12_root 3 = .ok (.getfield 144, 3) := by decide +kernel
theorem dX12_root_6 : decode cX12_root 6 = .ok (.iload_n 2, 1) := by decide +kernel
theorem dX12_root_7 : decode cX12_root 7 = .ok (.iaload, 1) := by decide +kernel
theorem dX12_root_8 : decode cX12_root 8 = .ok (.iload_n 2, 1) := by decide +kernel
theorem dX12_root_9 : decode cX12_root 9 = .ok (.if_icmp .eq 30, 3) := by decide +kernel
theorem dX12_root_12 : decode cX12_root 12 = .ok (.aload_n 0, 1) := by decide +kernel
theorem dX12_root_13 : decode cX12_root 13 = .ok (.getfield 144, 3) := by decide +kernel
theorem dX12_root_16 : decode cX12_root 16 = .ok (.iload_n 2, 1) := by decide +kernel
theorem dX12_root_17 : decode cX12_root 17 = .ok (.aload_n 0, 1) := by decide +kernel
theorem dX12_root_18 : decode cX12_root 18 = .ok (.getfield 144, 3) := by decide +kernel
theorem dX12_root_21 : decode cX12_root 21 = .ok (.aload_n 0, 1) := by decide +kernel
theorem dX12_root_22 : decode cX12_root 22 = .ok (.getfield 144, 3) := by decide +kernel
theorem dX12_root_25 : decode cX12_root 25 = .ok (.iload_n 2, 1) := by decide +kernel
theorem dX12_root_26 : decode cX12_root 26 = .ok (.iaload, 1) := by decide +kernel
theorem dX12_root_27 : decode cX12_root 27 = .ok (.iaload, 1) := by decide +kernel
theorem dX12_root_28 : decode cX12_root 28 = .ok (.iastore, 1) := by decide +kernel
theorem dX12_root_29 : decode cX12_root 29 = .ok (.aload_n 0, 1) := by decide +kernel
theorem dX12_root_30 : decode cX12_root 30 = .ok (.getfield 144, 3) := by decide +kernel
theorem dX12_root_33 : decode cX12_root 33 = .ok (.iload_n 2, 1) := by decide +kernel
theorem dX12_root_34 : decode cX12_root 34 = .ok (.iaload, 1) := by decide +kernel
theorem dX12_root_35 : decode cX12_root 35 = .ok (.istore_n 2, 1) := by decide +kernel
theorem dX12_root_36 : decode cX12_root 36 = .ok (.goto (-34), 3) := by decide +kernel
theorem dX12_root_39 : decode cX12_root 39 = .ok (.iload_n 2, 1) := by decide +kernel
theorem dX12_root_40 : decode cX12_root 40 = .ok (.ireturn, 1) := by decide +kernel
def f_X12_root_2s (F P : Nat) (S : xSt) (rec_2 : Nat → Int32 → xDt → Option (Int32 × xDt)) (v0 : Nat) (v2 : Int32) (D : xDt) : Option (Int32 × xDt) :=
  xgrd (xin v2 (xl S (xr S v0 41))) (if (D.1 (xr S v0 41) (v2).toNatClampNeg) = v2 then (some (v2, D)) else (xgrd (xin v2 (xl S (xr S v0 41))) (xgrd (xin (D.1 (xr S v0 41) (v2).toNatClampNeg) (xl S (xr S v0 41))) (xgrd (xin v2 (xl S (xr S v0 41))) (xlet (xup D.1 (xr S v0 41) (v2).toNatClampNeg (D.1 (xr S v0 41) (D.1 (xr S v0 41) (v2).toNatClampNeg).toNatClampNeg), D.2) fun D5 => xgrd (xin v2 (xl S (xr S v0 41))) (xlet (D5.1 (xr S v0 41) (v2).toNatClampNeg) fun v2_7 => rec_2 v0 v2_7 D5))))))
def f_X12_root_2 (F P : Nat) (S : xSt) : Nat → Nat → Int32 → xDt → Option (Int32 × xDt)
  | 0 => fun _ _ _ => none
  | n + 1 => f_X12_root_2s F P S (f_X12_root_2 F P S n)
set_option maxHeartbeats 4000000 in
theorem t_X12_root_2s {F P : Nat} {S : xSt} (hS : xWF S) {rec_2 : Nat → Int32 → xDt → Option (Int32 × xDt)} (hrec_2 : ∀ {v0 : Nat} {v2 : Int32} {D : xDt} {r : Int32 × xDt}, xK S v0 12 → rec_2 v0 v2 D = some r → yEx md_X12_root 0 2 [(0, .ref v0), (2, .int v2)] [] S D (xQi S r)) {v0 : Nat} {v2 : Int32} {D : xDt} {r : Int32 × xDt} (k0 : xK S v0 12) (h : f_X12_root_2s F P S rec_2 v0 v2 D = some r) : yEx md_X12_root 0 2 [(0, .ref v0), (2, .int v2)] [] S D (xQi S r) := by
  unfold f_X12_root_2s at h
  refine x_aload_n dX12_root_2 0 rfl ?_
  refine y_getr (kd := 100) hS fl_RX12_144 dX12_root_3 rfl k0 ?_
  refine x_iload_n dX12_root_6 1 rfl ?_
  refine xgrd_e h (fun g1 h => ?_)
  refine y_iald dX12_root_7 ((hS.f k0 41 100 rfl).2) g1 ?_
  refine x_iload_n dX12_root_8 1 rfl ?_
  refine x_icmp_eq 39 dX12_root_9 (by decide) (fun c => ?_) (fun c => ?_)
  · rw [if_pos c] at h
    refine x_iload_n dX12_root_39 1 rfl ?_
    obtain rfl := Option.some.inj h
    exact y_iret rfl dX12_root_40
  · rw [if_neg c] at h
    refine x_aload_n dX12_root_12 0 rfl ?_
    refine y_getr (kd := 100) hS fl_RX12_144 dX12_root_13 rfl k0 ?_
    refine x_iload_n dX12_root_16 1 rfl ?_
    refine x_aload_n dX12_root_17 0 rfl ?_
    refine y_getr (kd := 100) hS fl_RX12_144 dX12_root_18 rfl k0 ?_
    refine x_aload_n dX12_root_21 0 rfl ?_
    refine y_getr (kd := 100) hS fl_RX12_144 dX12_root_22 rfl k0 ?_
    refine x_iload_n dX12_root_25 1 rfl ?_
    refine xgrd_e h (fun g2 h => ?_)
    refine y_iald dX12_root_26 ((hS.f k0 41 100 rfl).2) g2 ?_
    refine xgrd_e h (fun g3 h => ?_)
    refine y_iald dX12_root_27 ((hS.f k0 41 100 rfl).2) g3 ?_
    refine xgrd_e h (fun g4 h => ?_)
    refine xlet_e h (fun D5 eD5 h => ?_)
    refine y_iast dX12_root_28 ((hS.f k0 41 100 rfl).2) g4 eD5 ?_
    refine x_aload_n dX12_root_29 0 rfl ?_
    refine y_getr (kd := 100) hS fl_RX12_144 dX12_root_30 rfl k0 ?_
    refine x_iload_n dX12_root_33 1 rfl ?_
    refine xgrd_e h (fun g6 h => ?_)
    refine y_iald dX12_root_34 ((hS.f k0 41 100 rfl).2) g6 ?_
    refine xlet_e h (fun v2_7 ev2_7 h => ?_)
    refine y_istore_n v2_7 ev2_7 [(2, .int v2_7), (0, .ref v0)] dX12_root_35 (by show _ < 3; decide) rfl ?_
    refine x_goto 2 dX12_root_36 (by decide) ?_
    refine x_lv (lv' := [(0, .ref v0), (2, .int v2_7)]) [1, 0] rfl ?_
    exact hrec_2 k0 h
theorem t_X12_root_2 {F P : Nat} {S : xSt} (hS : xWF S) : ∀ (n : Nat) {v0 : Nat} {v2 : Int32} {D : xDt} {r : Int32 × xDt}, xK S v0 12 → f_X12_root_2 F P S n v0 v2 D = some r → yEx md_X12_root 0 2 [(0, .ref v0), (2, .int v2)] [] S D (xQi S r) := by
  intro n
  induction n with
  | zero => intros; rename_i h; cases h
  | succ n ih =>
    intro v0 v2 D r k0 h
    exact t_X12_root_2s hS (fun k0 h => ih k0 h) k0 h

def f_X12_root (F P : Nat) (S : xSt) (v0 : Nat) (v1 : Int32) (D : xDt) : Option (Int32 × xDt) :=
  f_X12_root_2 F P S F v0 v1 D
set_option maxHeartbeats 4000000 in
theorem S_X12_root {F P : Nat} {S : xSt} (hS : xWF S) {v0 : Nat} {v1 : Int32} {D : xDt} {r : Int32 × xDt} (k0 : xK S v0 12) (h : f_X12_root F P S v0 v1 D = some r) : xSp md_X12_root (0, 0, 0) [.ref v0, .int v1] (S, D) (xQi S r) := by
  unfold f_X12_root at h
  refine xEntry (by decide) (Nat.le_of_ble_eq_true rfl) ?_
  refine x_lv (lv' := [(0, .ref v0), (1, .int v1)]) [0, 1] rfl ?_
  refine x_iload_n dX12_root_0 1 rfl ?_
  refine y_istore_n v1 rfl [(2, .int v1), (0, .ref v0), (1, .int v1)] dX12_root_1 (by show _ < 3; decide) rfl ?_
  refine x_lv (lv' := [(0, .ref v0), (2, .int v1)]) [1, 0] rfl ?_
  exact t_X12_root_2 hS F k0 h

theorem dX12_unite_0 : decode cX12_unite 0 = .ok (.aload_n 0, 1) := by decide +kernel
theorem dX12_unite_1 : decode cX12_unite 1 = .ok (.iload_n 1, 1) := by decide +kernel
theorem dX12_unite_2 : decode cX12_unite 2 = .ok (.invokevirtual 316, 3) := by decide +kernel
theorem dX12_unite_5 : decode cX12_unite 5 = .ok (.istore_n 3, 1) := by decide +kernel
theorem dX12_unite_6 : decode cX12_unite 6 = .ok (.iconst 0, 1) := by decide +kernel
theorem dX12_unite_7 : decode cX12_unite 7 = .ok (.istore 4, 2) := by decide +kernel
theorem dX12_unite_9 : decode cX12_unite 9 = .ok (.iload 4, 2) := by decide +kernel
theorem dX12_unite_11 : decode cX12_unite 11 = .ok (.iload_n 2, 1) := by decide +kernel
theorem dX12_unite_12 : decode cX12_unite 12 = .ok (.if_icmp .ge 18, 3) := by decide +kernel
theorem dX12_unite_15 : decode cX12_unite 15 = .ok (.aload_n 0, 1) := by decide +kernel
theorem dX12_unite_16 : decode cX12_unite 16 = .ok (.getfield 147, 3) := by decide +kernel
theorem dX12_unite_19 : decode cX12_unite 19 = .ok (.iload 4, 2) := by decide +kernel
theorem dX12_unite_21 : decode cX12_unite 21 = .ok (.bipush (-2), 2) := by decide +kernel
theorem dX12_unite_23 : decode cX12_unite 23 = .ok (.iastore, 1) := by decide +kernel
theorem dX12_unite_24 : decode cX12_unite 24 = .ok (.iinc 4 1, 3) := by decide +kernel
theorem dX12_unite_27 : decode cX12_unite 27 = .ok (.goto (-18), 3) := by decide +kernel
theorem dX12_unite_30 : decode cX12_unite 30 = .ok (.iconst 0, 1) := by decide +kernel
theorem dX12_unite_31 : decode cX12_unite 31 = .ok (.istore 4, 2) := by decide +kernel
theorem dX12_unite_33 : decode cX12_unite 33 = .ok (.iload 4, 2) := by decide +kernel
theorem dX12_unite_35 : decode cX12_unite 35 = .ok (.iload_n 2, 1) := by decide +kernel
theorem dX12_unite_36 : decode cX12_unite 36 = .ok (.if_icmp .ge 69, 3) := by decide +kernel
theorem dX12_unite_39 : decode cX12_unite 39 = .ok (.aload_n 0, 1) := by decide +kernel
theorem dX12_unite_40 : decode cX12_unite 40 = .ok (.getfield 137, 3) := by decide +kernel
theorem dX12_unite_43 : decode cX12_unite 43 = .ok (.iload 4, 2) := by decide +kernel
theorem dX12_unite_45 : decode cX12_unite 45 = .ok (.baload, 1) := by decide +kernel
theorem dX12_unite_46 : decode cX12_unite 46 = .ok (.ifCond .eq 53, 3) := by decide +kernel
theorem dX12_unite_49 : decode cX12_unite 49 = .ok (.iload 4, 2) := by decide +kernel
theorem dX12_unite_51 : decode cX12_unite 51 = .ok (.iload_n 3, 1) := by decide +kernel
theorem dX12_unite_52 : decode cX12_unite 52 = .ok (.iand, 1) := by decide +kernel
theorem dX12_unite_53 : decode cX12_unite 53 = .ok (.istore 5, 2) := by decide +kernel
theorem dX12_unite_55 : decode cX12_unite 55 = .ok (.aload_n 0, 1) := by decide +kernel
theorem dX12_unite_56 : decode cX12_unite 56 = .ok (.getfield 147, 3) := by decide +kernel
theorem dX12_unite_59 : decode cX12_unite 59 = .ok (.iload 5, 2) := by decide +kernel
theorem dX12_unite_61 : decode cX12_unite 61 = .ok (.iaload, 1) := by decide +kernel
theorem dX12_unite_62 : decode cX12_unite 62 = .ok (.ifCond .ge 15, 3) := by decide +kernel
theorem dX12_unite_65 : decode cX12_unite 65 = .ok (.aload_n 0, 1) := by decide +kernel
theorem dX12_unite_66 : decode cX12_unite 66 = .ok (.getfield 147, 3) := by decide +kernel
theorem dX12_unite_69 : decode cX12_unite 69 = .ok (.iload 5, 2) := by decide +kernel
theorem dX12_unite_71 : decode cX12_unite 71 = .ok (.iload 4, 2) := by decide +kernel
theorem dX12_unite_73 : decode cX12_unite 73 = .ok (.iastore, 1) := by decide +kernel
theorem dX12_unite_74 : decode cX12_unite 74 = .ok (.goto 25, 3) := by decide +kernel
theorem dX12_unite_77 : decode cX12_unite 77 = .ok (.aload_n 0, 1) := by decide +kernel
theorem dX12_unite_78 : decode cX12_unite 78 = .ok (.getfield 144, 3) := by decide +kernel
theorem dX12_unite_81 : decode cX12_unite 81 = .ok (.aload_n 0, 1) := by decide +kernel
theorem dX12_unite_82 : decode cX12_unite 82 = .ok (.iload 4, 2) := by decide +kernel
theorem dX12_unite_84 : decode cX12_unite 84 = .ok (.invokevirtual 319, 3) := by decide +kernel
theorem dX12_unite_87 : decode cX12_unite 87 = .ok (.aload_n 0, 1) := by decide +kernel
theorem dX12_unite_88 : decode cX12_unite 88 = .ok (.aload_n 0, 1) := by decide +kernel
theorem dX12_unite_89 : decode cX12_unite 89 = .ok (.getfield 147, 3) := by decide +kernel
theorem dX12_unite_92 : decode cX12_unite 92 = .ok (.iload 5, 2) := by decide +kernel
theorem dX12_unite_94 : decode cX12_unite 94 = .ok (.iaload, 1) := by decide +kernel
theorem dX12_unite_95 : decode cX12_unite 95 = .ok (.invokevirtual 319, 3) := by decide +kernel
theorem dX12_unite_98 : decode cX12_unite 98 = .ok (.iastore, 1) := by decide +kernel
theorem dX12_unite_99 : decode cX12_unite 99 = .ok (.iinc 4 1, 3) := by decide +kernel
theorem dX12_unite_102 : decode cX12_unite 102 = .ok (.goto (-69), 3) := by decide +kernel
theorem dX12_unite_105 : decode cX12_unite 105 = .ok (.return_, 1) := by decide +kernel
def f_X12_unite_99 (F P : Nat) (S : xSt) (rec_33 : Nat → Int32 → Int32 → Int32 → xDt → Option (xDt)) (v0 : Nat) (v2 : Int32) (v3 : Int32) (v4 : Int32) (D : xDt) : Option (xDt) :=
  xlet (v4 + 1) fun v4_1 => rec_33 v0 v2 v3 v4_1 D
set_option maxHeartbeats 4000000 in
theorem t_X12_unite_99 {F P : Nat} {S : xSt} (hS : xWF S) {rec_33 : Nat → Int32 → Int32 → Int32 → xDt → Option (xDt)} (hrec_33 : ∀ {v0 : Nat} {v2 : Int32} {v3 : Int32} {v4 : Int32} {D : xDt} {r : xDt}, xK S v0 12 → rec_33 v0 v2 v3 v4 D = some r → yEx md_X12_unite 1 33 [(0, .ref v0), (2, .int v2), (3, .int v3), (4, .int v4)] [] S D (xQv S r)) {v0 : Nat} {v2 : Int32} {v3 : Int32} {v4 : Int32} {D : xDt} {r : xDt} (k0 : xK S v0 12) (h : f_X12_unite_99 F P S rec_33 v0 v2 v3 v4 D = some r) : yEx md_X12_unite 1 99 [(0, .ref v0), (2, .int v2), (3, .int v3), (4, .int v4)] [] S D (xQv S r) := by
  unfold f_X12_unite_99 at h
  refine xlet_e h (fun v4_1 ev4_1 h => ?_)
  refine y_iinc v4_1 ev4_1 (by decide) [(4, .int v4_1), (0, .ref v0), (2, .int v2), (3, .int v3)] dX12_unite_99 3 rfl (by show _ < 6; decide) rfl ?_
  refine x_goto 33 dX12_unite_102 (by decide) ?_
  refine x_lv (lv' := [(0, .ref v0), (2, .int v2), (3, .int v3), (4, .int v4_1)]) [1, 2, 3, 0] rfl ?_
  exact hrec_33 k0 h

def f_X12_unite_33s (F P : Nat) (S : xSt) (rec_33 : Nat → Int32 → Int32 → Int32 → xDt → Option (xDt)) (v0 : Nat) (v2 : Int32) (v3 : Int32) (v4 : Int32) (D : xDt) : Option (xDt) :=
  if v2 ≤ v4 then (some D) else (xgrd (xin v4 (xl S (xr S v0 39))) (if (D.1 (xr S v0 39) (v4).toNatClampNeg) = 0 then (f_X12_unite_99 F P S rec_33 v0 v2 v3 v4 D) else (xlet (v4 &&& v3) fun v5_2 => xgrd (xin v5_2 (xl S (xr S v0 42))) (if 0 ≤ (D.1 (xr S v0 42) (v5_2).toNatClampNeg) then ((f_X12_root F P S v0 v4 D).bind fun q4 => xgrd (xin v5_2 (xl S (xr S v0 42))) ((f_X12_root F P S v0 (q4.2.1 (xr S v0 42) (v5_2).toNatClampNeg) q4.2).bind fun q6 => xgrd (xin q4.1 (xl S (xr S v0 41))) (xlet (xup q6.2.1 (xr S v0 41) (q4.1).toNatClampNeg q6.1, q6.2.2) fun D8 => f_X12_unite_99 F P S rec_33 v0 v2 v3 v4 D8))) else (xgrd (xin v5_2 (xl S (xr S v0 42))) (xlet (xup D.1 (xr S v0 42) (v5_2).toNatClampNeg v4, D.2) fun D10 => f_X12_unite_99 F P S rec_33 v0 v2 v3 v4 D10))))))
def f_X12_unite_33 (F P : Nat) (S : xSt) : Nat → Nat → Int32 → Int32 → Int32 → xDt → Option (xDt)
  | 0 => fun _ _ _ _ _ => none
  | n + 1 => f_X12_unite_33s F P S (f_X12_unite_33 F P S n)
set_option maxHeartbeats 4000000 in
theorem t_X12_unite_33s {F P : Nat} {S : xSt} (hS : xWF S) {rec_33 : Nat → Int32 → Int32 → Int32 → xDt → Option (xDt)} (hrec_33 : ∀ {v0 : Nat} {v2 : Int32} {v3 : Int32} {v4 : Int32} {D : xDt} {r : xDt}, xK S v0 12 → rec_33 v0 v2 v3 v4 D = some r → yEx md_X12_unite 1 33 [(0, .ref v0), (2, .int v2), (3, .int v3), (4, .int v4)] [] S D (xQv S r)) {v0 : Nat} {v2 : Int32} {v3 : Int32} {v4 : Int32} {D : xDt} {r : xDt} (k0 : xK S v0 12) (h : f_X12_unite_33s F P S rec_33 v0 v2 v3 v4 D = some r) : yEx md_X12_unite 1 33 [(0, .ref v0), (2, .int v2), (3, .int v3), (4, .int v4)] [] S D (xQv S r) := by
  unfold f_X12_unite_33s at h
  refine x_iload dX12_unite_33 3 rfl ?_
  refine x_iload_n dX12_unite_35 1 rfl ?_
  refine x_icmp_ge 105 dX12_unite_36 (by decide) (fun c => ?_) (fun c => ?_)
  · rw [if_pos c] at h
    obtain rfl := Option.some.inj h
    exact y_vret rfl dX12_unite_105
  · rw [if_neg c] at h
    refine x_aload_n dX12_unite_39 0 rfl ?_
    refine y_getr (kd := 104) hS fl_RX12_137 dX12_unite_40 rfl k0 ?_
    refine x_iload dX12_unite_43 3 rfl ?_
    refine xgrd_e h (fun g1 h => ?_)
    refine y_zald dX12_unite_45 ((hS.f k0 39 104 rfl).2) g1 ?_
    refine x_if_eq 99 dX12_unite_46 (by decide) (fun c => ?_) (fun c => ?_)
    · rw [if_pos c] at h
      exact t_X12_unite_99 hS hrec_33 k0 h
    · rw [if_neg c] at h
      refine x_iload dX12_unite_49 3 rfl ?_
      refine x_iload_n dX12_unite_51 2 rfl ?_
      refine x_iand dX12_unite_52 ?_
      refine xlet_e h (fun v5_2 ev5_2 h => ?_)
      refine y_istore v5_2 ev5_2 [(5, .int v5_2), (0, .ref v0), (2, .int v2), (3, .int v3), (4, .int v4)] dX12_unite_53 (by show _ < 6; decide) rfl ?_
      refine x_aload_n dX12_unite_55 1 rfl ?_
      refine y_getr (kd := 100) hS fl_RX12_147 dX12_unite_56 rfl k0 ?_
      refine x_iload dX12_unite_59 0 rfl ?_
      refine xgrd_e h (fun g3 h => ?_)
      refine y_iald dX12_unite_61 ((hS.f k0 42 100 rfl).2) g3 ?_
      refine x_if_ge 77 dX12_unite_62 (by decide) (fun c => ?_) (fun c => ?_)
      · rw [if_pos c] at h
        refine x_aload_n dX12_unite_77 1 rfl ?_
        refine y_getr (kd := 100) hS fl_RX12_144 dX12_unite_78 rfl k0 ?_
        refine x_aload_n dX12_unite_81 1 rfl ?_
        refine x_iload dX12_unite_82 4 rfl ?_
        refine xbnd_e h (fun q4 e4 h => ?_)
        refine y_callVi (As := [.int v4]) (q := q4) cv_RX12_319 dX12_unite_84 k0 rfl (Nat.le_of_ble_eq_true rfl) (by omega) (S_X12_root hS k0 e4) ?_
        refine x_aload_n dX12_unite_87 1 rfl ?_
        refine x_aload_n dX12_unite_88 1 rfl ?_
        refine y_getr (kd := 100) hS fl_RX12_147 dX12_unite_89 rfl k0 ?_
        refine x_iload dX12_unite_92 0 rfl ?_
        refine xgrd_e h (fun g5 h => ?_)
        refine y_iald dX12_unite_94 ((hS.f k0 42 100 rfl).2) g5 ?_
        refine xbnd_e h (fun q6 e6 h => ?_)
        refine y_callVi (As := [.int (q4.2.1 (xr S v0 42) (v5_2).toNatClampNeg)]) (q := q6) cv_RX12_319 dX12_unite_95 k0 rfl (Nat.le_of_ble_eq_true rfl) (by omega) (S_X12_root hS k0 e6) ?_
        refine xgrd_e h (fun g7 h => ?_)
        refine xlet_e h (fun D8 eD8 h => ?_)
        refine y_iast dX12_unite_98 ((hS.f k0 41 100 rfl).2) g7 eD8 ?_
        refine x_lv (lv' := [(0, .ref v0), (2, .int v2), (3, .int v3), (4, .int v4)]) [1, 2, 3, 4] rfl ?_
        exact t_X12_unite_99 hS hrec_33 k0 h
      · rw [if_neg c] at h
        refine x_aload_n dX12_unite_65 1 rfl ?_
        refine y_getr (kd := 100) hS fl_RX12_147 dX12_unite_66 rfl k0 ?_
        refine x_iload dX12_unite_69 0 rfl ?_
        refine x_iload dX12_unite_71 4 rfl ?_
        refine xgrd_e h (fun g9 h => ?_)
        refine xlet_e h (fun D10 eD10 h => ?_)
        refine y_iast dX12_unite_73 ((hS.f k0 42 100 rfl).2) g9 eD10 ?_
        refine x_goto 99 dX12_unite_74 (by decide) ?_
        refine x_lv (lv' := [(0, .ref v0), (2, .int v2), (3, .int v3), (4, .int v4)]) [1, 2, 3, 4] rfl ?_
        exact t_X12_unite_99 hS hrec_33 k0 h
theorem t_X12_unite_33 {F P : Nat} {S : xSt} (hS : xWF S) : ∀ (n : Nat) {v0 : Nat} {v2 : Int32} {v3 : Int32} {v4 : Int32} {D : xDt} {r : xDt}, xK S v0 12 → f_X12_unite_33 F P S n v0 v2 v3 v4 D = some r → yEx md_X12_unite 1 33 [(0, .ref v0), (2, .int v2), (3, .int v3), (4, .int v4)] [] S D (xQv S r) := by
  intro n
  induction n with
  | zero => intros; rename_i h; cases h
  | succ n ih =>
    intro v0 v2 v3 v4 D r k0 h
    exact t_X12_unite_33s hS (fun k0 h => ih k0 h) k0 h

def f_X12_unite_9s (F P : Nat) (S : xSt) (rec_9 : Nat → Int32 → Int32 → Int32 → xDt → Option (xDt)) (v0 : Nat) (v2 : Int32) (v3 : Int32) (v4 : Int32) (D : xDt) : Option (xDt) :=
  if v2 ≤ v4 then (f_X12_unite_33 F P S F v0 v2 v3 0 D) else (xgrd (xin v4 (xl S (xr S v0 42))) (xlet (xup D.1 (xr S v0 42) (v4).toNatClampNeg (-2), D.2) fun D2 => xlet (v4 + 1) fun v4_3 => rec_9 v0 v2 v3 v4_3 D2))
def f_X12_unite_9 (F P : Nat) (S : xSt) : Nat → Nat → Int32 → Int32 → Int32 → xDt → Option (xDt)
  | 0 => fun _ _ _ _ _ => none
  | n + 1 => f_X12_unite_9s F P S (f_X12_unite_9 F P S n)
set_option maxHeartbeats 4000000 in
theorem t_X12_unite_9s {F P : Nat} {S : xSt} (hS : xWF S) {rec_9 : Nat → Int32 → Int32 → Int32 → xDt → Option (xDt)} (hrec_9 : ∀ {v0 : Nat} {v2 : Int32} {v3 : Int32} {v4 : Int32} {D : xDt} {r : xDt}, xK S v0 12 → rec_9 v0 v2 v3 v4 D = some r → yEx md_X12_unite 1 9 [(0, .ref v0), (2, .int v2), (3, .int v3), (4, .int v4)] [] S D (xQv S r)) {v0 : Nat} {v2 : Int32} {v3 : Int32} {v4 : Int32} {D : xDt} {r : xDt} (k0 : xK S v0 12) (h : f_X12_unite_9s F P S rec_9 v0 v2 v3 v4 D = some r) : yEx md_X12_unite 1 9 [(0, .ref v0), (2, .int v2), (3, .int v3), (4, .int v4)] [] S D (xQv S r) := by
  unfold f_X12_unite_9s at h
  refine x_iload dX12_unite_9 3 rfl ?_
  refine x_iload_n dX12_unite_11 1 rfl ?_
  refine x_icmp_ge 30 dX12_unite_12 (by decide) (fun c => ?_) (fun c => ?_)
  · rw [if_pos c] at h
    refine x_iconst 0 dX12_unite_30 (by decide) ?_
    refine y_istore 0 rfl [(4, .int 0), (0, .ref v0), (2, .int v2), (3, .int v3)] dX12_unite_31 (by show _ < 6; decide) rfl ?_
    refine x_lv (lv' := [(0, .ref v0), (2, .int v2), (3, .int v3), (4, .int 0)]) [1, 2, 3, 0] rfl ?_
    exact t_X12_unite_33 hS F k0 h
  · rw [if_neg c] at h
    refine x_aload_n dX12_unite_15 0 rfl ?_
    refine y_getr (kd := 100) hS fl_RX12_147 dX12_unite_16 rfl k0 ?_
    refine x_iload dX12_unite_19 3 rfl ?_
    refine x_bipush (-2) dX12_unite_21 (by decide) ?_
    refine xgrd_e h (fun g1 h => ?_)
    refine xlet_e h (fun D2 eD2 h => ?_)
    refine y_iast dX12_unite_23 ((hS.f k0 42 100 rfl).2) g1 eD2 ?_
    refine xlet_e h (fun v4_3 ev4_3 h => ?_)
    refine y_iinc v4_3 ev4_3 (by decide) [(4, .int v4_3), (0, .ref v0), (2, .int v2), (3, .int v3)] dX12_unite_24 3 rfl (by show _ < 6; decide) rfl ?_
    refine x_goto 9 dX12_unite_27 (by decide) ?_
    refine x_lv (lv' := [(0, .ref v0), (2, .int v2), (3, .int v3), (4, .int v4_3)]) [1, 2, 3, 0] rfl ?_
    exact hrec_9 k0 h
theorem t_X12_unite_9 {F P : Nat} {S : xSt} (hS : xWF S) : ∀ (n : Nat) {v0 : Nat} {v2 : Int32} {v3 : Int32} {v4 : Int32} {D : xDt} {r : xDt}, xK S v0 12 → f_X12_unite_9 F P S n v0 v2 v3 v4 D = some r → yEx md_X12_unite 1 9 [(0, .ref v0), (2, .int v2), (3, .int v3), (4, .int v4)] [] S D (xQv S r) := by
  intro n
  induction n with
  | zero => intros; rename_i h; cases h
  | succ n ih =>
    intro v0 v2 v3 v4 D r k0 h
    exact t_X12_unite_9s hS (fun k0 h => ih k0 h) k0 h

def f_X12_unite (F P : Nat) (S : xSt) (v0 : Nat) (v1 : Int32) (v2 : Int32) (D : xDt) : Option (xDt) :=
  (f_X12_agentsBits F P S v0 v1 D).bind fun q1 => f_X12_unite_9 F P S F v0 v2 q1.1 0 q1.2
set_option maxHeartbeats 4000000 in
theorem S_X12_unite {F P : Nat} {S : xSt} (hS : xWF S) {v0 : Nat} {v1 : Int32} {v2 : Int32} {D : xDt} {r : xDt} (k0 : xK S v0 12) (h : f_X12_unite F P S v0 v1 v2 D = some r) : xSp md_X12_unite (1, 0, 0) [.ref v0, .int v1, .int v2] (S, D) (xQv S r) := by
  unfold f_X12_unite at h
  refine xEntry (by decide) (Nat.le_of_ble_eq_true rfl) ?_
  refine x_lv (lv' := [(0, .ref v0), (1, .int v1), (2, .int v2)]) [0, 1, 2] rfl ?_
  refine x_aload_n dX12_unite_0 0 rfl ?_
  refine x_iload_n dX12_unite_1 1 rfl ?_
  refine xbnd_e h (fun q1 e1 h => ?_)
  refine y_callVi (As := [.int v1]) (q := q1) cv_RX12_316 dX12_unite_2 k0 rfl (Nat.le_of_ble_eq_true rfl) (by omega) (S_X12_agentsBits hS k0 e1) ?_
  refine y_istore_n q1.1 rfl [(3, .int q1.1), (0, .ref v0), (1, .int v1), (2, .int v2)] dX12_unite_5 (by show _ < 6; decide) rfl ?_
  refine x_iconst 0 dX12_unite_6 (by decide) ?_
  refine y_istore 0 rfl [(4, .int 0), (3, .int q1.1), (0, .ref v0), (1, .int v1), (2, .int v2)] dX12_unite_7 (by show _ < 6; decide) rfl ?_
  refine x_lv (lv' := [(0, .ref v0), (2, .int v2), (3, .int q1.1), (4, .int 0)]) [2, 4, 1, 0] rfl ?_
  exact t_X12_unite_9 hS F k0 h

theorem dX12_sift_0 : decode cX12_sift 0 = .ok (.aload_n 0, 1) := by decide +kernel
theorem dX12_sift_1 : decode cX12_sift 1 = .ok (.getfield 134, 3) := by decide +kernel
theorem dX12_sift_4 : decode cX12_sift 4 = .ok (.iload_n 1, 1) := by decide +kernel
theorem dX12_sift_5 : decode cX12_sift 5 = .ok (.iaload, 1) := by decide +kernel
theorem dX12_sift_6 : decode cX12_sift 6 = .ok (.istore_n 3, 1) := by decide +kernel
theorem dX12_sift_7 : decode cX12_sift 7 = .ok (.iconst 0, 1) := by decide +kernel
theorem dX12_sift_8 : decode cX12_sift 8 = .ok (.istore 4, 2) := by decide +kernel
theorem dX12_sift_10 : decode cX12_sift 10 = .ok (.iload 4, 2) := by decide +kernel
theorem dX12_sift_12 : decode cX12_sift 12 = .ok (.iload_n 2, 1) := by decide +kernel
theorem dX12_sift_13 : decode cX12_sift 13 = .ok (.if_icmp .ge 18, 3) := by decide +kernel
theorem dX12_sift_16 : decode cX12_sift 16 = .ok (.aload_n 0, 1) := by decide +kernel
theorem dX12_sift_17 : decode cX12_sift 17 = .ok (.getfield 144, 3) := by decide +kernel
theorem dX12_sift_20 : decode cX12_sift 20 = .ok (.iload 4, 2) := by decide +kernel
theorem dX12_sift_22 : decode cX12_sift 22 = .ok (.iload 4, 2) := by decide +kernel
theorem dX12_sift_24 : decode cX12_sift 24 = .ok (.iastore, 1) := by decide +kernel
theorem dX12_sift_25 : decode cX12_sift 25 = .ok (.iinc 4 1, 3) := by decide +kernel
theorem dX12_sift_28 : decode cX12_sift 28 = .ok (.goto (-18), 3) := by decide +kernel
theorem dX12_sift_31 : decode cX12_sift 31 = .ok (.iconst 0, 1) := by decide +kernel
theorem dX12_sift_32 : decode cX12_sift 32 = .ok (.istore 4, 2) := by decide +kernel
theorem dX12_sift_34 : decode cX12_sift 34 = .ok (.iload 4, 2) := by decide +kernel
theorem dX12_sift_36 : decode cX12_sift 36 = .ok (.iconst 4, 1) := by decide +kernel
theorem dX12_sift_37 : decode cX12_sift 37 = .ok (.if_icmp .ge 31, 3) := by decide +kernel
theorem dX12_sift_40 : decode cX12_sift 40 = .ok (.aload_n 0, 1) := by decide +kernel
theorem dX12_sift_41 : decode cX12_sift 41 = .ok (.getfield 81, 3) := by decide +kernel
theorem dX12_sift_44 : decode cX12_sift 44 = .ok (.iload_n 3, 1) := by decide +kernel
theorem dX12_sift_45 : decode cX12_sift 45 = .ok (.iaload, 1) := by decide +kernel
theorem dX12_sift_46 : decode cX12_sift 46 = .ok (.iload 4, 2) := by decide +kernel
theorem dX12_sift_48 : decode cX12_sift 48 = .ok (.ishr, 1) := by decide +kernel
theorem dX12_sift_49 : decode cX12_sift 49 = .ok (.iconst 1, 1) := by decide +kernel
theorem dX12_sift_50 : decode cX12_sift 50 = .ok (.iand, 1) := by decide +kernel
theorem dX12_sift_51 : decode cX12_sift 51 = .ok (.iconst 1, 1) := by decide +kernel
theorem dX12_sift_52 : decode cX12_sift 52 = .ok (.if_icmp .ne 10, 3) := by decide +kernel
theorem dX12_sift_55 : decode cX12_sift 55 = .ok (.aload_n 0, 1) := by decide +kernel
theorem dX12_sift_56 : decode cX12_sift 56 = .ok (.iload 4, 2) := by decide +kernel
theorem dX12_sift_58 : decode cX12_sift 58 = .ok (.iload_n 2, 1) := by decide +kernel
theorem dX12_sift_59 : decode cX12_sift 59 = .ok (.invokevirtual 322, 3) := by decide +kernel
theorem dX12_sift_62 : decode cX12_sift 62 = .ok (.iinc 4 1, 3) := by decide +kernel
theorem dX12_sift_65 : decode cX12_sift 65 = .ok (.goto (-31), 3) := by decide +kernel
theorem dX12_sift_68 : decode cX12_sift 68 = .ok (.iconst 0, 1) := by decide +kernel
theorem dX12_sift_69 : decode cX12_sift 69 = .ok (.istore 4, 2) := by decide +kernel
theorem dX12_sift_71 : decode cX12_sift 71 = .ok (.iload 4, 2) := by decide +kernel
theorem dX12_sift_73 : decode cX12_sift 73 = .ok (.iload_n 2, 1) := by decide +kernel
theorem dX12_sift_74 : decode cX12_sift 74 = .ok (.if_icmp .ge 18, 3) := by decide +kernel
theorem dX12_sift_77 : decode cX12_sift 77 = .ok (.aload_n 0, 1) := by decide +kernel
theorem dX12_sift_78 : decode cX12_sift 78 = .ok (.getfield 147, 3) := by decide +kernel
theorem dX12_sift_81 : decode cX12_sift 81 = .ok (.iload 4, 2) := by decide +kernel
theorem dX12_sift_83 : decode cX12_sift 83 = .ok (.bipush (-2), 2) := by decide +kernel
theorem dX12_sift_85 : decode cX12_sift 85 = .ok (.iastore, 1) := by decide +kernel
theorem dX12_sift_86 : decode cX12_sift 86 = .ok (.iinc 4 1, 3) := by decide +kernel
theorem dX12_sift_89 : decode cX12_sift 89 = .ok (.goto (-18), 3) := by decide +kernel
theorem dX12_sift_92 : decode cX12_sift 92 = .ok (.iconst 0, 1) := by decide +kernel
theorem dX12_sift_93 : decode cX12_sift 93 = .ok (.istore 4, 2) := by decide +kernel
theorem dX12_sift_95 : decode cX12_sift 95 = .ok (.iload 4, 2) := by decide +kernel
theorem dX12_sift_97 : decode cX12_sift 97 = .ok (.iload_n 2, 1) := by decide +kernel
theorem dX12_sift_98 : decode cX12_sift 98 = .ok (.if_icmp .ge 46, 3) := by decide +kernel
theorem dX12_sift_101 : decode cX12_sift 101 = .ok (.aload_n 0, 1) := by decide +kernel
theorem dX12_sift_102 : decode cX12_sift 102 = .ok (.getfield 137, 3) := by decide +kernel
theorem dX12_sift_105 : decode cX12_sift 105 = .ok (.iload 4, 2) := by decide +kernel
theorem dX12_sift_107 : decode cX12_sift 107 = .ok (.baload, 1) := by decide +kernel
theorem dX12_sift_108 : decode cX12_sift 108 = .ok (.ifCond .eq 30, 3) := by decide +kernel
theorem dX12_sift_111 : decode cX12_sift 111 = .ok (.aload_n 0, 1) := by decide +kernel
theorem dX12_sift_112 : decode cX12_sift 112 = .ok (.getfield 141, 3) := by decide +kernel
theorem dX12_sift_115 : decode cX12_sift 115 = .ok (.iload 4, 2) := by decide +kernel
theorem dX12_sift_117 : decode cX12_sift 117 = .ok (.iaload, 1) := by decide +kernel
theorem dX12_sift_118 : decode cX12_sift 118 = .ok (.iload_n 1, 1) := by decide +kernel
theorem dX12_sift_119 : decode cX12_sift 119 = .ok (.ishr, 1) := by decide +kernel
theorem dX12_sift_120 : decode cX12_sift 120 = .ok (.iconst 1, 1) := by decide +kernel
theorem dX12_sift_121 : decode cX12_sift 121 = .ok (.iand, 1) := by decide +kernel
theorem dX12_sift_122 : decode cX12_sift 122 = .ok (.ifCond .ne 16, 3) := by decide +kernel
theorem dX12_sift_125 : decode cX12_sift 125 = .ok (.aload_n 0, 1) := by decide +kernel
theorem dX12_sift_126 : decode cX12_sift 126 = .ok (.getfield 147, 3) := by decide +kernel
theorem dX12_sift_129 : decode cX12_sift 129 = .ok (.aload_n 0, 1) := by decide +kernel
theorem dX12_sift_130 : decode cX12_sift 130 = .ok (.iload 4, 2) := by decide +kernel
theorem dX12_sift_132 : decode cX12_sift 132 = .ok (.invokevirtual 319, 3) := by decide +kernel
theorem dX12_sift_135 : decode cX12_sift 135 = .ok (.iload 4, 2) := by decide +kernel
theorem dX12_sift_137 : decode cX12_sift 137 = .ok (.iastore, 1) := by decide +kernel
theorem dX12_sift_138 : decode cX12_sift 138 = .ok (.iinc 4 1, 3) := by decide +kernel
theorem dX12_sift_141 : decode cX12_sift 141 = .ok (.goto (-46), 3) := by decide +kernel
theorem dX12_sift_144 : decode cX12_sift 144 = .ok (.iconst 0, 1) := by decide +kernel
theorem dX12_sift_145 : decode cX12_sift 145 = .ok (.istore 4, 2) := by decide +kernel
theorem dX12_sift_147 : decode cX12_sift 147 = .ok (.iconst 0, 1) := by decide +kernel
theorem dX12_sift_148 : decode cX12_sift 148 = .ok (.istore 5, 2) := by decide +kernel
theorem dX12_sift_150 : decode cX12_sift 150 = .ok (.iload 5, 2) := by decide +kernel
theorem dX12_sift_152 : decode cX12_sift 152 = .ok (.iload_n 2, 1) := by decide +kernel
theorem dX12_sift_153 : decode cX12_sift 153 = .ok (.if_icmp .ge 53, 3) := by decide +kernel
theorem dX12_sift_156 : decode cX12_sift 156 = .ok (.aload_n 0, 1) := by decide +kernel
theorem dX12_sift_157 : decode cX12_sift 157 = .ok (.getfield 137, 3) := by decide +kernel
theorem dX12_sift_160 : decode cX12_sift 160 = .ok (.iload 5, 2) := by decide +kernel
theorem dX12_sift_162 : decode cX12_sift 162 = .ok (.baload, 1) := by decide +kernel
theorem dX12_sift_163 : decode cX12_sift 163 = .ok (.ifCond .eq 37, 3) := by decide +kernel
theorem dX12_sift_166 : decode cX12_sift 166 = .ok (.iload 5, 2) := by decide +kernel
theorem dX12_sift_168 : decode cX12_sift 168 = .ok (.iload_n 1, 1) := by decide +kernel
theorem dX12_sift_169 : decode cX12_sift 169 = .ok (.ishr, 1) := by decide +kernel
theorem dX12_sift_170 : decode cX12_sift 170 = .ok (.iconst 1, 1) := by decide +kernel
theorem dX12_sift_171 : decode cX12_sift 171 = .ok (.iand, 1) := by decide +kernel
theorem dX12_sift_172 : decode cX12_sift 172 = .ok (.ifCond .ne 28, 3) := by decide +kernel
theorem dX12_sift_175 : decode cX12_sift 175 = .ok (.aload_n 0, 1) := by decide +kernel
theorem dX12_sift_176 : decode cX12_sift 176 = .ok (.getfield 147, 3) := by decide +kernel
theorem dX12_sift_179 : decode cX12_sift 179 = .ok (.aload_n 0, 1) := by decide +kernel
theorem dX12_sift_180 : decode cX12_sift 180 = .ok (.iload 5, 2) := by decide +kernel
theorem dX12_sift_182 : decode cX12_sift 182 = .ok (.invokevirtual 319, 3) := by decide +kernel
theorem dX12_sift_185 : decode cX12_sift 185 = .ok (.iaload, 1) := by decide +kernel
theorem dX12_sift_186 : decode cX12_sift 186 = .ok (.ifCond .ge 14, 3) := by decide +kernel
theorem dX12_sift_189 : decode cX12_sift 189 = .ok (.aload_n 0, 1) := by decide +kernel
theorem dX12_sift_190 : decode cX12_sift 190 = .ok (.getfield 137, 3) := by decide +kernel
theorem dX12_sift_193 : decode cX12_sift 193 = .ok (.iload 5, 2) := by decide +kernel
theorem dX12_sift_195 : decode cX12_sift 195 = .ok (.iconst 0, 1) := by decide +kernel
theorem dX12_sift_196 : decode cX12_sift 196 = .ok (.bastore, 1) := by decide +kernel
theorem dX12_sift_197 : decode cX12_sift 197 = .ok (.iconst 1, 1) := by decide +kernel
theorem dX12_sift_198 : decode cX12_sift 198 = .ok (.istore 4, 2) := by decide +kernel
theorem dX12_sift_200 : decode cX12_sift 200 = .ok (.iinc 5 1, 3) := by decide +kernel
theorem dX12_sift_203 : decode cX12_sift 203 = .ok (.goto (-53), 3) := by decide +kernel
theorem dX12_sift_206 : decode cX12_sift 206 = .ok (.iload 4, 2) := by decide +kernel
theorem dX12_sift_208 : decode cX12_sift 208 = .ok (.ireturn, 1) := by decide +kernel
def f_X12_sift_62 (F P : Nat) (S : xSt) (rec_34 : Nat → Int32 → Int32 → Int32 → Int32 → xDt → Option (Int32 × xDt)) (v0 : Nat) (v1 : Int32) (v2 : Int32) (v3 : Int32) (v4 : Int32) (D : xDt) : Option (Int32 × xDt) :=
  xlet (v4 + 1) fun v4_1 => rec_34 v0 v1 v2 v3 v4_1 D
set_option maxHeartbeats 4000000 in
theorem t_X12_sift_62 {F P : Nat} {S : xSt} (hS : xWF S) {rec_34 : Nat → Int32 → Int32 → Int32 → Int32 → xDt → Option (Int32 × xDt)} (hrec_34 : ∀ {v0 : Nat} {v1 : Int32} {v2 : Int32} {v3 : Int32} {v4 : Int32} {D : xDt} {r : Int32 × xDt}, xK S v0 12 → rec_34 v0 v1 v2 v3 v4 D = some r → yEx md_X12_sift 2 34 [(0, .ref v0), (1, .int v1), (2, .int v2), (3, .int v3), (4, .int v4)] [] S D (xQi S r)) {v0 : Nat} {v1 : Int32} {v2 : Int32} {v3 : Int32} {v4 : Int32} {D : xDt} {r : Int32 × xDt} (k0 : xK S v0 12) (h : f_X12_sift_62 F P S rec_34 v0 v1 v2 v3 v4 D = some r) : yEx md_X12_sift 2 62 [(0, .ref v0), (1, .int v1), (2, .int v2), (3, .int v3), (4, .int v4)] [] S D (xQi S r) := by
  unfold f_X12_sift_62 at h
  refine xlet_e h (fun v4_1 ev4_1 h => ?_)
  refine y_iinc v4_1 ev4_1 (by decide) [(4, .int v4_1), (0, .ref v0), (1, .int v1), (2, .int v2), (3, .int v3)] dX12_sift_62 4 rfl (by show _ < 6; decide) rfl ?_
  refine x_goto 34 dX12_sift_65 (by decide) ?_
  refine x_lv (lv' := [(0, .ref v0), (1, .int v1), (2, .int v2), (3, .int v3), (4, .int v4_1)]) [1, 2, 3, 4, 0] rfl ?_
  exact hrec_34 k0 h

def f_X12_sift_138 (F P : Nat) (S : xSt) (rec_95 : Nat → Int32 → Int32 → Int32 → xDt → Option (Int32 × xDt)) (v0 : Nat) (v1 : Int32) (v2 : Int32) (v4 : Int32) (D : xDt) : Option (Int32 × xDt) :=
  xlet (v4 + 1) fun v4_1 => rec_95 v0 v1 v2 v4_1 D
set_option maxHeartbeats 4000000 in
theorem t_X12_sift_138 {F P : Nat} {S : xSt} (hS : xWF S) {rec_95 : Nat → Int32 → Int32 → Int32 → xDt → Option (Int32 × xDt)} (hrec_95 : ∀ {v0 : Nat} {v1 : Int32} {v2 : Int32} {v4 : Int32} {D : xDt} {r : Int32 × xDt}, xK S v0 12 → rec_95 v0 v1 v2 v4 D = some r → yEx md_X12_sift 2 95 [(0, .ref v0), (1, .int v1), (2, .int v2), (4, .int v4)] [] S D (xQi S r)) {v0 : Nat} {v1 : Int32} {v2 : Int32} {v4 : Int32} {D : xDt} {r : Int32 × xDt} (k0 : xK S v0 12) (h : f_X12_sift_138 F P S rec_95 v0 v1 v2 v4 D = some r) : yEx md_X12_sift 2 138 [(0, .ref v0), (1, .int v1), (2, .int v2), (4, .int v4)] [] S D (xQi S r) := by
  unfold f_X12_sift_138 at h
  refine xlet_e h (fun v4_1 ev4_1 h => ?_)
  refine y_iinc v4_1 ev4_1 (by decide) [(4, .int v4_1), (0, .ref v0), (1, .int v1), (2, .int v2)] dX12_sift_138 3 rfl (by show _ < 6; decide) rfl ?_
  refine x_goto 95 dX12_sift_141 (by decide) ?_
  refine x_lv (lv' := [(0, .ref v0), (1, .int v1), (2, .int v2), (4, .int v4_1)]) [1, 2, 3, 0] rfl ?_
  exact hrec_95 k0 h

def f_X12_sift_200 (F P : Nat) (S : xSt) (rec_150 : Nat → Int32 → Int32 → Int32 → Int32 → xDt → Option (Int32 × xDt)) (v0 : Nat) (v1 : Int32) (v2 : Int32) (v4 : Int32) (v5 : Int32) (D : xDt) : Option (Int32 × xDt) :=
  xlet (v5 + 1) fun v5_1 => rec_150 v0 v1 v2 v4 v5_1 D
set_option maxHeartbeats 4000000 in
theorem t_X12_sift_200 {F P : Nat} {S : xSt} (hS : xWF S) {rec_150 : Nat → Int32 → Int32 → Int32 → Int32 → xDt → Option (Int32 × xDt)} (hrec_150 : ∀ {v0 : Nat} {v1 : Int32} {v2 : Int32} {v4 : Int32} {v5 : Int32} {D : xDt} {r : Int32 × xDt}, xK S v0 12 → rec_150 v0 v1 v2 v4 v5 D = some r → yEx md_X12_sift 2 150 [(0, .ref v0), (1, .int v1), (2, .int v2), (4, .int v4), (5, .int v5)] [] S D (xQi S r)) {v0 : Nat} {v1 : Int32} {v2 : Int32} {v4 : Int32} {v5 : Int32} {D : xDt} {r : Int32 × xDt} (k0 : xK S v0 12) (h : f_X12_sift_200 F P S rec_150 v0 v1 v2 v4 v5 D = some r) : yEx md_X12_sift 2 200 [(0, .ref v0), (1, .int v1), (2, .int v2), (4, .int v4), (5, .int v5)] [] S D (xQi S r) := by
  unfold f_X12_sift_200 at h
  refine xlet_e h (fun v5_1 ev5_1 h => ?_)
  refine y_iinc v5_1 ev5_1 (by decide) [(5, .int v5_1), (0, .ref v0), (1, .int v1), (2, .int v2), (4, .int v4)] dX12_sift_200 4 rfl (by show _ < 6; decide) rfl ?_
  refine x_goto 150 dX12_sift_203 (by decide) ?_
  refine x_lv (lv' := [(0, .ref v0), (1, .int v1), (2, .int v2), (4, .int v4), (5, .int v5_1)]) [1, 2, 3, 4, 0] rfl ?_
  exact hrec_150 k0 h

def f_X12_sift_150s (F P : Nat) (S : xSt) (rec_150 : Nat → Int32 → Int32 → Int32 → Int32 → xDt → Option (Int32 × xDt)) (v0 : Nat) (v1 : Int32) (v2 : Int32) (v4 : Int32) (v5 : Int32) (D : xDt) : Option (Int32 × xDt) :=
  if v2 ≤ v5 then (xgrd (xb v4) (some (v4, D))) else (xgrd (xin v5 (xl S (xr S v0 39))) (if (D.1 (xr S v0 39) (v5).toNatClampNeg) = 0 then (f_X12_sift_200 F P S rec_150 v0 v1 v2 v4 v5 D) else (if ((jishr v5 v1) &&& 1) = 0 then ((f_X12_root F P S v0 v5 D).bind fun q3 => xgrd (xin q3.1 (xl S (xr S v0 42))) (if 0 ≤ (q3.2.1 (xr S v0 42) (q3.1).toNatClampNeg) then (f_X12_sift_200 F P S rec_150 v0 v1 v2 v4 v5 q3.2) else (xgrd (xin v5 (xl S (xr S v0 39))) (xlet (xup q3.2.1 (xr S v0 39) (v5).toNatClampNeg (0 &&& 1), q3.2.2) fun D6 => f_X12_sift_200 F P S rec_150 v0 v1 v2 1 v5 D6)))) else (f_X12_sift_200 F P S rec_150 v0 v1 v2 v4 v5 D))))
def f_X12_sift_150 (F P : Nat) (S : xSt) : Nat → Nat → Int32 → Int32 → Int32 → Int32 → xDt → Option (Int32 × xDt)
  | 0 => fun _ _ _ _ _ _ => none
  | n + 1 => f_X12_sift_150s F P S (f_X12_sift_150 F P S n)
set_option maxHeartbeats 4000000 in
theorem t_X12_sift_150s {F P : Nat} {S : xSt} (hS : xWF S) {rec_150 : Nat → Int32 → Int32 → Int32 → Int32 → xDt → Option (Int32 × xDt)} (hrec_150 : ∀ {v0 : Nat} {v1 : Int32} {v2 : Int32} {v4 : Int32} {v5 : Int32} {D : xDt} {r : Int32 × xDt}, xK S v0 12 → rec_150 v0 v1 v2 v4 v5 D = some r → yEx md_X12_sift 2 150 [(0, .ref v0), (1, .int v1), (2, .int v2), (4, .int v4), (5, .int v5)] [] S D (xQi S r)) {v0 : Nat} {v1 : Int32} {v2 : Int32} {v4 : Int32} {v5 : Int32} {D : xDt} {r : Int32 × xDt} (k0 : xK S v0 12) (h : f_X12_sift_150s F P S rec_150 v0 v1 v2 v4 v5 D = some r) : yEx md_X12_sift 2 150 [(0, .ref v0), (1, .int v1), (2, .int v2), (4, .int v4), (5, .int v5)] [] S D (xQi S r) := by
  unfold f_X12_sift_150s at h
  refine x_iload dX12_sift_150 4 rfl ?_
  refine x_iload_n dX12_sift_152 2 rfl ?_
  refine x_icmp_ge 206 dX12_sift_153 (by decide) (fun c => ?_) (fun c => ?_)
  · rw [if_pos c] at h
    refine x_iload dX12_sift_206 3 rfl ?_
    refine xgrd_e h (fun g1 h => ?_)
    obtain rfl := Option.some.inj h
    exact y_zret rfl g1 dX12_sift_208
  · rw [if_neg c] at h
    refine x_aload_n dX12_sift_156 0 rfl ?_
    refine y_getr (kd := 104) hS fl_RX12_137 dX12_sift_157 rfl k0 ?_
    refine x_iload dX12_sift_160 4 rfl ?_
    refine xgrd_e h (fun g2 h => ?_)
    refine y_zald dX12_sift_162 ((hS.f k0 39 104 rfl).2) g2 ?_
    refine x_if_eq 200 dX12_sift_163 (by decide) (fun c => ?_) (fun c => ?_)
    · rw [if_pos c] at h
      exact t_X12_sift_200 hS hrec_150 k0 h
    · rw [if_neg c] at h
      refine x_iload dX12_sift_166 4 rfl ?_
      refine x_iload_n dX12_sift_168 1 rfl ?_
      refine x_ishr dX12_sift_169 ?_
      refine x_iconst 1 dX12_sift_170 (by decide) ?_
      refine x_iand dX12_sift_171 ?_
      refine x_if_ne 200 dX12_sift_172 (by decide) (fun c => ?_) (fun c => ?_)
      · rw [if_neg c] at h
        exact t_X12_sift_200 hS hrec_150 k0 h
      · rw [if_pos c] at h
        refine x_aload_n dX12_sift_175 0 rfl ?_
        refine y_getr (kd := 100) hS fl_RX12_147 dX12_sift_176 rfl k0 ?_
        refine x_aload_n dX12_sift_179 0 rfl ?_
        refine x_iload dX12_sift_180 4 rfl ?_
        refine xbnd_e h (fun q3 e3 h => ?_)
        refine y_callVi (As := [.int v5]) (q := q3) cv_RX12_319 dX12_sift_182 k0 rfl (Nat.le_of_ble_eq_true rfl) (by omega) (S_X12_root hS k0 e3) ?_
        refine xgrd_e h (fun g4 h => ?_)
        refine y_iald dX12_sift_185 ((hS.f k0 42 100 rfl).2) g4 ?_
        refine x_if_ge 200 dX12_sift_186 (by decide) (fun c => ?_) (fun c => ?_)
        · rw [if_pos c] at h
          exact t_X12_sift_200 hS hrec_150 k0 h
        · rw [if_neg c] at h
          refine x_aload_n dX12_sift_189 0 rfl ?_
          refine y_getr (kd := 104) hS fl_RX12_137 dX12_sift_190 rfl k0 ?_
          refine x_iload dX12_sift_193 4 rfl ?_
          refine x_iconst 0 dX12_sift_195 (by decide) ?_
          refine xgrd_e h (fun g5 h => ?_)
          refine xlet_e h (fun D6 eD6 h => ?_)
          refine y_zast dX12_sift_196 ((hS.f k0 39 104 rfl).2) g5 eD6 ?_
          refine x_iconst 1 dX12_sift_197 (by decide) ?_
          refine y_istore 1 rfl [(4, .int 1), (0, .ref v0), (1, .int v1), (2, .int v2), (5, .int v5)] dX12_sift_198 (by show _ < 6; decide) rfl ?_
          refine x_lv (lv' := [(0, .ref v0), (1, .int v1), (2, .int v2), (4, .int 1), (5, .int v5)]) [1, 2, 3, 0, 4] rfl ?_
          exact t_X12_sift_200 hS hrec_150 k0 h
theorem t_X12_sift_150 {F P : Nat} {S : xSt} (hS : xWF S) : ∀ (n : Nat) {v0 : Nat} {v1 : Int32} {v2 : Int32} {v4 : Int32} {v5 : Int32} {D : xDt} {r : Int32 × xDt}, xK S v0 12 → f_X12_sift_150 F P S n v0 v1 v2 v4 v5 D = some r → yEx md_X12_sift 2 150 [(0, .ref v0), (1, .int v1), (2, .int v2), (4, .int v4), (5, .int v5)] [] S D (xQi S r) := by
  intro n
  induction n with
  | zero => intros; rename_i h; cases h
  | succ n ih =>
    intro v0 v1 v2 v4 v5 D r k0 h
    exact t_X12_sift_150s hS (fun k0 h => ih k0 h) k0 h

def f_X12_sift_95s (F P : Nat) (S : xSt) (rec_95 : Nat → Int32 → Int32 → Int32 → xDt → Option (Int32 × xDt)) (v0 : Nat) (v1 : Int32) (v2 : Int32) (v4 : Int32) (D : xDt) : Option (Int32 × xDt) :=
  if v2 ≤ v4 then (f_X12_sift_150 F P S F v0 v1 v2 0 0 D) else (xgrd (xin v4 (xl S (xr S v0 39))) (if (D.1 (xr S v0 39) (v4).toNatClampNeg) = 0 then (f_X12_sift_138 F P S rec_95 v0 v1 v2 v4 D) else (xgrd (xin v4 (xl S (xr S v0 40))) (if ((jishr (D.1 (xr S v0 40) (v4).toNatClampNeg) v1) &&& 1) = 0 then ((f_X12_root F P S v0 v4 D).bind fun q3 => xgrd (xin q3.1 (xl S (xr S v0 42))) (xlet (xup q3.2.1 (xr S v0 42) (q3.1).toNatClampNeg v4, q3.2.2) fun D5 => f_X12_sift_138 F P S rec_95 v0 v1 v2 v4 D5)) else (f_X12_sift_138 F P S rec_95 v0 v1 v2 v4 D)))))
def f_X12_sift_95 (F P : Nat) (S : xSt) : Nat → Nat → Int32 → Int32 → Int32 → xDt → Option (Int32 × xDt)
  | 0 => fun _ _ _ _ _ => none
  | n + 1 => f_X12_sift_95s F P S (f_X12_sift_95 F P S n)
set_option maxHeartbeats 4000000 in
theorem t_X12_sift_95s {F P : Nat} {S : xSt} (hS : xWF S) {rec_95 : Nat → Int32 → Int32 → Int32 → xDt → Option (Int32 × xDt)} (hrec_95 : ∀ {v0 : Nat} {v1 : Int32} {v2 : Int32} {v4 : Int32} {D : xDt} {r : Int32 × xDt}, xK S v0 12 → rec_95 v0 v1 v2 v4 D = some r → yEx md_X12_sift 2 95 [(0, .ref v0), (1, .int v1), (2, .int v2), (4, .int v4)] [] S D (xQi S r)) {v0 : Nat} {v1 : Int32} {v2 : Int32} {v4 : Int32} {D : xDt} {r : Int32 × xDt} (k0 : xK S v0 12) (h : f_X12_sift_95s F P S rec_95 v0 v1 v2 v4 D = some r) : yEx md_X12_sift 2 95 [(0, .ref v0), (1, .int v1), (2, .int v2), (4, .int v4)] [] S D (xQi S r) := by
  unfold f_X12_sift_95s at h
  refine x_iload dX12_sift_95 3 rfl ?_
  refine x_iload_n dX12_sift_97 2 rfl ?_
  refine x_icmp_ge 144 dX12_sift_98 (by decide) (fun c => ?_) (fun c => ?_)
  · rw [if_pos c] at h
    refine x_iconst 0 dX12_sift_144 (by decide) ?_
    refine y_istore 0 rfl [(4, .int 0), (0, .ref v0), (1, .int v1), (2, .int v2)] dX12_sift_145 (by show _ < 6; decide) rfl ?_
    refine x_iconst 0 dX12_sift_147 (by decide) ?_
    refine y_istore 0 rfl [(5, .int 0), (4, .int 0), (0, .ref v0), (1, .int v1), (2, .int v2)] dX12_sift_148 (by show _ < 6; decide) rfl ?_
    refine x_lv (lv' := [(0, .ref v0), (1, .int v1), (2, .int v2), (4, .int 0), (5, .int 0)]) [2, 3, 4, 1, 0] rfl ?_
    exact t_X12_sift_150 hS F k0 h
  · rw [if_neg c] at h
    refine x_aload_n dX12_sift_101 0 rfl ?_
    refine y_getr (kd := 104) hS fl_RX12_137 dX12_sift_102 rfl k0 ?_
    refine x_iload dX12_sift_105 3 rfl ?_
    refine xgrd_e h (fun g1 h => ?_)
    refine y_zald dX12_sift_107 ((hS.f k0 39 104 rfl).2) g1 ?_
    refine x_if_eq 138 dX12_sift_108 (by decide) (fun c => ?_) (fun c => ?_)
    · rw [if_pos c] at h
      exact t_X12_sift_138 hS hrec_95 k0 h
    · rw [if_neg c] at h
      refine x_aload_n dX12_sift_111 0 rfl ?_
      refine y_getr (kd := 100) hS fl_RX12_141 dX12_sift_112 rfl k0 ?_
      refine x_iload dX12_sift_115 3 rfl ?_
      refine xgrd_e h (fun g2 h => ?_)
      refine y_iald dX12_sift_117 ((hS.f k0 40 100 rfl).2) g2 ?_
      refine x_iload_n dX12_sift_118 1 rfl ?_
      refine x_ishr dX12_sift_119 ?_
      refine x_iconst 1 dX12_sift_120 (by decide) ?_
      refine x_iand dX12_sift_121 ?_
      refine x_if_ne 138 dX12_sift_122 (by decide) (fun c => ?_) (fun c => ?_)
      · rw [if_neg c] at h
        exact t_X12_sift_138 hS hrec_95 k0 h
      · rw [if_pos c] at h
        refine x_aload_n dX12_sift_125 0 rfl ?_
        refine y_getr (kd := 100) hS fl_RX12_147 dX12_sift_126 rfl k0 ?_
        refine x_aload_n dX12_sift_129 0 rfl ?_
        refine x_iload dX12_sift_130 3 rfl ?_
        refine xbnd_e h (fun q3 e3 h => ?_)
        refine y_callVi (As := [.int v4]) (q := q3) cv_RX12_319 dX12_sift_132 k0 rfl (Nat.le_of_ble_eq_true rfl) (by omega) (S_X12_root hS k0 e3) ?_
        refine x_iload dX12_sift_135 3 rfl ?_
        refine xgrd_e h (fun g4 h => ?_)
        refine xlet_e h (fun D5 eD5 h => ?_)
        refine y_iast dX12_sift_137 ((hS.f k0 42 100 rfl).2) g4 eD5 ?_
        exact t_X12_sift_138 hS hrec_95 k0 h
theorem t_X12_sift_95 {F P : Nat} {S : xSt} (hS : xWF S) : ∀ (n : Nat) {v0 : Nat} {v1 : Int32} {v2 : Int32} {v4 : Int32} {D : xDt} {r : Int32 × xDt}, xK S v0 12 → f_X12_sift_95 F P S n v0 v1 v2 v4 D = some r → yEx md_X12_sift 2 95 [(0, .ref v0), (1, .int v1), (2, .int v2), (4, .int v4)] [] S D (xQi S r) := by
  intro n
  induction n with
  | zero => intros; rename_i h; cases h
  | succ n ih =>
    intro v0 v1 v2 v4 D r k0 h
    exact t_X12_sift_95s hS (fun k0 h => ih k0 h) k0 h

def f_X12_sift_71s (F P : Nat) (S : xSt) (rec_71 : Nat → Int32 → Int32 → Int32 → xDt → Option (Int32 × xDt)) (v0 : Nat) (v1 : Int32) (v2 : Int32) (v4 : Int32) (D : xDt) : Option (Int32 × xDt) :=
  if v2 ≤ v4 then (f_X12_sift_95 F P S F v0 v1 v2 0 D) else (xgrd (xin v4 (xl S (xr S v0 42))) (xlet (xup D.1 (xr S v0 42) (v4).toNatClampNeg (-2), D.2) fun D2 => xlet (v4 + 1) fun v4_3 => rec_71 v0 v1 v2 v4_3 D2))
def f_X12_sift_71 (F P : Nat) (S : xSt) : Nat → Nat → Int32 → Int32 → Int32 → xDt → Option (Int32 × xDt)
  | 0 => fun _ _ _ _ _ => none
  | n + 1 => f_X12_sift_71s F P S (f_X12_sift_71 F P S n)
set_option maxHeartbeats 4000000 in
theorem t_X12_sift_71s {F P : Nat} {S : xSt} (hS : xWF S) {rec_71 : Nat → Int32 → Int32 → Int32 → xDt → Option (Int32 × xDt)} (hrec_71 : ∀ {v0 : Nat} {v1 : Int32} {v2 : Int32} {v4 : Int32} {D : xDt} {r : Int32 × xDt}, xK S v0 12 → rec_71 v0 v1 v2 v4 D = some r → yEx md_X12_sift 2 71 [(0, .ref v0), (1, .int v1), (2, .int v2), (4, .int v4)] [] S D (xQi S r)) {v0 : Nat} {v1 : Int32} {v2 : Int32} {v4 : Int32} {D : xDt} {r : Int32 × xDt} (k0 : xK S v0 12) (h : f_X12_sift_71s F P S rec_71 v0 v1 v2 v4 D = some r) : yEx md_X12_sift 2 71 [(0, .ref v0), (1, .int v1), (2, .int v2), (4, .int v4)] [] S D (xQi S r) := by
  unfold f_X12_sift_71s at h
  refine x_iload dX12_sift_71 3 rfl ?_
  refine x_iload_n dX12_sift_73 2 rfl ?_
  refine x_icmp_ge 92 dX12_sift_74 (by decide) (fun c => ?_) (fun c => ?_)
  · rw [if_pos c] at h
    refine x_iconst 0 dX12_sift_92 (by decide) ?_
    refine y_istore 0 rfl [(4, .int 0), (0, .ref v0), (1, .int v1), (2, .int v2)] dX12_sift_93 (by show _ < 6; decide) rfl ?_
    refine x_lv (lv' := [(0, .ref v0), (1, .int v1), (2, .int v2), (4, .int 0)]) [1, 2, 3, 0] rfl ?_
    exact t_X12_sift_95 hS F k0 h
  · rw [if_neg c] at h
    refine x_aload_n dX12_sift_77 0 rfl ?_
    refine y_getr (kd := 100) hS fl_RX12_147 dX12_sift_78 rfl k0 ?_
    refine x_iload dX12_sift_81 3 rfl ?_
    refine x_bipush (-2) dX12_sift_83 (by decide) ?_
    refine xgrd_e h (fun g1 h => ?_)
    refine xlet_e h (fun D2 eD2 h => ?_)
    refine y_iast dX12_sift_85 ((hS.f k0 42 100 rfl).2) g1 eD2 ?_
    refine xlet_e h (fun v4_3 ev4_3 h => ?_)
    refine y_iinc v4_3 ev4_3 (by decide) [(4, .int v4_3), (0, .ref v0), (1, .int v1), (2, .int v2)] dX12_sift_86 3 rfl (by show _ < 6; decide) rfl ?_
    refine x_goto 71 dX12_sift_89 (by decide) ?_
    refine x_lv (lv' := [(0, .ref v0), (1, .int v1), (2, .int v2), (4, .int v4_3)]) [1, 2, 3, 0] rfl ?_
    exact hrec_71 k0 h
theorem t_X12_sift_71 {F P : Nat} {S : xSt} (hS : xWF S) : ∀ (n : Nat) {v0 : Nat} {v1 : Int32} {v2 : Int32} {v4 : Int32} {D : xDt} {r : Int32 × xDt}, xK S v0 12 → f_X12_sift_71 F P S n v0 v1 v2 v4 D = some r → yEx md_X12_sift 2 71 [(0, .ref v0), (1, .int v1), (2, .int v2), (4, .int v4)] [] S D (xQi S r) := by
  intro n
  induction n with
  | zero => intros; rename_i h; cases h
  | succ n ih =>
    intro v0 v1 v2 v4 D r k0 h
    exact t_X12_sift_71s hS (fun k0 h => ih k0 h) k0 h

def f_X12_sift_34s (F P : Nat) (S : xSt) (rec_34 : Nat → Int32 → Int32 → Int32 → Int32 → xDt → Option (Int32 × xDt)) (v0 : Nat) (v1 : Int32) (v2 : Int32) (v3 : Int32) (v4 : Int32) (D : xDt) : Option (Int32 × xDt) :=
  if 4 ≤ v4 then (f_X12_sift_71 F P S F v0 v1 v2 0 D) else (xgrd (xin v3 (xl S (xr S v0 11))) (if ((jishr (D.1 (xr S v0 11) (v3).toNatClampNeg) v4) &&& 1) = 1 then ((f_X12_unite F P S v0 v4 v2 D).bind fun q2 => f_X12_sift_62 F P S rec_34 v0 v1 v2 v3 v4 q2) else (f_X12_sift_62 F P S rec_34 v0 v1 v2 v3 v4 D)))
def f_X12_sift_34 (F P : Nat) (S : xSt) : Nat → Nat → Int32 → Int32 → Int32 → Int32 → xDt → Option (Int32 × xDt)
  | 0 => fun _ _ _ _ _ _ => none
  | n + 1 => f_X12_sift_34s F P S (f_X12_sift_34 F P S n)
set_option maxHeartbeats 4000000 in
theorem t_X12_sift_34s {F P : Nat} {S : xSt} (hS : xWF S) {rec_34 : Nat → Int32 → Int32 → Int32 → Int32 → xDt → Option (Int32 × xDt)} (hrec_34 : ∀ {v0 : Nat} {v1 : Int32} {v2 : Int32} {v3 : Int32} {v4 : Int32} {D : xDt} {r : Int32 × xDt}, xK S v0 12 → rec_34 v0 v1 v2 v3 v4 D = some r → yEx md_X12_sift 2 34 [(0, .ref v0), (1, .int v1), (2, .int v2), (3, .int v3), (4, .int v4)] [] S D (xQi S r)) {v0 : Nat} {v1 : Int32} {v2 : Int32} {v3 : Int32} {v4 : Int32} {D : xDt} {r : Int32 × xDt} (k0 : xK S v0 12) (h : f_X12_sift_34s F P S rec_34 v0 v1 v2 v3 v4 D = some r) : yEx md_X12_sift 2 34 [(0, .ref v0), (1, .int v1), (2, .int v2), (3, .int v3), (4, .int v4)] [] S D (xQi S r) := by
  unfold f_X12_sift_34s at h
  refine x_iload dX12_sift_34 4 rfl ?_
  refine x_iconst 4 dX12_sift_36 (by decide) ?_
  refine x_icmp_ge 68 dX12_sift_37 (by decide) (fun c => ?_) (fun c => ?_)
  · rw [if_pos c] at h
    refine x_iconst 0 dX12_sift_68 (by decide) ?_
    refine y_istore 0 rfl [(4, .int 0), (0, .ref v0), (1, .int v1), (2, .int v2), (3, .int v3)] dX12_sift_69 (by show _ < 6; decide) rfl ?_
    refine x_lv (lv' := [(0, .ref v0), (1, .int v1), (2, .int v2), (4, .int 0)]) [1, 2, 3, 0] rfl ?_
    exact t_X12_sift_71 hS F k0 h
  · rw [if_neg c] at h
    refine x_aload_n dX12_sift_40 0 rfl ?_
    refine y_getr (kd := 100) hS fl_RX12_81 dX12_sift_41 rfl k0 ?_
    refine x_iload_n dX12_sift_44 3 rfl ?_
    refine xgrd_e h (fun g1 h => ?_)
    refine y_iald dX12_sift_45 ((hS.f k0 11 100 rfl).2) g1 ?_
    refine x_iload dX12_sift_46 4 rfl ?_
    refine x_ishr dX12_sift_48 ?_
    refine x_iconst 1 dX12_sift_49 (by decide) ?_
    refine x_iand dX12_sift_50 ?_
    refine x_iconst 1 dX12_sift_51 (by decide) ?_
    refine x_icmp_ne 62 dX12_sift_52 (by decide) (fun c => ?_) (fun c => ?_)
    · rw [if_neg c] at h
      exact t_X12_sift_62 hS hrec_34 k0 h
    · rw [if_pos c] at h
      refine x_aload_n dX12_sift_55 0 rfl ?_
      refine x_iload dX12_sift_56 4 rfl ?_
      refine x_iload_n dX12_sift_58 2 rfl ?_
      refine xbnd_e h (fun q2 e2 h => ?_)
      refine y_callVv (As := [.int v4, .int v2]) (q := q2) cv_RX12_322 dX12_sift_59 k0 rfl (Nat.le_of_ble_eq_true rfl) (by omega) (S_X12_unite hS k0 e2) ?_
      exact t_X12_sift_62 hS hrec_34 k0 h
theorem t_X12_sift_34 {F P : Nat} {S : xSt} (hS : xWF S) : ∀ (n : Nat) {v0 : Nat} {v1 : Int32} {v2 : Int32} {v3 : Int32} {v4 : Int32} {D : xDt} {r : Int32 × xDt}, xK S v0 12 → f_X12_sift_34 F P S n v0 v1 v2 v3 v4 D = some r → yEx md_X12_sift 2 34 [(0, .ref v0), (1, .int v1), (2, .int v2), (3, .int v3), (4, .int v4)] [] S D (xQi S r) := by
  intro n
  induction n with
  | zero => intros; rename_i h; cases h
  | succ n ih =>
    intro v0 v1 v2 v3 v4 D r k0 h
    exact t_X12_sift_34s hS (fun k0 h => ih k0 h) k0 h

def f_X12_sift_10s (F P : Nat) (S : xSt) (rec_10 : Nat → Int32 → Int32 → Int32 → Int32 → xDt → Option (Int32 × xDt)) (v0 : Nat) (v1 : Int32) (v2 : Int32) (v3 : Int32) (v4 : Int32) (D : xDt) : Option (Int32 × xDt) :=
  if v2 ≤ v4 then (f_X12_sift_34 F P S F v0 v1 v2 v3 0 D) else (xgrd (xin v4 (xl S (xr S v0 41))) (xlet (xup D.1 (xr S v0 41) (v4).toNatClampNeg v4, D.2) fun D2 => xlet (v4 + 1) fun v4_3 => rec_10 v0 v1 v2 v3 v4_3 D2))
def f_X12_sift_10 (F P : Nat) (S : xSt) : Nat → Nat → Int32 → Int32 → Int32 → Int32 → xDt → Option (Int32 × xDt)
  | 0 => fun _ _ _ _ _ _ => none
  | n + 1 => f_X12_sift_10s F P S (f_X12_sift_10 F P S n)
set_option maxHeartbeats 4000000 in
theorem t_X12_sift_10s {F P : Nat} {S : xSt} (hS : xWF S) {rec_10 : Nat → Int32 → Int32 → Int32 → Int32 → xDt → Option (Int32 × xDt)} (hrec_10 : ∀ {v0 : Nat} {v1 : Int32} {v2 : Int32} {v3 : Int32} {v4 : Int32} {D : xDt} {r : Int32 × xDt}, xK S v0 12 → rec_10 v0 v1 v2 v3 v4 D = some r → yEx md_X12_sift 2 10 [(0, .ref v0), (1, .int v1), (2, .int v2), (3, .int v3), (4, .int v4)] [] S D (xQi S r)) {v0 : Nat} {v1 : Int32} {v2 : Int32} {v3 : Int32} {v4 : Int32} {D : xDt} {r : Int32 × xDt} (k0 : xK S v0 12) (h : f_X12_sift_10s F P S rec_10 v0 v1 v2 v3 v4 D = some r) : yEx md_X12_sift 2 10 [(0, .ref v0), (1, .int v1), (2, .int v2), (3, .int v3), (4, .int v4)] [] S D (xQi S r) := by
  unfold f_X12_sift_10s at h
  refine x_iload dX12_sift_10 4 rfl ?_
  refine x_iload_n dX12_sift_12 2 rfl ?_
  refine x_icmp_ge 31 dX12_sift_13 (by decide) (fun c => ?_) (fun c => ?_)
  · rw [if_pos c] at h
    refine x_iconst 0 dX12_sift_31 (by decide) ?_
    refine y_istore 0 rfl [(4, .int 0), (0, .ref v0), (1, .int v1), (2, .int v2), (3, .int v3)] dX12_sift_32 (by show _ < 6; decide) rfl ?_
    refine x_lv (lv' := [(0, .ref v0), (1, .int v1), (2, .int v2), (3, .int v3), (4, .int 0)]) [1, 2, 3, 4, 0] rfl ?_
    exact t_X12_sift_34 hS F k0 h
  · rw [if_neg c] at h
    refine x_aload_n dX12_sift_16 0 rfl ?_
    refine y_getr (kd := 100) hS fl_RX12_144 dX12_sift_17 rfl k0 ?_
    refine x_iload dX12_sift_20 4 rfl ?_
    refine x_iload dX12_sift_22 4 rfl ?_
    refine xgrd_e h (fun g1 h => ?_)
    refine xlet_e h (fun D2 eD2 h => ?_)
    refine y_iast dX12_sift_24 ((hS.f k0 41 100 rfl).2) g1 eD2 ?_
    refine xlet_e h (fun v4_3 ev4_3 h => ?_)
    refine y_iinc v4_3 ev4_3 (by decide) [(4, .int v4_3), (0, .ref v0), (1, .int v1), (2, .int v2), (3, .int v3)] dX12_sift_25 4 rfl (by show _ < 6; decide) rfl ?_
    refine x_goto 10 dX12_sift_28 (by decide) ?_
    refine x_lv (lv' := [(0, .ref v0), (1, .int v1), (2, .int v2), (3, .int v3), (4, .int v4_3)]) [1, 2, 3, 4, 0] rfl ?_
    exact hrec_10 k0 h
theorem t_X12_sift_10 {F P : Nat} {S : xSt} (hS : xWF S) : ∀ (n : Nat) {v0 : Nat} {v1 : Int32} {v2 : Int32} {v3 : Int32} {v4 : Int32} {D : xDt} {r : Int32 × xDt}, xK S v0 12 → f_X12_sift_10 F P S n v0 v1 v2 v3 v4 D = some r → yEx md_X12_sift 2 10 [(0, .ref v0), (1, .int v1), (2, .int v2), (3, .int v3), (4, .int v4)] [] S D (xQi S r) := by
  intro n
  induction n with
  | zero => intros; rename_i h; cases h
  | succ n ih =>
    intro v0 v1 v2 v3 v4 D r k0 h
    exact t_X12_sift_10s hS (fun k0 h => ih k0 h) k0 h

def f_X12_sift (F P : Nat) (S : xSt) (v0 : Nat) (v1 : Int32) (v2 : Int32) (D : xDt) : Option (Int32 × xDt) :=
  xgrd (xin v1 (xl S (xr S v0 37))) (xlet (D.1 (xr S v0 37) (v1).toNatClampNeg) fun v3_2 => f_X12_sift_10 F P S F v0 v1 v2 v3_2 0 D)
set_option maxHeartbeats 4000000 in
theorem S_X12_sift {F P : Nat} {S : xSt} (hS : xWF S) {v0 : Nat} {v1 : Int32} {v2 : Int32} {D : xDt} {r : Int32 × xDt} (k0 : xK S v0 12) (h : f_X12_sift F P S v0 v1 v2 D = some r) : xSp md_X12_sift (2, 0, 0) [.ref v0, .int v1, .int v2] (S, D) (xQi S r) := by
  unfold f_X12_sift at h
  refine xEntry (by decide) (Nat.le_of_ble_eq_true rfl) ?_
  refine x_lv (lv' := [(0, .ref v0), (1, .int v1), (2, .int v2)]) [0, 1, 2] rfl ?_
  refine x_aload_n dX12_sift_0 0 rfl ?_
  refine y_getr (kd := 100) hS fl_RX12_134 dX12_sift_1 rfl k0 ?_
  refine x_iload_n dX12_sift_4 1 rfl ?_
  refine xgrd_e h (fun g1 h => ?_)
  refine y_iald dX12_sift_5 ((hS.f k0 37 100 rfl).2) g1 ?_
  refine xlet_e h (fun v3_2 ev3_2 h => ?_)
  refine y_istore_n v3_2 ev3_2 [(3, .int v3_2), (0, .ref v0), (1, .int v1), (2, .int v2)] dX12_sift_6 (by show _ < 6; decide) rfl ?_
  refine x_iconst 0 dX12_sift_7 (by decide) ?_
  refine y_istore 0 rfl [(4, .int 0), (3, .int v3_2), (0, .ref v0), (1, .int v1), (2, .int v2)] dX12_sift_8 (by show _ < 6; decide) rfl ?_
  refine x_lv (lv' := [(0, .ref v0), (1, .int v1), (2, .int v2), (3, .int v3_2), (4, .int 0)]) [2, 3, 4, 1, 0] rfl ?_
  exact t_X12_sift_10 hS F k0 h

