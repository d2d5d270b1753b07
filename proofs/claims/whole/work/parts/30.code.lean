/-! printed by wip/whole/gen.py: the methods as plain functions, each proved to be what its bytecode does -/
theorem dX12_known_0 : decode cX12_known 0 = .ok (.lconst 0, 1) := by decide +kernel
theorem dX12_known_1 : decode cX12_known 1 = .ok (.lstore 7, 2) := by decide +kernel
theorem dX12_known_3 : decode cX12_known 3 = .ok (.iconst 0, 1) := by decide +kernel
theorem dX12_known_4 : decode cX12_known 4 = .ok (.istore 9, 2) := by decide +kernel
theorem dX12_known_6 : decode cX12_known 6 = .ok (.iload 9, 2) := by decide +kernel
theorem dX12_known_8 : decode cX12_known 8 = .ok (.aload_n 0, 1) := by decide +kernel
theorem dX12_known_9 : decode cX12_known 9 = .ok (.getfield 7, 3) := by decide +kernel
theorem dX12_known_12 : decode cX12_known 12 = .ok (.if_icmp .ge 149, 3) := by decide +kernel
theorem dX12_known_15 : decode cX12_known 15 = .ok (.lload 5, 2) := by decide +kernel
theorem dX12_known_17 : decode cX12_known 17 = .ok (.iload 9, 2) := by decide +kernel
theorem dX12_known_19 : decode cX12_known 19 = .ok (.lushr, 1) := by decide +kernel
theorem dX12_known_20 : decode cX12_known 20 = .ok (.lconst 1, 1) := by decide +kernel
theorem dX12_known_21 : decode cX12_known 21 = .ok (.land, 1) := by decide +kernel
theorem dX12_known_22 : decode cX12_known 22 = .ok (.lconst 1, 1) := by decide +kernel
theorem dX12_known_23 : decode cX12_known 23 = .ok (.lcmp, 1) := by decide +kernel
theorem dX12_known_24 : decode cX12_known 24 = .ok (.ifCond .ne 131, 3) := by decide +kernel
theorem dX12_known_27 : decode cX12_known 27 = .ok (.iload_n 1, 1) := by decide +kernel
theorem dX12_known_28 : decode cX12_known 28 = .ok (.bipush 8, 2) := by decide +kernel
theorem dX12_known_30 : decode cX12_known 30 = .ok (.if_icmp .ne 17, 3) := by decide +kernel
theorem dX12_known_33 : decode cX12_known 33 = .ok (.aload_n 0, 1) := by decide +kernel
theorem dX12_known_34 : decode cX12_known 34 = .ok (.iload_n 2, 1) := by decide +kernel
theorem dX12_known_35 : decode cX12_known 35 = .ok (.lconst 1, 1) := by decide +kernel
theorem dX12_known_36 : decode cX12_known 36 = .ok (.iload 9, 2) := by decide +kernel
theorem dX12_known_38 : decode cX12_known 38 = .ok (.lshl, 1) := by decide +kernel
theorem dX12_known_39 : decode cX12_known 39 = .ok (.lload 5, 2) := by decide +kernel
theorem dX12_known_41 : decode cX12_known 41 = .ok (.invokevirtual 229, 3) := by decide +kernel
theorem dX12_known_44 : decode cX12_known 44 = .ok (.goto 16, 3) := by decide +kernel
theorem dX12_known_47 : decode cX12_known 47 = .ok (.iload_n 1, 1) := by decide +kernel
theorem dX12_known_48 : decode cX12_known 48 = .ok (.bipush 9, 2) := by decide +kernel
theorem dX12_known_50 : decode cX12_known 50 = .ok (.if_icmp .ne 9, 3) := by decide +kernel
theorem dX12_known_53 : decode cX12_known 53 = .ok (.ldc2_w 26, 3) := by decide +kernel
theorem dX12_known_56 : decode cX12_known 56 = .ok (.goto 4, 3) := by decide +kernel
theorem dX12_known_59 : decode cX12_known 59 = .ok (.lconst 0, 1) := by decide +kernel
theorem dX12_known_60 : decode cX12_known 60 = .ok (.lstore 10, 2) := by decide +kernel
theorem dX12_known_62 : decode cX12_known 62 = .ok (.iconst 1, 1) := by decide +kernel
theorem dX12_known_63 : decode cX12_known 63 = .ok (.istore 12, 2) := by decide +kernel
theorem dX12_known_65 : decode cX12_known 65 = .ok (.iload 12, 2) := by decide +kernel
theorem dX12_known_67 : decode cX12_known 67 = .ok (.iconst 4, 1) := by decide +kernel
theorem dX12_known_68 : decode cX12_known 68 = .ok (.if_icmp .gt 58, 3) := by decide +kernel
theorem dX12_known_71 : decode cX12_known 71 = .ok (.iload_n 2, 1) := by decide +kernel
theorem dX12_known_72 : decode cX12_known 72 = .ok (.iload 12, 2) := by decide +kernel
theorem dX12_known_74 : decode cX12_known 74 = .ok (.iconst 1, 1) := by decide +kernel
theorem dX12_known_75 : decode cX12_known 75 = .ok (.isub, 1) := by decide +kernel
theorem dX12_known_76 : decode cX12_known 76 = .ok (.ishr, 1) := by decide +kernel
theorem dX12_known_77 : decode cX12_known 77 = .ok (.iconst 1, 1) := by decide +kernel
theorem dX12_known_78 : decode cX12_known 78 = .ok (.iand, 1) := by decide +kernel
theorem dX12_known_79 : decode cX12_known 79 = .ok (.iconst 1, 1) := by decide +kernel
theorem dX12_known_80 : decode cX12_known 80 = .ok (.if_icmp .ne 40, 3) := by decide +kernel
theorem dX12_known_83 : decode cX12_known 83 = .ok (.iload_n 1, 1) := by decide +kernel
theorem dX12_known_84 : decode cX12_known 84 = .ok (.bipush 8, 2) := by decide +kernel
theorem dX12_known_86 : decode cX12_known 86 = .ok (.if_icmp .eq 34, 3) := by decide +kernel
theorem dX12_known_89 : decode cX12_known 89 = .ok (.aload_n 0, 1) := by decide +kernel
theorem dX12_known_90 : decode cX12_known 90 = .ok (.iload 12, 2) := by decide +kernel
theorem dX12_known_92 : decode cX12_known 92 = .ok (.iload 9, 2) := by decide +kernel
theorem dX12_known_94 : decode cX12_known 94 = .ok (.invokevirtual 41, 3) := by decide +kernel
theorem dX12_known_97 : decode cX12_known 97 = .ok (.lstore 13, 2) := by decide +kernel
theorem dX12_known_99 : decode cX12_known 99 = .ok (.iload_n 1, 1) := by decide +kernel
theorem dX12_known_100 : decode cX12_known 100 = .ok (.bipush 9, 2) := by decide +kernel
theorem dX12_known_102 : decode cX12_known 102 = .ok (.if_icmp .ne 11, 3) := by decide +kernel
theorem dX12_known_105 : decode cX12_known 105 = .ok (.lload 10, 2) := by decide +kernel
theorem dX12_known_107 : decode cX12_known 107 = .ok (.lload 13, 2) := by decide +kernel
theorem dX12_known_109 : decode cX12_known 109 = .ok (.land, 1) := by decide +kernel
theorem dX12_known_110 : decode cX12_known 110 = .ok (.goto 8, 3) := by decide +kernel
theorem dX12_known_113 : decode cX12_known 113 = .ok (.lload 10, 2) := by decide +kernel
theorem dX12_known_115 : decode cX12_known 115 = .ok (.lload 13, 2) := by decide +kernel
theorem dX12_known_117 : decode cX12_known 117 = .ok (.lor, 1) := by decide +kernel
theorem dX12_known_118 : decode cX12_known 118 = .ok (.lstore 10, 2) := by decide +kernel
theorem dX12_known_120 : decode cX12_known 120 = .ok (.iinc 12 1, 3) := by decide +kernel
theorem dX12_known_123 : decode cX12_known 123 = .ok (.goto (-58), 3) := by decide +kernel
theorem dX12_known_126 : decode cX12_known 126 = .ok (.lload 7, 2) := by decide +kernel
theorem dX12_known_128 : decode cX12_known 128 = .ok (.lload 10, 2) := by decide +kernel
theorem dX12_known_130 : decode cX12_known 130 = .ok (.lload 5, 2) := by decide +kernel
theorem dX12_known_132 : decode cX12_known 132 = .ok (.land, 1) := by decide +kernel
theorem dX12_known_133 : decode cX12_known 133 = .ok (.lload_n 3, 1) := by decide +kernel
theorem dX12_known_134 : decode cX12_known 134 = .ok (.ldc2_w 26, 3) := by decide +kernel
theorem dX12_known_137 : decode cX12_known 137 = .ok (.lxor, 1) := by decide +kernel
theorem dX12_known_138 : decode cX12_known 138 = .ok (.land, 1) := by decide +kernel
theorem dX12_known_139 : decode cX12_known 139 = .ok (.lconst 0, 1) := by decide +kernel
theorem dX12_known_140 : decode cX12_known 140 = .ok (.lcmp, 1) := by decide +kernel
theorem dX12_known_141 : decode cX12_known 141 = .ok (.ifCond .ne 10, 3) := by decide +kernel
theorem dX12_known_144 : decode cX12_known 144 = .ok (.lconst 1, 1) := by decide +kernel
theorem dX12_known_145 : decode cX12_known 145 = .ok (.iload 9, 2) := by decide +kernel
theorem dX12_known_147 : decode cX12_known 147 = .ok (.lshl, 1) := by decide +kernel
theorem dX12_known_148 : decode cX12_known 148 = .ok (.goto 4, 3) := by decide +kernel
theorem dX12_known_151 : decode cX12_known 151 = .ok (.lconst 0, 1) := by decide +kernel
theorem dX12_known_152 : decode cX12_known 152 = .ok (.lor, 1) := by decide +kernel
theorem dX12_known_153 : decode cX12_known 153 = .ok (.lstore 7, 2) := by decide +kernel
theorem dX12_known_155 : decode cX12_known 155 = .ok (.iinc 9 1, 3) := by decide +kernel
theorem dX12_known_158 : decode cX12_known 158 = .ok (.goto (-152), 3) := by decide +kernel
theorem dX12_known_161 : decode cX12_known 161 = .ok (.lload 7, 2) := by decide +kernel
theorem dX12_known_163 : decode cX12_known 163 = .ok (.lreturn, 1) := by decide +kernel
def f_X12_known_120 (F P : Nat) (S : xSt) (rec_6 : Nat → Int32 → Int32 → Int64 → Int64 → Int64 → Int32 → xDt → Option (Int64 × xDt)) (rec_65 : Nat → Int32 → Int32 → Int64 → Int64 → Int64 → Int32 → Int64 → Int32 → xDt → Option (Int64 × xDt)) (v0 : Nat) (v1 : Int32) (v2 : Int32) (v3 : Int64) (v5 : Int64) (v7 : Int64) (v9 : Int32) (v10 : Int64) (v12 : Int32) (D : xDt) : Option (Int64 × xDt) :=
  xlet (v12 + 1) fun v12_1 => rec_65 v0 v1 v2 v3 v5 v7 v9 v10 v12_1 D
set_option maxHeartbeats 4000000 in
theorem t_X12_known_120 {F P : Nat} {S : xSt} (hS : xWF S) {rec_6 : Nat → Int32 → Int32 → Int64 → Int64 → Int64 → Int32 → xDt → Option (Int64 × xDt)} (hrec_6 : ∀ {v0 : Nat} {v1 : Int32} {v2 : Int32} {v3 : Int64} {v5 : Int64} {v7 : Int64} {v9 : Int32} {D : xDt} {r : Int64 × xDt}, xK S v0 12 → rec_6 v0 v1 v2 v3 v5 v7 v9 D = some r → yEx md_X12_known 3 6 [(0, .ref v0), (1, .int v1), (2, .int v2), (3, .long v3), (5, .long v5), (7, .long v7), (9, .int v9)] [] S D (xQl S r)) {rec_65 : Nat → Int32 → Int32 → Int64 → Int64 → Int64 → Int32 → Int64 → Int32 → xDt → Option (Int64 × xDt)} (hrec_65 : ∀ {v0 : Nat} {v1 : Int32} {v2 : Int32} {v3 : Int64} {v5 : Int64} {v7 : Int64} {v9 : Int32} {v10 : Int64} {v12 : Int32} {D : xDt} {r : Int64 × xDt}, xK S v0 12 → rec_65 v0 v1 v2 v3 v5 v7 v9 v10 v12 D = some r → yEx md_X12_known 3 65 [(0, .ref v0), (1, .int v1), (2, .int v2), (3, .long v3), (5, .long v5), (7, .long v7), (9, .int v9), (10, .long v10), (12, .int v12)] [] S D (xQl S r)) {v0 : Nat} {v1 : Int32} {v2 : Int32} {v3 : Int64} {v5 : Int64} {v7 : Int64} {v9 : Int32} {v10 : Int64} {v12 : Int32} {D : xDt} {r : Int64 × xDt} (k0 : xK S v0 12) (h : f_X12_known_120 F P S rec_6 rec_65 v0 v1 v2 v3 v5 v7 v9 v10 v12 D = some r) : yEx md_X12_known 3 120 [(0, .ref v0), (1, .int v1), (2, .int v2), (3, .long v3), (5, .long v5), (7, .long v7), (9, .int v9), (10, .long v10), (12, .int v12)] [] S D (xQl S r) := by
  unfold f_X12_known_120 at h
  refine xlet_e h (fun v12_1 ev12_1 h => ?_)
  refine y_iinc v12_1 ev12_1 (by decide) [(12, .int v12_1), (0, .ref v0), (1, .int v1), (2, .int v2), (3, .long v3), (5, .long v5), (7, .long v7), (9, .int v9), (10, .long v10)] dX12_known_120 8 rfl (by show _ < 15; decide) rfl ?_
  refine x_goto 65 dX12_known_123 (by decide) ?_
  refine x_lv (lv' := [(0, .ref v0), (1, .int v1), (2, .int v2), (3, .long v3), (5, .long v5), (7, .long v7), (9, .int v9), (10, .long v10), (12, .int v12_1)]) [1, 2, 3, 4, 5, 6, 7, 8, 0] rfl ?_
  exact hrec_65 k0 h

def f_X12_known_118 (F P : Nat) (S : xSt) (rec_6 : Nat → Int32 → Int32 → Int64 → Int64 → Int64 → Int32 → xDt → Option (Int64 × xDt)) (rec_65 : Nat → Int32 → Int32 → Int64 → Int64 → Int64 → Int32 → Int64 → Int32 → xDt → Option (Int64 × xDt)) (v0 : Nat) (v1 : Int32) (v2 : Int32) (v3 : Int64) (v5 : Int64) (v7 : Int64) (v9 : Int32) (v12 : Int32) (s0 : Int64) (D : xDt) : Option (Int64 × xDt) :=
  f_X12_known_120 F P S rec_6 rec_65 v0 v1 v2 v3 v5 v7 v9 s0 v12 D
set_option maxHeartbeats 4000000 in
theorem t_X12_known_118 {F P : Nat} {S : xSt} (hS : xWF S) {rec_6 : Nat → Int32 → Int32 → Int64 → Int64 → Int64 → Int32 → xDt → Option (Int64 × xDt)} (hrec_6 : ∀ {v0 : Nat} {v1 : Int32} {v2 : Int32} {v3 : Int64} {v5 : Int64} {v7 : Int64} {v9 : Int32} {D : xDt} {r : Int64 × xDt}, xK S v0 12 → rec_6 v0 v1 v2 v3 v5 v7 v9 D = some r → yEx md_X12_known 3 6 [(0, .ref v0), (1, .int v1), (2, .int v2), (3, .long v3), (5, .long v5), (7, .long v7), (9, .int v9)] [] S D (xQl S r)) {rec_65 : Nat → Int32 → Int32 → Int64 → Int64 → Int64 → Int32 → Int64 → Int32 → xDt → Option (Int64 × xDt)} (hrec_65 : ∀ {v0 : Nat} {v1 : Int32} {v2 : Int32} {v3 : Int64} {v5 : Int64} {v7 : Int64} {v9 : Int32} {v10 : Int64} {v12 : Int32} {D : xDt} {r : Int64 × xDt}, xK S v0 12 → rec_65 v0 v1 v2 v3 v5 v7 v9 v10 v12 D = some r → yEx md_X12_known 3 65 [(0, .ref v0), (1, .int v1), (2, .int v2), (3, .long v3), (5, .long v5), (7, .long v7), (9, .int v9), (10, .long v10), (12, .int v12)] [] S D (xQl S r)) {v0 : Nat} {v1 : Int32} {v2 : Int32} {v3 : Int64} {v5 : Int64} {v7 : Int64} {v9 : Int32} {v12 : Int32} {s0 : Int64} {D : xDt} {r : Int64 × xDt} (k0 : xK S v0 12) (h : f_X12_known_118 F P S rec_6 rec_65 v0 v1 v2 v3 v5 v7 v9 v12 s0 D = some r) : yEx md_X12_known 3 118 [(0, .ref v0), (1, .int v1), (2, .int v2), (3, .long v3), (5, .long v5), (7, .long v7), (9, .int v9), (12, .int v12)] [.long s0] S D (xQl S r) := by
  unfold f_X12_known_118 at h
  refine y_lstore s0 rfl [(10, .long s0), (0, .ref v0), (1, .int v1), (2, .int v2), (3, .long v3), (5, .long v5), (7, .long v7), (9, .int v9), (12, .int v12)] dX12_known_118 (by show _ < 15; decide) rfl ?_
  refine x_lv (lv' := [(0, .ref v0), (1, .int v1), (2, .int v2), (3, .long v3), (5, .long v5), (7, .long v7), (9, .int v9), (10, .long s0), (12, .int v12)]) [1, 2, 3, 4, 5, 6, 7, 0, 8] rfl ?_
  exact t_X12_known_120 hS hrec_6 hrec_65 k0 h

def f_X12_known_155 (F P : Nat) (S : xSt) (rec_6 : Nat → Int32 → Int32 → Int64 → Int64 → Int64 → Int32 → xDt → Option (Int64 × xDt)) (v0 : Nat) (v1 : Int32) (v2 : Int32) (v3 : Int64) (v5 : Int64) (v7 : Int64) (v9 : Int32) (D : xDt) : Option (Int64 × xDt) :=
  xlet (v9 + 1) fun v9_1 => rec_6 v0 v1 v2 v3 v5 v7 v9_1 D
set_option maxHeartbeats 4000000 in
theorem t_X12_known_155 {F P : Nat} {S : xSt} (hS : xWF S) {rec_6 : Nat → Int32 → Int32 → Int64 → Int64 → Int64 → Int32 → xDt → Option (Int64 × xDt)} (hrec_6 : ∀ {v0 : Nat} {v1 : Int32} {v2 : Int32} {v3 : Int64} {v5 : Int64} {v7 : Int64} {v9 : Int32} {D : xDt} {r : Int64 × xDt}, xK S v0 12 → rec_6 v0 v1 v2 v3 v5 v7 v9 D = some r → yEx md_X12_known 3 6 [(0, .ref v0), (1, .int v1), (2, .int v2), (3, .long v3), (5, .long v5), (7, .long v7), (9, .int v9)] [] S D (xQl S r)) {v0 : Nat} {v1 : Int32} {v2 : Int32} {v3 : Int64} {v5 : Int64} {v7 : Int64} {v9 : Int32} {D : xDt} {r : Int64 × xDt} (k0 : xK S v0 12) (h : f_X12_known_155 F P S rec_6 v0 v1 v2 v3 v5 v7 v9 D = some r) : yEx md_X12_known 3 155 [(0, .ref v0), (1, .int v1), (2, .int v2), (3, .long v3), (5, .long v5), (7, .long v7), (9, .int v9)] [] S D (xQl S r) := by
  unfold f_X12_known_155 at h
  refine xlet_e h (fun v9_1 ev9_1 h => ?_)
  refine y_iinc v9_1 ev9_1 (by decide) [(9, .int v9_1), (0, .ref v0), (1, .int v1), (2, .int v2), (3, .long v3), (5, .long v5), (7, .long v7)] dX12_known_155 6 rfl (by show _ < 15; decide) rfl ?_
  refine x_goto 6 dX12_known_158 (by decide) ?_
  refine x_lv (lv' := [(0, .ref v0), (1, .int v1), (2, .int v2), (3, .long v3), (5, .long v5), (7, .long v7), (9, .int v9_1)]) [1, 2, 3, 4, 5, 6, 0] rfl ?_
  exact hrec_6 k0 h

def f_X12_known_152 (F P : Nat) (S : xSt) (rec_6 : Nat → Int32 → Int32 → Int64 → Int64 → Int64 → Int32 → xDt → Option (Int64 × xDt)) (v0 : Nat) (v1 : Int32) (v2 : Int32) (v3 : Int64) (v5 : Int64) (v9 : Int32) (s0 : Int64) (s1 : Int64) (D : xDt) : Option (Int64 × xDt) :=
  xlet (s1 ||| s0) fun v7_1 => f_X12_known_155 F P S rec_6 v0 v1 v2 v3 v5 v7_1 v9 D
set_option maxHeartbeats 4000000 in
theorem t_X12_known_152 {F P : Nat} {S : xSt} (hS : xWF S) {rec_6 : Nat → Int32 → Int32 → Int64 → Int64 → Int64 → Int32 → xDt → Option (Int64 × xDt)} (hrec_6 : ∀ {v0 : Nat} {v1 : Int32} {v2 : Int32} {v3 : Int64} {v5 : Int64} {v7 : Int64} {v9 : Int32} {D : xDt} {r : Int64 × xDt}, xK S v0 12 → rec_6 v0 v1 v2 v3 v5 v7 v9 D = some r → yEx md_X12_known 3 6 [(0, .ref v0), (1, .int v1), (2, .int v2), (3, .long v3), (5, .long v5), (7, .long v7), (9, .int v9)] [] S D (xQl S r)) {v0 : Nat} {v1 : Int32} {v2 : Int32} {v3 : Int64} {v5 : Int64} {v9 : Int32} {s0 : Int64} {s1 : Int64} {D : xDt} {r : Int64 × xDt} (k0 : xK S v0 12) (h : f_X12_known_152 F P S rec_6 v0 v1 v2 v3 v5 v9 s0 s1 D = some r) : yEx md_X12_known 3 152 [(0, .ref v0), (1, .int v1), (2, .int v2), (3, .long v3), (5, .long v5), (9, .int v9)] [.long s0, .long s1] S D (xQl S r) := by
  unfold f_X12_known_152 at h
  refine x_lor dX12_known_152 ?_
  refine xlet_e h (fun v7_1 ev7_1 h => ?_)
  refine y_lstore v7_1 ev7_1 [(7, .long v7_1), (0, .ref v0), (1, .int v1), (2, .int v2), (3, .long v3), (5, .long v5), (9, .int v9)] dX12_known_153 (by show _ < 15; decide) rfl ?_
  refine x_lv (lv' := [(0, .ref v0), (1, .int v1), (2, .int v2), (3, .long v3), (5, .long v5), (7, .long v7_1), (9, .int v9)]) [1, 2, 3, 4, 5, 0, 6] rfl ?_
  exact t_X12_known_155 hS hrec_6 k0 h

def f_X12_known_65s (F P : Nat) (S : xSt) (rec_6 : Nat → Int32 → Int32 → Int64 → Int64 → Int64 → Int32 → xDt → Option (Int64 × xDt)) (rec_65 : Nat → Int32 → Int32 → Int64 → Int64 → Int64 → Int32 → Int64 → Int32 → xDt → Option (Int64 × xDt)) (v0 : Nat) (v1 : Int32) (v2 : Int32) (v3 : Int64) (v5 : Int64) (v7 : Int64) (v9 : Int32) (v10 : Int64) (v12 : Int32) (D : xDt) : Option (Int64 × xDt) :=
  if 4 < v12 then (if (lg_cmp ((v10 &&& v5) &&& (v3 ^^^ (-1))) 0) = 0 then (f_X12_known_152 F P S rec_6 v0 v1 v2 v3 v5 v9 (jlshl 1 v9) v7 D) else (f_X12_known_152 F P S rec_6 v0 v1 v2 v3 v5 v9 0 v7 D)) else (if ((jishr v2 (v12 - 1)) &&& 1) = 1 then (if v1 = 8 then (f_X12_known_120 F P S rec_6 rec_65 v0 v1 v2 v3 v5 v7 v9 v10 v12 D) else ((f_X12_cellOf F P S v0 v12 v9 D).bind fun q1 => if v1 = 9 then (f_X12_known_118 F P S rec_6 rec_65 v0 v1 v2 v3 v5 v7 v9 v12 (v10 &&& q1.1) q1.2) else (f_X12_known_118 F P S rec_6 rec_65 v0 v1 v2 v3 v5 v7 v9 v12 (v10 ||| q1.1) q1.2))) else (f_X12_known_120 F P S rec_6 rec_65 v0 v1 v2 v3 v5 v7 v9 v10 v12 D))
def f_X12_known_65 (F P : Nat) (S : xSt) (rec_6 : Nat → Int32 → Int32 → Int64 → Int64 → Int64 → Int32 → xDt → Option (Int64 × xDt)) : Nat → Nat → Int32 → Int32 → Int64 → Int64 → Int64 → Int32 → Int64 → Int32 → xDt → Option (Int64 × xDt)
  | 0 => fun _ _ _ _ _ _ _ _ _ _ => none
  | n + 1 => f_X12_known_65s F P S rec_6 (f_X12_known_65 F P S rec_6 n)
set_option maxHeartbeats 4000000 in
theorem t_X12_known_65s {F P : Nat} {S : xSt} (hS : xWF S) {rec_6 : Nat → Int32 → Int32 → Int64 → Int64 → Int64 → Int32 → xDt → Option (Int64 × xDt)} (hrec_6 : ∀ {v0 : Nat} {v1 : Int32} {v2 : Int32} {v3 : Int64} {v5 : Int64} {v7 : Int64} {v9 : Int32} {D : xDt} {r : Int64 × xDt}, xK S v0 12 → rec_6 v0 v1 v2 v3 v5 v7 v9 D = some r → yEx md_X12_known 3 6 [(0, .ref v0), (1, .int v1), (2, .int v2), (3, .long v3), (5, .long v5), (7, .long v7), (9, .int v9)] [] S D (xQl S r)) {rec_65 : Nat → Int32 → Int32 → Int64 → Int64 → Int64 → Int32 → Int64 → Int32 → xDt → Option (Int64 × xDt)} (hrec_65 : ∀ {v0 : Nat} {v1 : Int32} {v2 : Int32} {v3 : Int64} {v5 : Int64} {v7 : Int64} {v9 : Int32} {v10 : Int64} {v12 : Int32} {D : xDt} {r : Int64 × xDt}, xK S v0 12 → rec_65 v0 v1 v2 v3 v5 v7 v9 v10 v12 D = some r → yEx md_X12_known 3 65 [(0, .ref v0), (1, .int v1), (2, .int v2), (3, .long v3), (5, .long v5), (7, .long v7), (9, .int v9), (10, .long v10), (12, .int v12)] [] S D (xQl S r)) {v0 : Nat} {v1 : Int32} {v2 : Int32} {v3 : Int64} {v5 : Int64} {v7 : Int64} {v9 : Int32} {v10 : Int64} {v12 : Int32} {D : xDt} {r : Int64 × xDt} (k0 : xK S v0 12) (h : f_X12_known_65s F P S rec_6 rec_65 v0 v1 v2 v3 v5 v7 v9 v10 v12 D = some r) : yEx md_X12_known 3 65 [(0, .ref v0), (1, .int v1), (2, .int v2), (3, .long v3), (5, .long v5), (7, .long v7), (9, .int v9), (10, .long v10), (12, .int v12)] [] S D (xQl S r) := by
  unfold f_X12_known_65s at h
  refine x_iload dX12_known_65 8 rfl ?_
  refine x_iconst 4 dX12_known_67 (by decide) ?_
  refine x_icmp_gt 126 dX12_known_68 (by decide) (fun c => ?_) (fun c => ?_)
  · rw [if_pos c] at h
    refine x_lload dX12_known_126 5 rfl ?_
    refine x_lload dX12_known_128 7 rfl ?_
    refine x_lload dX12_known_130 4 rfl ?_
    refine x_land dX12_known_132 ?_
    refine x_lload_n dX12_known_133 3 rfl ?_
    refine x_ldc2 (-1) dX12_known_134 wd_1127 ?_
    refine x_lxor dX12_known_137 ?_
    refine x_land dX12_known_138 ?_
    refine x_lconst 0 dX12_known_139 (by decide) ?_
    refine x_lcmp dX12_known_140 ?_
    refine x_if_ne 151 dX12_known_141 (by decide) (fun c => ?_) (fun c => ?_)
    · rw [if_neg c] at h
      refine x_lconst 0 dX12_known_151 (by decide) ?_
      refine x_lv (lv' := [(0, .ref v0), (1, .int v1), (2, .int v2), (3, .long v3), (5, .long v5), (9, .int v9)]) [0, 1, 2, 3, 4, 6] rfl ?_
      exact t_X12_known_152 hS hrec_6 k0 h
    · rw [if_pos c] at h
      refine x_lconst 1 dX12_known_144 (by decide) ?_
      refine x_iload dX12_known_145 6 rfl ?_
      refine x_lshl dX12_known_147 ?_
      refine x_goto 152 dX12_known_148 (by decide) ?_
      refine x_lv (lv' := [(0, .ref v0), (1, .int v1), (2, .int v2), (3, .long v3), (5, .long v5), (9, .int v9)]) [0, 1, 2, 3, 4, 6] rfl ?_
      exact t_X12_known_152 hS hrec_6 k0 h
  · rw [if_neg c] at h
    refine x_iload_n dX12_known_71 2 rfl ?_
    refine x_iload dX12_known_72 8 rfl ?_
    refine x_iconst 1 dX12_known_74 (by decide) ?_
    refine x_isub dX12_known_75 ?_
    refine x_ishr dX12_known_76 ?_
    refine x_iconst 1 dX12_known_77 (by decide) ?_
    refine x_iand dX12_known_78 ?_
    refine x_iconst 1 dX12_known_79 (by decide) ?_
    refine x_icmp_ne 120 dX12_known_80 (by decide) (fun c => ?_) (fun c => ?_)
    · rw [if_neg c] at h
      exact t_X12_known_120 hS hrec_6 hrec_65 k0 h
    · rw [if_pos c] at h
      refine x_iload_n dX12_known_83 1 rfl ?_
      refine x_bipush 8 dX12_known_84 (by decide) ?_
      refine x_icmp_eq 120 dX12_known_86 (by decide) (fun c => ?_) (fun c => ?_)
      · rw [if_pos c] at h
        exact t_X12_known_120 hS hrec_6 hrec_65 k0 h
      · rw [if_neg c] at h
        refine x_aload_n dX12_known_89 0 rfl ?_
        refine x_iload dX12_known_90 8 rfl ?_
        refine x_iload dX12_known_92 6 rfl ?_
        refine xbnd_e h (fun q1 e1 h => ?_)
        refine y_callVl (As := [.int v12, .int v9]) (q := q1) cv_RX12_41 dX12_known_94 k0 rfl (Nat.le_of_ble_eq_true rfl) (by omega) (S_X12_cellOf hS k0 e1) ?_
        refine y_lstore q1.1 rfl [(13, .long q1.1), (0, .ref v0), (1, .int v1), (2, .int v2), (3, .long v3), (5, .long v5), (7, .long v7), (9, .int v9), (10, .long v10), (12, .int v12)] dX12_known_97 (by show _ < 15; decide) rfl ?_
        refine x_iload_n dX12_known_99 2 rfl ?_
        refine x_bipush 9 dX12_known_100 (by decide) ?_
        refine x_icmp_ne 113 dX12_known_102 (by decide) (fun c => ?_) (fun c => ?_)
        · rw [if_neg c] at h
          refine x_lload dX12_known_113 8 rfl ?_
          refine x_lload dX12_known_115 0 rfl ?_
          refine x_lor dX12_known_117 ?_
          refine x_lv (lv' := [(0, .ref v0), (1, .int v1), (2, .int v2), (3, .long v3), (5, .long v5), (7, .long v7), (9, .int v9), (12, .int v12)]) [1, 2, 3, 4, 5, 6, 7, 9] rfl ?_
          exact t_X12_known_118 hS hrec_6 hrec_65 k0 h
        · rw [if_pos c] at h
          refine x_lload dX12_known_105 8 rfl ?_
          refine x_lload dX12_known_107 0 rfl ?_
          refine x_land dX12_known_109 ?_
          refine x_goto 118 dX12_known_110 (by decide) ?_
          refine x_lv (lv' := [(0, .ref v0), (1, .int v1), (2, .int v2), (3, .long v3), (5, .long v5), (7, .long v7), (9, .int v9), (12, .int v12)]) [1, 2, 3, 4, 5, 6, 7, 9] rfl ?_
          exact t_X12_known_118 hS hrec_6 hrec_65 k0 h
theorem t_X12_known_65 {F P : Nat} {S : xSt} (hS : xWF S) {rec_6 : Nat → Int32 → Int32 → Int64 → Int64 → Int64 → Int32 → xDt → Option (Int64 × xDt)} (hrec_6 : ∀ {v0 : Nat} {v1 : Int32} {v2 : Int32} {v3 : Int64} {v5 : Int64} {v7 : Int64} {v9 : Int32} {D : xDt} {r : Int64 × xDt}, xK S v0 12 → rec_6 v0 v1 v2 v3 v5 v7 v9 D = some r → yEx md_X12_known 3 6 [(0, .ref v0), (1, .int v1), (2, .int v2), (3, .long v3), (5, .long v5), (7, .long v7), (9, .int v9)] [] S D (xQl S r)) : ∀ (n : Nat) {v0 : Nat} {v1 : Int32} {v2 : Int32} {v3 : Int64} {v5 : Int64} {v7 : Int64} {v9 : Int32} {v10 : Int64} {v12 : Int32} {D : xDt} {r : Int64 × xDt}, xK S v0 12 → f_X12_known_65 F P S rec_6 n v0 v1 v2 v3 v5 v7 v9 v10 v12 D = some r → yEx md_X12_known 3 65 [(0, .ref v0), (1, .int v1), (2, .int v2), (3, .long v3), (5, .long v5), (7, .long v7), (9, .int v9), (10, .long v10), (12, .int v12)] [] S D (xQl S r) := by
  intro n
  induction n with
  | zero => intros; rename_i h; cases h
  | succ n ih =>
    intro v0 v1 v2 v3 v5 v7 v9 v10 v12 D r k0 h
    exact t_X12_known_65s hS hrec_6 (fun k0 h => ih k0 h) k0 h

def f_X12_known_60 (F P : Nat) (S : xSt) (rec_6 : Nat → Int32 → Int32 → Int64 → Int64 → Int64 → Int32 → xDt → Option (Int64 × xDt)) (v0 : Nat) (v1 : Int32) (v2 : Int32) (v3 : Int64) (v5 : Int64) (v7 : Int64) (v9 : Int32) (s0 : Int64) (D : xDt) : Option (Int64 × xDt) :=
  f_X12_known_65 F P S rec_6 F v0 v1 v2 v3 v5 v7 v9 s0 1 D
set_option maxHeartbeats 4000000 in
theorem t_X12_known_60 {F P : Nat} {S : xSt} (hS : xWF S) {rec_6 : Nat → Int32 → Int32 → Int64 → Int64 → Int64 → Int32 → xDt → Option (Int64 × xDt)} (hrec_6 : ∀ {v0 : Nat} {v1 : Int32} {v2 : Int32} {v3 : Int64} {v5 : Int64} {v7 : Int64} {v9 : Int32} {D : xDt} {r : Int64 × xDt}, xK S v0 12 → rec_6 v0 v1 v2 v3 v5 v7 v9 D = some r → yEx md_X12_known 3 6 [(0, .ref v0), (1, .int v1), (2, .int v2), (3, .long v3), (5, .long v5), (7, .long v7), (9, .int v9)] [] S D (xQl S r)) {v0 : Nat} {v1 : Int32} {v2 : Int32} {v3 : Int64} {v5 : Int64} {v7 : Int64} {v9 : Int32} {s0 : Int64} {D : xDt} {r : Int64 × xDt} (k0 : xK S v0 12) (h : f_X12_known_60 F P S rec_6 v0 v1 v2 v3 v5 v7 v9 s0 D = some r) : yEx md_X12_known 3 60 [(0, .ref v0), (1, .int v1), (2, .int v2), (3, .long v3), (5, .long v5), (7, .long v7), (9, .int v9)] [.long s0] S D (xQl S r) := by
  unfold f_X12_known_60 at h
  refine y_lstore s0 rfl [(10, .long s0), (0, .ref v0), (1, .int v1), (2, .int v2), (3, .long v3), (5, .long v5), (7, .long v7), (9, .int v9)] dX12_known_60 (by show _ < 15; decide) rfl ?_
  refine x_iconst 1 dX12_known_62 (by decide) ?_
  refine y_istore 1 rfl [(12, .int 1), (10, .long s0), (0, .ref v0), (1, .int v1), (2, .int v2), (3, .long v3), (5, .long v5), (7, .long v7), (9, .int v9)] dX12_known_63 (by show _ < 15; decide) rfl ?_
  refine x_lv (lv' := [(0, .ref v0), (1, .int v1), (2, .int v2), (3, .long v3), (5, .long v5), (7, .long v7), (9, .int v9), (10, .long s0), (12, .int 1)]) [2, 3, 4, 5, 6, 7, 8, 1, 0] rfl ?_
  exact t_X12_known_65 hS hrec_6 F k0 h

def f_X12_known_6s (F P : Nat) (S : xSt) (rec_6 : Nat → Int32 → Int32 → Int64 → Int64 → Int64 → Int32 → xDt → Option (Int64 × xDt)) (v0 : Nat) (v1 : Int32) (v2 : Int32) (v3 : Int64) (v5 : Int64) (v7 : Int64) (v9 : Int32) (D : xDt) : Option (Int64 × xDt) :=
  if (D.1 v0 1) ≤ v9 then (some (v7, D)) else (if (lg_cmp ((jlushr v5 v9) &&& 1) 1) = 0 then (if v1 = 8 then ((f_X12_reached F P S v0 v2 (jlshl 1 v9) v5 D).bind fun q1 => f_X12_known_60 F P S rec_6 v0 v1 v2 v3 v5 v7 v9 q1.1 q1.2) else (if v1 = 9 then (f_X12_known_60 F P S rec_6 v0 v1 v2 v3 v5 v7 v9 (-1) D) else (f_X12_known_60 F P S rec_6 v0 v1 v2 v3 v5 v7 v9 0 D))) else (f_X12_known_155 F P S rec_6 v0 v1 v2 v3 v5 v7 v9 D))
def f_X12_known_6 (F P : Nat) (S : xSt) : Nat → Nat → Int32 → Int32 → Int64 → Int64 → Int64 → Int32 → xDt → Option (Int64 × xDt)
  | 0 => fun _ _ _ _ _ _ _ _ => none
  | n + 1 => f_X12_known_6s F P S (f_X12_known_6 F P S n)
set_option maxHeartbeats 4000000 in
theorem t_X12_known_6s {F P : Nat} {S : xSt} (hS : xWF S) {rec_6 : Nat → Int32 → Int32 → Int64 → Int64 → Int64 → Int32 → xDt → Option (Int64 × xDt)} (hrec_6 : ∀ {v0 : Nat} {v1 : Int32} {v2 : Int32} {v3 : Int64} {v5 : Int64} {v7 : Int64} {v9 : Int32} {D : xDt} {r : Int64 × xDt}, xK S v0 12 → rec_6 v0 v1 v2 v3 v5 v7 v9 D = some r → yEx md_X12_known 3 6 [(0, .ref v0), (1, .int v1), (2, .int v2), (3, .long v3), (5, .long v5), (7, .long v7), (9, .int v9)] [] S D (xQl S r)) {v0 : Nat} {v1 : Int32} {v2 : Int32} {v3 : Int64} {v5 : Int64} {v7 : Int64} {v9 : Int32} {D : xDt} {r : Int64 × xDt} (k0 : xK S v0 12) (h : f_X12_known_6s F P S rec_6 v0 v1 v2 v3 v5 v7 v9 D = some r) : yEx md_X12_known 3 6 [(0, .ref v0), (1, .int v1), (2, .int v2), (3, .long v3), (5, .long v5), (7, .long v7), (9, .int v9)] [] S D (xQl S r) := by
  unfold f_X12_known_6s at h
  refine x_iload dX12_known_6 6 rfl ?_
  refine x_aload_n dX12_known_8 0 rfl ?_
  refine y_geti fl_RX12_7 dX12_known_9 rfl k0 ?_
  refine x_icmp_ge 161 dX12_known_12 (by decide) (fun c => ?_) (fun c => ?_)
  · rw [if_pos c] at h
    refine x_lload dX12_known_161 5 rfl ?_
    obtain rfl := Option.some.inj h
    exact y_lret rfl dX12_known_163
  · rw [if_neg c] at h
    refine x_lload dX12_known_15 4 rfl ?_
    refine x_iload dX12_known_17 6 rfl ?_
    refine x_lushr dX12_known_19 ?_
    refine x_lconst 1 dX12_known_20 (by decide) ?_
    refine x_land dX12_known_21 ?_
    refine x_lconst 1 dX12_known_22 (by decide) ?_
    refine x_lcmp dX12_known_23 ?_
    refine x_if_ne 155 dX12_known_24 (by decide) (fun c => ?_) (fun c => ?_)
    · rw [if_neg c] at h
      exact t_X12_known_155 hS hrec_6 k0 h
    · rw [if_pos c] at h
      refine x_iload_n dX12_known_27 1 rfl ?_
      refine x_bipush 8 dX12_known_28 (by decide) ?_
      refine x_icmp_ne 47 dX12_known_30 (by decide) (fun c => ?_) (fun c => ?_)
      · rw [if_neg c] at h
        refine x_iload_n dX12_known_47 1 rfl ?_
        refine x_bipush 9 dX12_known_48 (by decide) ?_
        refine x_icmp_ne 59 dX12_known_50 (by decide) (fun c => ?_) (fun c => ?_)
        · rw [if_neg c] at h
          refine x_lconst 0 dX12_known_59 (by decide) ?_
          exact t_X12_known_60 hS hrec_6 k0 h
        · rw [if_pos c] at h
          refine x_ldc2 (-1) dX12_known_53 wd_1127 ?_
          refine x_goto 60 dX12_known_56 (by decide) ?_
          exact t_X12_known_60 hS hrec_6 k0 h
      · rw [if_pos c] at h
        refine x_aload_n dX12_known_33 0 rfl ?_
        refine x_iload_n dX12_known_34 2 rfl ?_
        refine x_lconst 1 dX12_known_35 (by decide) ?_
        refine x_iload dX12_known_36 6 rfl ?_
        refine x_lshl dX12_known_38 ?_
        refine x_lload dX12_known_39 4 rfl ?_
        refine xbnd_e h (fun q1 e1 h => ?_)
        refine y_callVl (As := [.int v2, .long (jlshl 1 v9), .long v5]) (q := q1) cv_RX12_229 dX12_known_41 k0 rfl (Nat.le_of_ble_eq_true rfl) (by omega) (S_X12_reached hS k0 e1) ?_
        refine x_goto 60 dX12_known_44 (by decide) ?_
        exact t_X12_known_60 hS hrec_6 k0 h
theorem t_X12_known_6 {F P : Nat} {S : xSt} (hS : xWF S) : ∀ (n : Nat) {v0 : Nat} {v1 : Int32} {v2 : Int32} {v3 : Int64} {v5 : Int64} {v7 : Int64} {v9 : Int32} {D : xDt} {r : Int64 × xDt}, xK S v0 12 → f_X12_known_6 F P S n v0 v1 v2 v3 v5 v7 v9 D = some r → yEx md_X12_known 3 6 [(0, .ref v0), (1, .int v1), (2, .int v2), (3, .long v3), (5, .long v5), (7, .long v7), (9, .int v9)] [] S D (xQl S r) := by
  intro n
  induction n with
  | zero => intros; rename_i h; cases h
  | succ n ih =>
    intro v0 v1 v2 v3 v5 v7 v9 D r k0 h
    exact t_X12_known_6s hS (fun k0 h => ih k0 h) k0 h

def f_X12_known (F P : Nat) (S : xSt) (v0 : Nat) (v1 : Int32) (v2 : Int32) (v3 : Int64) (v5 : Int64) (D : xDt) : Option (Int64 × xDt) :=
  f_X12_known_6 F P S F v0 v1 v2 v3 v5 0 0 D
set_option maxHeartbeats 4000000 in
theorem S_X12_known {F P : Nat} {S : xSt} (hS : xWF S) {v0 : Nat} {v1 : Int32} {v2 : Int32} {v3 : Int64} {v5 : Int64} {D : xDt} {r : Int64 × xDt} (k0 : xK S v0 12) (h : f_X12_known F P S v0 v1 v2 v3 v5 D = some r) : xSp md_X12_known (3, 0, 0) [.ref v0, .int v1, .int v2, .long v3, .long v5] (S, D) (xQl S r) := by
  unfold f_X12_known at h
  refine xEntry (by decide) (Nat.le_of_ble_eq_true rfl) ?_
  refine x_lv (lv' := [(0, .ref v0), (1, .int v1), (2, .int v2), (3, .long v3), (5, .long v5)]) [0, 1, 2, 3, 4] rfl ?_
  refine x_lconst 0 dX12_known_0 (by decide) ?_
  refine y_lstore 0 rfl [(7, .long 0), (0, .ref v0), (1, .int v1), (2, .int v2), (3, .long v3), (5, .long v5)] dX12_known_1 (by show _ < 15; decide) rfl ?_
  refine x_iconst 0 dX12_known_3 (by decide) ?_
  refine y_istore 0 rfl [(9, .int 0), (7, .long 0), (0, .ref v0), (1, .int v1), (2, .int v2), (3, .long v3), (5, .long v5)] dX12_known_4 (by show _ < 15; decide) rfl ?_
  refine x_lv (lv' := [(0, .ref v0), (1, .int v1), (2, .int v2), (3, .long v3), (5, .long v5), (7, .long 0), (9, .int 0)]) [2, 3, 4, 5, 6, 1, 0] rfl ?_
  exact t_X12_known_6 hS F k0 h

theorem dX12_where_0 : decode cX12_where 0 = .ok (.aload_n 0, 1) := by decide +kernel
theorem dX12_where_1 : decode cX12_where 1 = .ok (.getfield 72, 3) := by decide +kernel
theorem dX12_where_4 : decode cX12_where 4 = .ok (.iload_n 1, 1) := by decide +kernel
theorem dX12_where_5 : decode cX12_where 5 = .ok (.iaload, 1) := by decide +kernel
theorem dX12_where_6 : decode cX12_where 6 = .ok (.tableswitch 148 1 15 #[74, 87, 89, 148, 148, 148, 148, 148, 148, 148, 148, 148, 148, 91, 126], 74) := by decide +kernel
theorem dX12_where_80 : decode cX12_where 80 = .ok (.aload_n 0, 1) := by decide +kernel
theorem dX12_where_81 : decode cX12_where 81 = .ok (.aload_n 0, 1) := by decide +kernel
theorem dX12_where_82 : decode cX12_where 82 = .ok (.getfield 81, 3) := by decide +kernel
theorem dX12_where_85 : decode cX12_where 85 = .ok (.iload_n 1, 1) := by decide +kernel
theorem dX12_where_86 : decode cX12_where 86 = .ok (.iaload, 1) := by decide +kernel
theorem dX12_where_87 : decode cX12_where 87 = .ok (.invokevirtual 217, 3) := by decide +kernel
theorem dX12_where_90 : decode cX12_where 90 = .ok (.lload_n 2, 1) := by decide +kernel
theorem dX12_where_91 : decode cX12_where 91 = .ok (.land, 1) := by decide +kernel
theorem dX12_where_92 : decode cX12_where 92 = .ok (.lreturn, 1) := by decide +kernel
theorem dX12_where_93 : decode cX12_where 93 = .ok (.lconst 0, 1) := by decide +kernel
theorem dX12_where_94 : decode cX12_where 94 = .ok (.lreturn, 1) := by decide +kernel
theorem dX12_where_95 : decode cX12_where 95 = .ok (.lload_n 2, 1) := by decide +kernel
theorem dX12_where_96 : decode cX12_where 96 = .ok (.lreturn, 1) := by decide +kernel
theorem dX12_where_97 : decode cX12_where 97 = .ok (.aload_n 0, 1) := by decide +kernel
theorem dX12_where_98 : decode cX12_where 98 = .ok (.aload_n 0, 1) := by decide +kernel
theorem dX12_where_99 : decode cX12_where 99 = .ok (.getfield 75, 3) := by decide +kernel
theorem dX12_where_102 : decode cX12_where 102 = .ok (.iload_n 1, 1) := by decide +kernel
theorem dX12_where_103 : decode cX12_where 103 = .ok (.iaload, 1) := by decide +kernel
theorem dX12_where_104 : decode cX12_where 104 = .ok (.lload_n 2, 1) := by decide +kernel
theorem dX12_where_105 : decode cX12_where 105 = .ok (.invokevirtual 221, 3) := by decide +kernel
theorem dX12_where_108 : decode cX12_where 108 = .ok (.lstore 4, 2) := by decide +kernel
theorem dX12_where_110 : decode cX12_where 110 = .ok (.lload_n 2, 1) := by decide +kernel
theorem dX12_where_111 : decode cX12_where 111 = .ok (.lload 4, 2) := by decide +kernel
theorem dX12_where_113 : decode cX12_where 113 = .ok (.ldc2_w 26, 3) := by decide +kernel
theorem dX12_where_116 : decode cX12_where 116 = .ok (.lxor, 1) := by decide +kernel
theorem dX12_where_117 : decode cX12_where 117 = .ok (.land, 1) := by decide +kernel
theorem dX12_where_118 : decode cX12_where 118 = .ok (.aload_n 0, 1) := by decide +kernel
theorem dX12_where_119 : decode cX12_where 119 = .ok (.aload_n 0, 1) := by decide +kernel
theorem dX12_where_120 : decode cX12_where 120 = .ok (.getfield 78, 3) := by decide +kernel
theorem dX12_where_123 : decode cX12_where 123 = .ok (.iload_n 1, 1) := by decide +kernel
theorem dX12_where_124 : decode cX12_where 124 = .ok (.iaload, 1) := by decide +kernel
theorem dX12_where_125 : decode cX12_where 125 = .ok (.lload 4, 2) := by decide +kernel
theorem dX12_where_127 : decode cX12_where 127 = .ok (.invokevirtual 221, 3) := by decide +kernel
theorem dX12_where_130 : decode cX12_where 130 = .ok (.lor, 1) := by decide +kernel
theorem dX12_where_131 : decode cX12_where 131 = .ok (.lreturn, 1) := by decide +kernel
theorem dX12_where_132 : decode cX12_where 132 = .ok (.aload_n 0, 1) := by decide +kernel
theorem dX12_where_133 : decode cX12_where 133 = .ok (.aload_n 0, 1) := by decide +kernel
theorem dX12_where_134 : decode cX12_where 134 = .ok (.getfield 78, 3) := by decide +kernel
theorem dX12_where_137 : decode cX12_where 137 = .ok (.iload_n 1, 1) := by decide +kernel
theorem dX12_where_138 : decode cX12_where 138 = .ok (.iaload, 1) := by decide +kernel
theorem dX12_where_139 : decode cX12_where 139 = .ok (.aload_n 0, 1) := by decide +kernel
theorem dX12_where_140 : decode cX12_where 140 = .ok (.aload_n 0, 1) := by decide +kernel
theorem dX12_where_141 : decode cX12_where 141 = .ok (.getfield 75, 3) := by decide +kernel
theorem dX12_where_144 : decode cX12_where 144 = .ok (.iload_n 1, 1) := by decide +kernel
theorem dX12_where_145 : decode cX12_where 145 = .ok (.iaload, 1) := by decide +kernel
theorem dX12_where_146 : decode cX12_where 146 = .ok (.lload_n 2, 1) := by decide +kernel
theorem dX12_where_147 : decode cX12_where 147 = .ok (.invokevirtual 221, 3) := by decide +kernel
theorem dX12_where_150 : decode cX12_where 150 = .ok (.invokevirtual 221, 3) := by decide +kernel
theorem dX12_where_153 : decode cX12_where 153 = .ok (.lreturn, 1) := by decide +kernel
theorem dX12_where_154 : decode cX12_where 154 = .ok (.aload_n 0, 1) := by decide +kernel
theorem dX12_where_155 : decode cX12_where 155 = .ok (.aload_n 0, 1) := by decide +kernel
theorem dX12_where_156 : decode cX12_where 156 = .ok (.getfield 75, 3) := by decide +kernel
theorem dX12_where_159 : decode cX12_where 159 = .ok (.iload_n 1, 1) := by decide +kernel
theorem dX12_where_160 : decode cX12_where 160 = .ok (.iaload, 1) := by decide +kernel
theorem dX12_where_161 : decode cX12_where 161 = .ok (.lload_n 2, 1) := by decide +kernel
theorem dX12_where_162 : decode cX12_where 162 = .ok (.invokevirtual 221, 3) := by decide +kernel
theorem dX12_where_165 : decode cX12_where 165 = .ok (.lstore 4, 2) := by decide +kernel
theorem dX12_where_167 : decode cX12_where 167 = .ok (.aload_n 0, 1) := by decide +kernel
theorem dX12_where_168 : decode cX12_where 168 = .ok (.getfield 78, 3) := by decide +kernel
theorem dX12_where_171 : decode cX12_where 171 = .ok (.iload_n 1, 1) := by decide +kernel
theorem dX12_where_172 : decode cX12_where 172 = .ok (.iaload, 1) := by decide +kernel
theorem dX12_where_173 : decode cX12_where 173 = .ok (.ifCond .ge 7, 3) := by decide +kernel
theorem dX12_where_176 : decode cX12_where 176 = .ok (.lconst 0, 1) := by decide +kernel
theorem dX12_where_177 : decode cX12_where 177 = .ok (.goto 14, 3) := by decide +kernel
theorem dX12_where_180 : decode cX12_where 180 = .ok (.aload_n 0, 1) := by decide +kernel
theorem dX12_where_181 : decode cX12_where 181 = .ok (.aload_n 0, 1) := by decide +kernel
theorem dX12_where_182 : decode cX12_where 182 = .ok (.getfield 78, 3) := by decide +kernel
theorem dX12_where_185 : decode cX12_where 185 = .ok (.iload_n 1, 1) := by decide +kernel
theorem dX12_where_186 : decode cX12_where 186 = .ok (.iaload, 1) := by decide +kernel
theorem dX12_where_187 : decode cX12_where 187 = .ok (.lload_n 2, 1) := by decide +kernel
theorem dX12_where_188 : decode cX12_where 188 = .ok (.invokevirtual 221, 3) := by decide +kernel
theorem dX12_where_191 : decode cX12_where 191 = .ok (.lstore 6, 2) := by decide +kernel
theorem dX12_where_193 : decode cX12_where 193 = .ok (.aload_n 0, 1) := by decide +kernel
theorem dX12_where_194 : decode cX12_where 194 = .ok (.getfield 72, 3) := by decide +kernel
theorem dX12_where_197 : decode cX12_where 197 = .ok (.iload_n 1, 1) := by decide +kernel
theorem dX12_where_198 : decode cX12_where 198 = .ok (.iaload, 1) := by decide +kernel
theorem dX12_where_199 : decode cX12_where 199 = .ok (.tableswitch 125 4 13 #[53, 125, 98, 125, 125, 125, 62, 74, 86, 92], 53) := by decide +kernel
theorem dX12_where_252 : decode cX12_where 252 = .ok (.lload_n 2, 1) := by decide +kernel
theorem dX12_where_253 : decode cX12_where 253 = .ok (.lload 4, 2) := by decide +kernel
theorem dX12_where_255 : decode cX12_where 255 = .ok (.ldc2_w 26, 3) := by decide +kernel
theorem dX12_where_258 : decode cX12_where 258 = .ok (.lxor, 1) := by decide +kernel
theorem dX12_where_259 : decode cX12_where 259 = .ok (.land, 1) := by decide +kernel
theorem dX12_where_260 : decode cX12_where 260 = .ok (.lreturn, 1) := by decide +kernel
theorem dX12_where_261 : decode cX12_where 261 = .ok (.lload_n 2, 1) := by decide +kernel
theorem dX12_where_262 : decode cX12_where 262 = .ok (.lload 4, 2) := by decide +kernel
theorem dX12_where_264 : decode cX12_where 264 = .ok (.lload 6, 2) := by decide +kernel
theorem dX12_where_266 : decode cX12_where 266 = .ok (.lxor, 1) := by decide +kernel
theorem dX12_where_267 : decode cX12_where 267 = .ok (.ldc2_w 26, 3) := by decide +kernel
theorem dX12_where_270 : decode cX12_where 270 = .ok (.lxor, 1) := by decide +kernel
theorem dX12_where_271 : decode cX12_where 271 = .ok (.land, 1) := by decide +kernel
theorem dX12_where_272 : decode cX12_where 272 = .ok (.lreturn, 1) := by decide +kernel
theorem dX12_where_273 : decode cX12_where 273 = .ok (.lload_n 2, 1) := by decide +kernel
theorem dX12_where_274 : decode cX12_where 274 = .ok (.lload 4, 2) := by decide +kernel
theorem dX12_where_276 : decode cX12_where 276 = .ok (.ldc2_w 26, 3) := by decide +kernel
theorem dX12_where_279 : decode cX12_where 279 = .ok (.lxor, 1) := by decide +kernel
theorem dX12_where_280 : decode cX12_where 280 = .ok (.land, 1) := by decide +kernel
theorem dX12_where_281 : decode cX12_where 281 = .ok (.lload 6, 2) := by decide +kernel
theorem dX12_where_283 : decode cX12_where 283 = .ok (.lor, 1) := by decide +kernel
theorem dX12_where_284 : decode cX12_where 284 = .ok (.lreturn, 1) := by decide +kernel
theorem dX12_where_285 : decode cX12_where 285 = .ok (.lload 4, 2) := by decide +kernel
theorem dX12_where_287 : decode cX12_where 287 = .ok (.lload 6, 2) := by decide +kernel
theorem dX12_where_289 : decode cX12_where 289 = .ok (.lor, 1) := by decide +kernel
theorem dX12_where_290 : decode cX12_where 290 = .ok (.lreturn, 1) := by decide +kernel
theorem dX12_where_291 : decode cX12_where 291 = .ok (.lload 4, 2) := by decide +kernel
theorem dX12_where_293 : decode cX12_where 293 = .ok (.lload 6, 2) := by decide +kernel
theorem dX12_where_295 : decode cX12_where 295 = .ok (.land, 1) := by decide +kernel
theorem dX12_where_296 : decode cX12_where 296 = .ok (.lreturn, 1) := by decide +kernel
theorem dX12_where_297 : decode cX12_where 297 = .ok (.lload_n 2, 1) := by decide +kernel
theorem dX12_where_298 : decode cX12_where 298 = .ok (.aload_n 0, 1) := by decide +kernel
theorem dX12_where_299 : decode cX12_where 299 = .ok (.iconst 5, 1) := by decide +kernel
theorem dX12_where_300 : decode cX12_where 300 = .ok (.aload_n 0, 1) := by decide +kernel
theorem dX12_where_301 : decode cX12_where 301 = .ok (.getfield 81, 3) := by decide +kernel
theorem dX12_where_304 : decode cX12_where 304 = .ok (.iload_n 1, 1) := by decide +kernel
theorem dX12_where_305 : decode cX12_where 305 = .ok (.iaload, 1) := by decide +kernel
theorem dX12_where_306 : decode cX12_where 306 = .ok (.lload_n 2, 1) := by decide +kernel
theorem dX12_where_307 : decode cX12_where 307 = .ok (.lload 4, 2) := by decide +kernel
theorem dX12_where_309 : decode cX12_where 309 = .ok (.ldc2_w 26, 3) := by decide +kernel
theorem dX12_where_312 : decode cX12_where 312 = .ok (.lxor, 1) := by decide +kernel
theorem dX12_where_313 : decode cX12_where 313 = .ok (.land, 1) := by decide +kernel
theorem dX12_where_314 : decode cX12_where 314 = .ok (.lload_n 2, 1) := by decide +kernel
theorem dX12_where_315 : decode cX12_where 315 = .ok (.invokevirtual 225, 3) := by decide +kernel
theorem dX12_where_318 : decode cX12_where 318 = .ok (.ldc2_w 26, 3) := by decide +kernel
theorem dX12_where_321 : decode cX12_where 321 = .ok (.lxor, 1) := by decide +kernel
theorem dX12_where_322 : decode cX12_where 322 = .ok (.land, 1) := by decide +kernel
theorem dX12_where_323 : decode cX12_where 323 = .ok (.lreturn, 1) := by decide +kernel
theorem dX12_where_324 : decode cX12_where 324 = .ok (.aload_n 0, 1) := by decide +kernel
theorem dX12_where_325 : decode cX12_where 325 = .ok (.aload_n 0, 1) := by decide +kernel
theorem dX12_where_326 : decode cX12_where 326 = .ok (.getfield 72, 3) := by decide +kernel
theorem dX12_where_329 : decode cX12_where 329 = .ok (.iload_n 1, 1) := by decide +kernel
theorem dX12_where_330 : decode cX12_where 330 = .ok (.iaload, 1) := by decide +kernel
theorem dX12_where_331 : decode cX12_where 331 = .ok (.aload_n 0, 1) := by decide +kernel
theorem dX12_where_332 : decode cX12_where 332 = .ok (.getfield 81, 3) := by decide +kernel
theorem dX12_where_335 : decode cX12_where 335 = .ok (.iload_n 1, 1) := by decide +kernel
theorem dX12_where_336 : decode cX12_where 336 = .ok (.iaload, 1) := by decide +kernel
theorem dX12_where_337 : decode cX12_where 337 = .ok (.lload 4, 2) := by decide +kernel
theorem dX12_where_339 : decode cX12_where 339 = .ok (.lload_n 2, 1) := by decide +kernel
theorem dX12_where_340 : decode cX12_where 340 = .ok (.invokevirtual 225, 3) := by decide +kernel
theorem dX12_where_343 : decode cX12_where 343 = .ok (.lreturn, 1) := by decide +kernel
def f_X12_where_191 (F P : Nat) (S : xSt) (self_X12_where : Nat → Int32 → Int64 → xDt → Option (Int64 × xDt)) (v0 : Nat) (v1 : Int32) (v2 : Int64) (v4 : Int64) (s0 : Int64) (D : xDt) : Option (Int64 × xDt) :=
  xgrd (xin v1 (xl S (xr S v0 8))) (if (D.1 (xr S v0 8) (v1).toNatClampNeg) = 4 then (some (v2 &&& (v4 ^^^ (-1)), D)) else (if (D.1 (xr S v0 8) (v1).toNatClampNeg) = 5 then (xgrd (xin v1 (xl S (xr S v0 8))) (xgrd (xin v1 (xl S (xr S v0 11))) ((f_X12_known F P S v0 (D.1 (xr S v0 8) (v1).toNatClampNeg) (D.1 (xr S v0 11) (v1).toNatClampNeg) v4 v2 D).bind fun q4 => some (q4.1, q4.2)))) else (if (D.1 (xr S v0 8) (v1).toNatClampNeg) = 6 then (xgrd (xin v1 (xl S (xr S v0 11))) ((f_X12_known F P S v0 5 (D.1 (xr S v0 11) (v1).toNatClampNeg) (v2 &&& (v4 ^^^ (-1))) v2 D).bind fun q6 => some (v2 &&& (q6.1 ^^^ (-1)), q6.2))) else (if (D.1 (xr S v0 8) (v1).toNatClampNeg) = 7 then (xgrd (xin v1 (xl S (xr S v0 8))) (xgrd (xin v1 (xl S (xr S v0 11))) ((f_X12_known F P S v0 (D.1 (xr S v0 8) (v1).toNatClampNeg) (D.1 (xr S v0 11) (v1).toNatClampNeg) v4 v2 D).bind fun q9 => some (q9.1, q9.2)))) else (if (D.1 (xr S v0 8) (v1).toNatClampNeg) = 8 then (xgrd (xin v1 (xl S (xr S v0 8))) (xgrd (xin v1 (xl S (xr S v0 11))) ((f_X12_known F P S v0 (D.1 (xr S v0 8) (v1).toNatClampNeg) (D.1 (xr S v0 11) (v1).toNatClampNeg) v4 v2 D).bind fun q12 => some (q12.1, q12.2)))) else (if (D.1 (xr S v0 8) (v1).toNatClampNeg) = 9 then (xgrd (xin v1 (xl S (xr S v0 8))) (xgrd (xin v1 (xl S (xr S v0 11))) ((f_X12_known F P S v0 (D.1 (xr S v0 8) (v1).toNatClampNeg) (D.1 (xr S v0 11) (v1).toNatClampNeg) v4 v2 D).bind fun q15 => some (q15.1, q15.2)))) else (if (D.1 (xr S v0 8) (v1).toNatClampNeg) = 10 then (some (v2 &&& ((v4 ^^^ s0) ^^^ (-1)), D)) else (if (D.1 (xr S v0 8) (v1).toNatClampNeg) = 11 then (some ((v2 &&& (v4 ^^^ (-1))) ||| s0, D)) else (if (D.1 (xr S v0 8) (v1).toNatClampNeg) = 12 then (some (v4 ||| s0, D)) else (if (D.1 (xr S v0 8) (v1).toNatClampNeg) = 13 then (some (v4 &&& s0, D)) else (xgrd (xin v1 (xl S (xr S v0 8))) (xgrd (xin v1 (xl S (xr S v0 11))) ((f_X12_known F P S v0 (D.1 (xr S v0 8) (v1).toNatClampNeg) (D.1 (xr S v0 11) (v1).toNatClampNeg) v4 v2 D).bind fun q18 => some (q18.1, q18.2))))))))))))))
set_option maxHeartbeats 4000000 in
theorem t_X12_where_191 {F P : Nat} {S : xSt} (hS : xWF S) {hh : Nat} (hhc : 4 ≤ hh) {self_X12_where : Nat → Int32 → Int64 → xDt → Option (Int64 × xDt)} (hself_X12_where : ∀ {v0 : Nat} {v1 : Int32} {v2 : Int64} {D : xDt} {r : Int64 × xDt}, xK S v0 12 → self_X12_where v0 v1 v2 D = some r → xSp md_X12_where (hh, 0, 0) [.ref v0, .int v1, .long v2] (S, D) (xQl S r)) {v0 : Nat} {v1 : Int32} {v2 : Int64} {v4 : Int64} {s0 : Int64} {D : xDt} {r : Int64 × xDt} (k0 : xK S v0 12) (h : f_X12_where_191 F P S self_X12_where v0 v1 v2 v4 s0 D = some r) : yEx md_X12_where (hh + 1) 191 [(0, .ref v0), (1, .int v1), (2, .long v2), (4, .long v4)] [.long s0] S D (xQl S r) := by
  unfold f_X12_where_191 at h
  refine y_lstore s0 rfl [(6, .long s0), (0, .ref v0), (1, .int v1), (2, .long v2), (4, .long v4)] dX12_where_191 (by show _ < 8; decide) rfl ?_
  refine x_aload_n dX12_where_193 1 rfl ?_
  refine y_getr (kd := 100) hS fl_RX12_72 dX12_where_194 rfl k0 ?_
  refine x_iload_n dX12_where_197 2 rfl ?_
  refine xgrd_e h (fun g1 h => ?_)
  refine y_iald dX12_where_198 ((hS.f k0 8 100 rfl).2) g1 ?_
  by_cases c0 : (D.1 (xr S v0 8) (v1).toNatClampNeg) = 4
  · rw [if_pos c0] at h
    refine x_tsIn 4 252 c0 dX12_where_199 (by decide) (by decide) rfl (by decide) ?_
    refine x_lload_n dX12_where_252 3 rfl ?_
    refine x_lload dX12_where_253 4 rfl ?_
    refine x_ldc2 (-1) dX12_where_255 wd_1127 ?_
    refine x_lxor dX12_where_258 ?_
    refine x_land dX12_where_259 ?_
    obtain rfl := Option.some.inj h
    exact y_lret rfl dX12_where_260
  · rw [if_neg c0] at h
    by_cases c1 : (D.1 (xr S v0 8) (v1).toNatClampNeg) = 5
    · rw [if_pos c1] at h
      refine x_tsIn 5 324 c1 dX12_where_199 (by decide) (by decide) rfl (by decide) ?_
      refine x_aload_n dX12_where_324 1 rfl ?_
      refine x_aload_n dX12_where_325 1 rfl ?_
      refine y_getr (kd := 100) hS fl_RX12_72 dX12_where_326 rfl k0 ?_
      refine x_iload_n dX12_where_329 2 rfl ?_
      refine xgrd_e h (fun g2 h => ?_)
      refine y_iald dX12_where_330 ((hS.f k0 8 100 rfl).2) g2 ?_
      refine x_aload_n dX12_where_331 1 rfl ?_
      refine y_getr (kd := 100) hS fl_RX12_81 dX12_where_332 rfl k0 ?_
      refine x_iload_n dX12_where_335 2 rfl ?_
      refine xgrd_e h (fun g3 h => ?_)
      refine y_iald dX12_where_336 ((hS.f k0 11 100 rfl).2) g3 ?_
      refine x_lload dX12_where_337 4 rfl ?_
      refine x_lload_n dX12_where_339 3 rfl ?_
      refine xbnd_e h (fun q4 e4 h => ?_)
      refine y_callVl (As := [.int (D.1 (xr S v0 8) (v1).toNatClampNeg), .int (D.1 (xr S v0 11) (v1).toNatClampNeg), .long v4, .long v2]) (q := q4) cv_RX12_225 dX12_where_340 k0 rfl (Nat.le_of_ble_eq_true rfl) (by omega) (S_X12_known hS k0 e4) ?_
      obtain rfl := Option.some.inj h
      exact y_lret rfl dX12_where_343
    · rw [if_neg c1] at h
      by_cases c2 : (D.1 (xr S v0 8) (v1).toNatClampNeg) = 6
      · rw [if_pos c2] at h
        refine x_tsIn 6 297 c2 dX12_where_199 (by decide) (by decide) rfl (by decide) ?_
        refine x_lload_n dX12_where_297 3 rfl ?_
        refine x_aload_n dX12_where_298 1 rfl ?_
        refine x_iconst 5 dX12_where_299 (by decide) ?_
        refine x_aload_n dX12_where_300 1 rfl ?_
        refine y_getr (kd := 100) hS fl_RX12_81 dX12_where_301 rfl k0 ?_
        refine x_iload_n dX12_where_304 2 rfl ?_
        refine xgrd_e h (fun g5 h => ?_)
        refine y_iald dX12_where_305 ((hS.f k0 11 100 rfl).2) g5 ?_
        refine x_lload_n dX12_where_306 3 rfl ?_
        refine x_lload dX12_where_307 4 rfl ?_
        refine x_ldc2 (-1) dX12_where_309 wd_1127 ?_
        refine x_lxor dX12_where_312 ?_
        refine x_land dX12_where_313 ?_
        refine x_lload_n dX12_where_314 3 rfl ?_
        refine xbnd_e h (fun q6 e6 h => ?_)
        refine y_callVl (As := [.int 5, .int (D.1 (xr S v0 11) (v1).toNatClampNeg), .long (v2 &&& (v4 ^^^ (-1))), .long v2]) (q := q6) cv_RX12_225 dX12_where_315 k0 rfl (Nat.le_of_ble_eq_true rfl) (by omega) (S_X12_known hS k0 e6) ?_
        refine x_ldc2 (-1) dX12_where_318 wd_1127 ?_
        refine x_lxor dX12_where_321 ?_
        refine x_land dX12_where_322 ?_
        obtain rfl := Option.some.inj h
        exact y_lret rfl dX12_where_323
      · rw [if_neg c2] at h
        by_cases c3 : (D.1 (xr S v0 8) (v1).toNatClampNeg) = 7
        · rw [if_pos c3] at h
          refine x_tsIn 7 324 c3 dX12_where_199 (by decide) (by decide) rfl (by decide) ?_
          refine x_aload_n dX12_where_324 1 rfl ?_
          refine x_aload_n dX12_where_325 1 rfl ?_
          refine y_getr (kd := 100) hS fl_RX12_72 dX12_where_326 rfl k0 ?_
          refine x_iload_n dX12_where_329 2 rfl ?_
          refine xgrd_e h (fun g7 h => ?_)
          refine y_iald dX12_where_330 ((hS.f k0 8 100 rfl).2) g7 ?_
          refine x_aload_n dX12_where_331 1 rfl ?_
          refine y_getr (kd := 100) hS fl_RX12_81 dX12_where_332 rfl k0 ?_
          refine x_iload_n dX12_where_335 2 rfl ?_
          refine xgrd_e h (fun g8 h => ?_)
          refine y_iald dX12_where_336 ((hS.f k0 11 100 rfl).2) g8 ?_
          refine x_lload dX12_where_337 4 rfl ?_
          refine x_lload_n dX12_where_339 3 rfl ?_
          refine xbnd_e h (fun q9 e9 h => ?_)
          refine y_callVl (As := [.int (D.1 (xr S v0 8) (v1).toNatClampNeg), .int (D.1 (xr S v0 11) (v1).toNatClampNeg), .long v4, .long v2]) (q := q9) cv_RX12_225 dX12_where_340 k0 rfl (Nat.le_of_ble_eq_true rfl) (by omega) (S_X12_known hS k0 e9) ?_
          obtain rfl := Option.some.inj h
          exact y_lret rfl dX12_where_343
        · rw [if_neg c3] at h
          by_cases c4 : (D.1 (xr S v0 8) (v1).toNatClampNeg) = 8
          · rw [if_pos c4] at h
            refine x_tsIn 8 324 c4 dX12_where_199 (by decide) (by decide) rfl (by decide) ?_
            refine x_aload_n dX12_where_324 1 rfl ?_
            refine x_aload_n dX12_where_325 1 rfl ?_
            refine y_getr (kd := 100) hS fl_RX12_72 dX12_where_326 rfl k0 ?_
            refine x_iload_n dX12_where_329 2 rfl ?_
            refine xgrd_e h (fun g10 h => ?_)
            refine y_iald dX12_where_330 ((hS.f k0 8 100 rfl).2) g10 ?_
            refine x_aload_n dX12_where_331 1 rfl ?_
            refine y_getr (kd := 100) hS fl_RX12_81 dX12_where_332 rfl k0 ?_
            refine x_iload_n dX12_where_335 2 rfl ?_
            refine xgrd_e h (fun g11 h => ?_)
            refine y_iald dX12_where_336 ((hS.f k0 11 100 rfl).2) g11 ?_
            refine x_lload dX12_where_337 4 rfl ?_
            refine x_lload_n dX12_where_339 3 rfl ?_
            refine xbnd_e h (fun q12 e12 h => ?_)
            refine y_callVl (As := [.int (D.1 (xr S v0 8) (v1).toNatClampNeg), .int (D.1 (xr S v0 11) (v1).toNatClampNeg), .long v4, .long v2]) (q := q12) cv_RX12_225 dX12_where_340 k0 rfl (Nat.le_of_ble_eq_true rfl) (by omega) (S_X12_known hS k0 e12) ?_
            obtain rfl := Option.some.inj h
            exact y_lret rfl dX12_where_343
          · rw [if_neg c4] at h
            by_cases c5 : (D.1 (xr S v0 8) (v1).toNatClampNeg) = 9
            · rw [if_pos c5] at h
              refine x_tsIn 9 324 c5 dX12_where_199 (by decide) (by decide) rfl (by decide) ?_
              refine x_aload_n dX12_where_324 1 rfl ?_
              refine x_aload_n dX12_where_325 1 rfl ?_
              refine y_getr (kd := 100) hS fl_RX12_72 dX12_where_326 rfl k0 ?_
              refine x_iload_n dX12_where_329 2 rfl ?_
              refine xgrd_e h (fun g13 h => ?_)
              refine y_iald dX12_where_330 ((hS.f k0 8 100 rfl).2) g13 ?_
              refine x_aload_n dX12_where_331 1 rfl ?_
              refine y_getr (kd := 100) hS fl_RX12_81 dX12_where_332 rfl k0 ?_
              refine x_iload_n dX12_where_335 2 rfl ?_
              refine xgrd_e h (fun g14 h => ?_)
              refine y_iald dX12_where_336 ((hS.f k0 11 100 rfl).2) g14 ?_
              refine x_lload dX12_where_337 4 rfl ?_
              refine x_lload_n dX12_where_339 3 rfl ?_
              refine xbnd_e h (fun q15 e15 h => ?_)
              refine y_callVl (As := [.int (D.1 (xr S v0 8) (v1).toNatClampNeg), .int (D.1 (xr S v0 11) (v1).toNatClampNeg), .long v4, .long v2]) (q := q15) cv_RX12_225 dX12_where_340 k0 rfl (Nat.le_of_ble_eq_true rfl) (by omega) (S_X12_known hS k0 e15) ?_
              obtain rfl := Option.some.inj h
              exact y_lret rfl dX12_where_343
            · rw [if_neg c5] at h
              by_cases c6 : (D.1 (xr S v0 8) (v1).toNatClampNeg) = 10
              · rw [if_pos c6] at h
                refine x_tsIn 10 261 c6 dX12_where_199 (by decide) (by decide) rfl (by decide) ?_
                refine x_lload_n dX12_where_261 3 rfl ?_
                refine x_lload dX12_where_262 4 rfl ?_
                refine x_lload dX12_where_264 0 rfl ?_
                refine x_lxor dX12_where_266 ?_
                refine x_ldc2 (-1) dX12_where_267 wd_1127 ?_
                refine x_lxor dX12_where_270 ?_
                refine x_land dX12_where_271 ?_
                obtain rfl := Option.some.inj h
                exact y_lret rfl dX12_where_272
              · rw [if_neg c6] at h
                by_cases c7 : (D.1 (xr S v0 8) (v1).toNatClampNeg) = 11
                · rw [if_pos c7] at h
                  refine x_tsIn 11 273 c7 dX12_where_199 (by decide) (by decide) rfl (by decide) ?_
                  refine x_lload_n dX12_where_273 3 rfl ?_
                  refine x_lload dX12_where_274 4 rfl ?_
                  refine x_ldc2 (-1) dX12_where_276 wd_1127 ?_
                  refine x_lxor dX12_where_279 ?_
                  refine x_land dX12_where_280 ?_
                  refine x_lload dX12_where_281 0 rfl ?_
                  refine x_lor dX12_where_283 ?_
                  obtain rfl := Option.some.inj h
                  exact y_lret rfl dX12_where_284
                · rw [if_neg c7] at h
                  by_cases c8 : (D.1 (xr S v0 8) (v1).toNatClampNeg) = 12
                  · rw [if_pos c8] at h
                    refine x_tsIn 12 285 c8 dX12_where_199 (by decide) (by decide) rfl (by decide) ?_
                    refine x_lload dX12_where_285 4 rfl ?_
                    refine x_lload dX12_where_287 0 rfl ?_
                    refine x_lor dX12_where_289 ?_
                    obtain rfl := Option.some.inj h
                    exact y_lret rfl dX12_where_290
                  · rw [if_neg c8] at h
                    by_cases c9 : (D.1 (xr S v0 8) (v1).toNatClampNeg) = 13
                    · rw [if_pos c9] at h
                      refine x_tsIn 13 291 c9 dX12_where_199 (by decide) (by decide) rfl (by decide) ?_
                      refine x_lload dX12_where_291 4 rfl ?_
                      refine x_lload dX12_where_293 0 rfl ?_
                      refine x_land dX12_where_295 ?_
                      obtain rfl := Option.some.inj h
                      exact y_lret rfl dX12_where_296
                    · rw [if_neg c9] at h
                      refine x_tsOut 324 dX12_where_199 (by have := lv_neT c0 (a := 4) (by decide); have := lv_neT c1 (a := 5) (by decide); have := lv_neT c2 (a := 6) (by decide); have := lv_neT c3 (a := 7) (by decide); have := lv_neT c4 (a := 8) (by decide); have := lv_neT c5 (a := 9) (by decide); have := lv_neT c6 (a := 10) (by decide); have := lv_neT c7 (a := 11) (by decide); have := lv_neT c8 (a := 12) (by decide); have := lv_neT c9 (a := 13) (by decide); omega) (by decide) ?_
                      refine x_aload_n dX12_where_324 1 rfl ?_
                      refine x_aload_n dX12_where_325 1 rfl ?_
                      refine y_getr (kd := 100) hS fl_RX12_72 dX12_where_326 rfl k0 ?_
                      refine x_iload_n dX12_where_329 2 rfl ?_
                      refine xgrd_e h (fun g16 h => ?_)
                      refine y_iald dX12_where_330 ((hS.f k0 8 100 rfl).2) g16 ?_
                      refine x_aload_n dX12_where_331 1 rfl ?_
                      refine y_getr (kd := 100) hS fl_RX12_81 dX12_where_332 rfl k0 ?_
                      refine x_iload_n dX12_where_335 2 rfl ?_
                      refine xgrd_e h (fun g17 h => ?_)
                      refine y_iald dX12_where_336 ((hS.f k0 11 100 rfl).2) g17 ?_
                      refine x_lload dX12_where_337 4 rfl ?_
                      refine x_lload_n dX12_where_339 3 rfl ?_
                      refine xbnd_e h (fun q18 e18 h => ?_)
                      refine y_callVl (As := [.int (D.1 (xr S v0 8) (v1).toNatClampNeg), .int (D.1 (xr S v0 11) (v1).toNatClampNeg), .long v4, .long v2]) (q := q18) cv_RX12_225 dX12_where_340 k0 rfl (Nat.le_of_ble_eq_true rfl) (by omega) (S_X12_known hS k0 e18) ?_
                      obtain rfl := Option.some.inj h
                      exact y_lret rfl dX12_where_343

def f_X12_where_o (F P : Nat) (S : xSt) (self_X12_where : Nat → Int32 → Int64 → xDt → Option (Int64 × xDt)) (v0 : Nat) (v1 : Int32) (v2 : Int64) (D : xDt) : Option (Int64 × xDt) :=
  xgrd (xin v1 (xl S (xr S v0 8))) (if (D.1 (xr S v0 8) (v1).toNatClampNeg) = 1 then (xgrd (xin v1 (xl S (xr S v0 11))) ((f_X12_ofAtom F P S v0 (D.1 (xr S v0 11) (v1).toNatClampNeg) D).bind fun q3 => some (q3.1 &&& v2, q3.2))) else (if (D.1 (xr S v0 8) (v1).toNatClampNeg) = 2 then (some (0, D)) else (if (D.1 (xr S v0 8) (v1).toNatClampNeg) = 3 then (some (v2, D)) else (if (D.1 (xr S v0 8) (v1).toNatClampNeg) = 4 then (xgrd (xin v1 (xl S (xr S v0 9))) ((self_X12_where v0 (D.1 (xr S v0 9) (v1).toNatClampNeg) v2 D).bind fun q5 => xgrd (xin v1 (xl S (xr S v0 10))) (if 0 ≤ (q5.2.1 (xr S v0 10) (v1).toNatClampNeg) then (xgrd (xin v1 (xl S (xr S v0 10))) ((self_X12_where v0 (q5.2.1 (xr S v0 10) (v1).toNatClampNeg) v2 q5.2).bind fun q8 => f_X12_where_191 F P S self_X12_where v0 v1 v2 q5.1 q8.1 q8.2)) else (f_X12_where_191 F P S self_X12_where v0 v1 v2 q5.1 0 q5.2)))) else (if (D.1 (xr S v0 8) (v1).toNatClampNeg) = 5 then (xgrd (xin v1 (xl S (xr S v0 9))) ((self_X12_where v0 (D.1 (xr S v0 9) (v1).toNatClampNeg) v2 D).bind fun q10 => xgrd (xin v1 (xl S (xr S v0 10))) (if 0 ≤ (q10.2.1 (xr S v0 10) (v1).toNatClampNeg) then (xgrd (xin v1 (xl S (xr S v0 10))) ((self_X12_where v0 (q10.2.1 (xr S v0 10) (v1).toNatClampNeg) v2 q10.2).bind fun q13 => f_X12_where_191 F P S self_X12_where v0 v1 v2 q10.1 q13.1 q13.2)) else (f_X12_where_191 F P S self_X12_where v0 v1 v2 q10.1 0 q10.2)))) else (if (D.1 (xr S v0 8) (v1).toNatClampNeg) = 6 then (xgrd (xin v1 (xl S (xr S v0 9))) ((self_X12_where v0 (D.1 (xr S v0 9) (v1).toNatClampNeg) v2 D).bind fun q15 => xgrd (xin v1 (xl S (xr S v0 10))) (if 0 ≤ (q15.2.1 (xr S v0 10) (v1).toNatClampNeg) then (xgrd (xin v1 (xl S (xr S v0 10))) ((self_X12_where v0 (q15.2.1 (xr S v0 10) (v1).toNatClampNeg) v2 q15.2).bind fun q18 => f_X12_where_191 F P S self_X12_where v0 v1 v2 q15.1 q18.1 q18.2)) else (f_X12_where_191 F P S self_X12_where v0 v1 v2 q15.1 0 q15.2)))) else (if (D.1 (xr S v0 8) (v1).toNatClampNeg) = 7 then (xgrd (xin v1 (xl S (xr S v0 9))) ((self_X12_where v0 (D.1 (xr S v0 9) (v1).toNatClampNeg) v2 D).bind fun q20 => xgrd (xin v1 (xl S (xr S v0 10))) (if 0 ≤ (q20.2.1 (xr S v0 10) (v1).toNatClampNeg) then (xgrd (xin v1 (xl S (xr S v0 10))) ((self_X12_where v0 (q20.2.1 (xr S v0 10) (v1).toNatClampNeg) v2 q20.2).bind fun q23 => f_X12_where_191 F P S self_X12_where v0 v1 v2 q20.1 q23.1 q23.2)) else (f_X12_where_191 F P S self_X12_where v0 v1 v2 q20.1 0 q20.2)))) else (if (D.1 (xr S v0 8) (v1).toNatClampNeg) = 8 then (xgrd (xin v1 (xl S (xr S v0 9))) ((self_X12_where v0 (D.1 (xr S v0 9) (v1).toNatClampNeg) v2 D).bind fun q25 => xgrd (xin v1 (xl S (xr S v0 10))) (if 0 ≤ (q25.2.1 (xr S v0 10) (v1).toNatClampNeg) then (xgrd (xin v1 (xl S (xr S v0 10))) ((self_X12_where v0 (q25.2.1 (xr S v0 10) (v1).toNatClampNeg) v2 q25.2).bind fun q28 => f_X12_where_191 F P S self_X12_where v0 v1 v2 q25.1 q28.1 q28.2)) else (f_X12_where_191 F P S self_X12_where v0 v1 v2 q25.1 0 q25.2)))) else (if (D.1 (xr S v0 8) (v1).toNatClampNeg) = 9 then (xgrd (xin v1 (xl S (xr S v0 9))) ((self_X12_where v0 (D.1 (xr S v0 9) (v1).toNatClampNeg) v2 D).bind fun q30 => xgrd (xin v1 (xl S (xr S v0 10))) (if 0 ≤ (q30.2.1 (xr S v0 10) (v1).toNatClampNeg) then (xgrd (xin v1 (xl S (xr S v0 10))) ((self_X12_where v0 (q30.2.1 (xr S v0 10) (v1).toNatClampNeg) v2 q30.2).bind fun q33 => f_X12_where_191 F P S self_X12_where v0 v1 v2 q30.1 q33.1 q33.2)) else (f_X12_where_191 F P S self_X12_where v0 v1 v2 q30.1 0 q30.2)))) else (if (D.1 (xr S v0 8) (v1).toNatClampNeg) = 10 then (xgrd (xin v1 (xl S (xr S v0 9))) ((self_X12_where v0 (D.1 (xr S v0 9) (v1).toNatClampNeg) v2 D).bind fun q35 => xgrd (xin v1 (xl S (xr S v0 10))) (if 0 ≤ (q35.2.1 (xr S v0 10) (v1).toNatClampNeg) then (xgrd (xin v1 (xl S (xr S v0 10))) ((self_X12_where v0 (q35.2.1 (xr S v0 10) (v1).toNatClampNeg) v2 q35.2).bind fun q38 => f_X12_where_191 F P S self_X12_where v0 v1 v2 q35.1 q38.1 q38.2)) else (f_X12_where_191 F P S self_X12_where v0 v1 v2 q35.1 0 q35.2)))) else (if (D.1 (xr S v0 8) (v1).toNatClampNeg) = 11 then (xgrd (xin v1 (xl S (xr S v0 9))) ((self_X12_where v0 (D.1 (xr S v0 9) (v1).toNatClampNeg) v2 D).bind fun q40 => xgrd (xin v1 (xl S (xr S v0 10))) (if 0 ≤ (q40.2.1 (xr S v0 10) (v1).toNatClampNeg) then (xgrd (xin v1 (xl S (xr S v0 10))) ((self_X12_where v0 (q40.2.1 (xr S v0 10) (v1).toNatClampNeg) v2 q40.2).bind fun q43 => f_X12_where_191 F P S self_X12_where v0 v1 v2 q40.1 q43.1 q43.2)) else (f_X12_where_191 F P S self_X12_where v0 v1 v2 q40.1 0 q40.2)))) else (if (D.1 (xr S v0 8) (v1).toNatClampNeg) = 12 then (xgrd (xin v1 (xl S (xr S v0 9))) ((self_X12_where v0 (D.1 (xr S v0 9) (v1).toNatClampNeg) v2 D).bind fun q45 => xgrd (xin v1 (xl S (xr S v0 10))) (if 0 ≤ (q45.2.1 (xr S v0 10) (v1).toNatClampNeg) then (xgrd (xin v1 (xl S (xr S v0 10))) ((self_X12_where v0 (q45.2.1 (xr S v0 10) (v1).toNatClampNeg) v2 q45.2).bind fun q48 => f_X12_where_191 F P S self_X12_where v0 v1 v2 q45.1 q48.1 q48.2)) else (f_X12_where_191 F P S self_X12_where v0 v1 v2 q45.1 0 q45.2)))) else (if (D.1 (xr S v0 8) (v1).toNatClampNeg) = 13 then (xgrd (xin v1 (xl S (xr S v0 9))) ((self_X12_where v0 (D.1 (xr S v0 9) (v1).toNatClampNeg) v2 D).bind fun q50 => xgrd (xin v1 (xl S (xr S v0 10))) (if 0 ≤ (q50.2.1 (xr S v0 10) (v1).toNatClampNeg) then (xgrd (xin v1 (xl S (xr S v0 10))) ((self_X12_where v0 (q50.2.1 (xr S v0 10) (v1).toNatClampNeg) v2 q50.2).bind fun q53 => f_X12_where_191 F P S self_X12_where v0 v1 v2 q50.1 q53.1 q53.2)) else (f_X12_where_191 F P S self_X12_where v0 v1 v2 q50.1 0 q50.2)))) else (if (D.1 (xr S v0 8) (v1).toNatClampNeg) = 14 then (xgrd (xin v1 (xl S (xr S v0 9))) ((self_X12_where v0 (D.1 (xr S v0 9) (v1).toNatClampNeg) v2 D).bind fun q55 => xgrd (xin v1 (xl S (xr S v0 10))) ((self_X12_where v0 (q55.2.1 (xr S v0 10) (v1).toNatClampNeg) q55.1 q55.2).bind fun q57 => some ((v2 &&& (q55.1 ^^^ (-1))) ||| q57.1, q57.2)))) else (if (D.1 (xr S v0 8) (v1).toNatClampNeg) = 15 then (xgrd (xin v1 (xl S (xr S v0 10))) (xgrd (xin v1 (xl S (xr S v0 9))) ((self_X12_where v0 (D.1 (xr S v0 9) (v1).toNatClampNeg) v2 D).bind fun q60 => (self_X12_where v0 (D.1 (xr S v0 10) (v1).toNatClampNeg) q60.1 q60.2).bind fun q61 => some (q61.1, q61.2)))) else (xgrd (xin v1 (xl S (xr S v0 9))) ((self_X12_where v0 (D.1 (xr S v0 9) (v1).toNatClampNeg) v2 D).bind fun q63 => xgrd (xin v1 (xl S (xr S v0 10))) (if 0 ≤ (q63.2.1 (xr S v0 10) (v1).toNatClampNeg) then (xgrd (xin v1 (xl S (xr S v0 10))) ((self_X12_where v0 (q63.2.1 (xr S v0 10) (v1).toNatClampNeg) v2 q63.2).bind fun q66 => f_X12_where_191 F P S self_X12_where v0 v1 v2 q63.1 q66.1 q66.2)) else (f_X12_where_191 F P S self_X12_where v0 v1 v2 q63.1 0 q63.2)))))))))))))))))))
set_option maxHeartbeats 4000000 in
theorem S_X12_where_o {F P : Nat} {S : xSt} (hS : xWF S) {hh : Nat} (hhc : 4 ≤ hh) {self_X12_where : Nat → Int32 → Int64 → xDt → Option (Int64 × xDt)} (hself_X12_where : ∀ {v0 : Nat} {v1 : Int32} {v2 : Int64} {D : xDt} {r : Int64 × xDt}, xK S v0 12 → self_X12_where v0 v1 v2 D = some r → xSp md_X12_where (hh, 0, 0) [.ref v0, .int v1, .long v2] (S, D) (xQl S r)) {v0 : Nat} {v1 : Int32} {v2 : Int64} {D : xDt} {r : Int64 × xDt} (k0 : xK S v0 12) (h : f_X12_where_o F P S self_X12_where v0 v1 v2 D = some r) : xSp md_X12_where ((hh + 1), 0, 0) [.ref v0, .int v1, .long v2] (S, D) (xQl S r) := by
  unfold f_X12_where_o at h
  refine xEntry (by decide) (Nat.le_of_ble_eq_true rfl) ?_
  refine x_lv (lv' := [(0, .ref v0), (1, .int v1), (2, .long v2)]) [0, 1, 2] rfl ?_
  refine x_aload_n dX12_where_0 0 rfl ?_
  refine y_getr (kd := 100) hS fl_RX12_72 dX12_where_1 rfl k0 ?_
  refine x_iload_n dX12_where_4 1 rfl ?_
  refine xgrd_e h (fun g1 h => ?_)
  refine y_iald dX12_where_5 ((hS.f k0 8 100 rfl).2) g1 ?_
  by_cases c0 : (D.1 (xr S v0 8) (v1).toNatClampNeg) = 1
  · rw [if_pos c0] at h
    refine x_tsIn 1 80 c0 dX12_where_6 (by decide) (by decide) rfl (by decide) ?_
    refine x_aload_n dX12_where_80 0 rfl ?_
    refine x_aload_n dX12_where_81 0 rfl ?_
    refine y_getr (kd := 100) hS fl_RX12_81 dX12_where_82 rfl k0 ?_
    refine x_iload_n dX12_where_85 1 rfl ?_
    refine xgrd_e h (fun g2 h => ?_)
    refine y_iald dX12_where_86 ((hS.f k0 11 100 rfl).2) g2 ?_
    refine xbnd_e h (fun q3 e3 h => ?_)
    refine y_callVl (As := [.int (D.1 (xr S v0 11) (v1).toNatClampNeg)]) (q := q3) cv_RX12_217 dX12_where_87 k0 rfl (Nat.le_of_ble_eq_true rfl) (by omega) (S_X12_ofAtom hS k0 e3) ?_
    refine x_lload_n dX12_where_90 2 rfl ?_
    refine x_land dX12_where_91 ?_
    obtain rfl := Option.some.inj h
    exact y_lret rfl dX12_where_92
  · rw [if_neg c0] at h
    by_cases c1 : (D.1 (xr S v0 8) (v1).toNatClampNeg) = 2
    · rw [if_pos c1] at h
      refine x_tsIn 2 93 c1 dX12_where_6 (by decide) (by decide) rfl (by decide) ?_
      refine x_lconst 0 dX12_where_93 (by decide) ?_
      obtain rfl := Option.some.inj h
      exact y_lret rfl dX12_where_94
    · rw [if_neg c1] at h
      by_cases c2 : (D.1 (xr S v0 8) (v1).toNatClampNeg) = 3
      · rw [if_pos c2] at h
        refine x_tsIn 3 95 c2 dX12_where_6 (by decide) (by decide) rfl (by decide) ?_
        refine x_lload_n dX12_where_95 2 rfl ?_
        obtain rfl := Option.some.inj h
        exact y_lret rfl dX12_where_96
      · rw [if_neg c2] at h
        by_cases c3 : (D.1 (xr S v0 8) (v1).toNatClampNeg) = 4
        · rw [if_pos c3] at h
          refine x_tsIn 4 154 c3 dX12_where_6 (by decide) (by decide) rfl (by decide) ?_
          refine x_aload_n dX12_where_154 0 rfl ?_
          refine x_aload_n dX12_where_155 0 rfl ?_
          refine y_getr (kd := 100) hS fl_RX12_75 dX12_where_156 rfl k0 ?_
          refine x_iload_n dX12_where_159 1 rfl ?_
          refine xgrd_e h (fun g4 h => ?_)
          refine y_iald dX12_where_160 ((hS.f k0 9 100 rfl).2) g4 ?_
          refine x_lload_n dX12_where_161 2 rfl ?_
          refine xbnd_e h (fun q5 e5 h => ?_)
          refine y_callVl (As := [.int (D.1 (xr S v0 9) (v1).toNatClampNeg), .long v2]) (q := q5) cv_RX12_221 dX12_where_162 k0 rfl (Nat.le_of_ble_eq_true rfl) (by omega) (hself_X12_where k0 e5) ?_
          refine y_lstore q5.1 rfl [(4, .long q5.1), (0, .ref v0), (1, .int v1), (2, .long v2)] dX12_where_165 (by show _ < 8; decide) rfl ?_
          refine x_aload_n dX12_where_167 1 rfl ?_
          refine y_getr (kd := 100) hS fl_RX12_78 dX12_where_168 rfl k0 ?_
          refine x_iload_n dX12_where_171 2 rfl ?_
          refine xgrd_e h (fun g6 h => ?_)
          refine y_iald dX12_where_172 ((hS.f k0 10 100 rfl).2) g6 ?_
          refine x_if_ge 180 dX12_where_173 (by decide) (fun c => ?_) (fun c => ?_)
          · rw [if_pos c] at h
            refine x_aload_n dX12_where_180 1 rfl ?_
            refine x_aload_n dX12_where_181 1 rfl ?_
            refine y_getr (kd := 100) hS fl_RX12_78 dX12_where_182 rfl k0 ?_
            refine x_iload_n dX12_where_185 2 rfl ?_
            refine xgrd_e h (fun g7 h => ?_)
            refine y_iald dX12_where_186 ((hS.f k0 10 100 rfl).2) g7 ?_
            refine x_lload_n dX12_where_187 3 rfl ?_
            refine xbnd_e h (fun q8 e8 h => ?_)
            refine y_callVl (As := [.int (q5.2.1 (xr S v0 10) (v1).toNatClampNeg), .long v2]) (q := q8) cv_RX12_221 dX12_where_188 k0 rfl (Nat.le_of_ble_eq_true rfl) (by omega) (hself_X12_where k0 e8) ?_
            refine x_lv (lv' := [(0, .ref v0), (1, .int v1), (2, .long v2), (4, .long q5.1)]) [1, 2, 3, 0] rfl ?_
            exact t_X12_where_191 hS hhc hself_X12_where k0 h
          · rw [if_neg c] at h
            refine x_lconst 0 dX12_where_176 (by decide) ?_
            refine x_goto 191 dX12_where_177 (by decide) ?_
            refine x_lv (lv' := [(0, .ref v0), (1, .int v1), (2, .long v2), (4, .long q5.1)]) [1, 2, 3, 0] rfl ?_
            exact t_X12_where_191 hS hhc hself_X12_where k0 h
        · rw [if_neg c3] at h
          by_cases c4 : (D.1 (xr S v0 8) (v1).toNatClampNeg) = 5
          · rw [if_pos c4] at h
            refine x_tsIn 5 154 c4 dX12_where_6 (by decide) (by decide) rfl (by decide) ?_
            refine x_aload_n dX12_where_154 0 rfl ?_
            refine x_aload_n dX12_where_155 0 rfl ?_
            refine y_getr (kd := 100) hS fl_RX12_75 dX12_where_156 rfl k0 ?_
            refine x_iload_n dX12_where_159 1 rfl ?_
            refine xgrd_e h (fun g9 h => ?_)
            refine y_iald dX12_where_160 ((hS.f k0 9 100 rfl).2) g9 ?_
            refine x_lload_n dX12_where_161 2 rfl ?_
            refine xbnd_e h (fun q10 e10 h => ?_)
            refine y_callVl (As := [.int (D.1 (xr S v0 9) (v1).toNatClampNeg), .long v2]) (q := q10) cv_RX12_221 dX12_where_162 k0 rfl (Nat.le_of_ble_eq_true rfl) (by omega) (hself_X12_where k0 e10) ?_
            refine y_lstore q10.1 rfl [(4, .long q10.1), (0, .ref v0), (1, .int v1), (2, .long v2)] dX12_where_165 (by show _ < 8; decide) rfl ?_
            refine x_aload_n dX12_where_167 1 rfl ?_
            refine y_getr (kd := 100) hS fl_RX12_78 dX12_where_168 rfl k0 ?_
            refine x_iload_n dX12_where_171 2 rfl ?_
            refine xgrd_e h (fun g11 h => ?_)
            refine y_iald dX12_where_172 ((hS.f k0 10 100 rfl).2) g11 ?_
            refine x_if_ge 180 dX12_where_173 (by decide) (fun c => ?_) (fun c => ?_)
            · rw [if_pos c] at h
              refine x_aload_n dX12_where_180 1 rfl ?_
              refine x_aload_n dX12_where_181 1 rfl ?_
              refine y_getr (kd := 100) hS fl_RX12_78 dX12_where_182 rfl k0 ?_
              refine x_iload_n dX12_where_185 2 rfl ?_
              refine xgrd_e h (fun g12 h => ?_)
              refine y_iald dX12_where_186 ((hS.f k0 10 100 rfl).2) g12 ?_
              refine x_lload_n dX12_where_187 3 rfl ?_
              refine xbnd_e h (fun q13 e13 h => ?_)
              refine y_callVl (As := [.int (q10.2.1 (xr S v0 10) (v1).toNatClampNeg), .long v2]) (q := q13) cv_RX12_221 dX12_where_188 k0 rfl (Nat.le_of_ble_eq_true rfl) (by omega) (hself_X12_where k0 e13) ?_
              refine x_lv (lv' := [(0, .ref v0), (1, .int v1), (2, .long v2), (4, .long q10.1)]) [1, 2, 3, 0] rfl ?_
              exact t_X12_where_191 hS hhc hself_X12_where k0 h
            · rw [if_neg c] at h
              refine x_lconst 0 dX12_where_176 (by decide) ?_
              refine x_goto 191 dX12_where_177 (by decide) ?_
              refine x_lv (lv' := [(0, .ref v0), (1, .int v1), (2, .long v2), (4, .long q10.1)]) [1, 2, 3, 0] rfl ?_
              exact t_X12_where_191 hS hhc hself_X12_where k0 h
          · rw [if_neg c4] at h
            by_cases c5 : (D.1 (xr S v0 8) (v1).toNatClampNeg) = 6
            · rw [if_pos c5] at h
              refine x_tsIn 6 154 c5 dX12_where_6 (by decide) (by decide) rfl (by decide) ?_
              refine x_aload_n dX12_where_154 0 rfl ?_
              refine x_aload_n dX12_where_155 0 rfl ?_
              refine y_getr (kd := 100) hS fl_RX12_75 dX12_where_156 rfl k0 ?_
              refine x_iload_n dX12_where_159 1 rfl ?_
              refine xgrd_e h (fun g14 h => ?_)
              refine y_iald dX12_where_160 ((hS.f k0 9 100 rfl).2) g14 ?_
              refine x_lload_n dX12_where_161 2 rfl ?_
              refine xbnd_e h (fun q15 e15 h => ?_)
              refine y_callVl (As := [.int (D.1 (xr S v0 9) (v1).toNatClampNeg), .long v2]) (q := q15) cv_RX12_221 dX12_where_162 k0 rfl (Nat.le_of_ble_eq_true rfl) (by omega) (hself_X12_where k0 e15) ?_
              refine y_lstore q15.1 rfl [(4, .long q15.1), (0, .ref v0), (1, .int v1), (2, .long v2)] dX12_where_165 (by show _ < 8; decide) rfl ?_
              refine x_aload_n dX12_where_167 1 rfl ?_
              refine y_getr (kd := 100) hS fl_RX12_78 dX12_where_168 rfl k0 ?_
              refine x_iload_n dX12_where_171 2 rfl ?_
              refine xgrd_e h (fun g16 h => ?_)
              refine y_iald dX12_where_172 ((hS.f k0 10 100 rfl).2) g16 ?_
              refine x_if_ge 180 dX12_where_173 (by decide) (fun c => ?_) (fun c => ?_)
              · rw [if_pos c] at h
                refine x_aload_n dX12_where_180 1 rfl ?_
                refine x_aload_n dX12_where_181 1 rfl ?_
                refine y_getr (kd := 100) hS fl_RX12_78 dX12_where_182 rfl k0 ?_
                refine x_iload_n dX12_where_185 2 rfl ?_
                refine xgrd_e h (fun g17 h => ?_)
                refine y_iald dX12_where_186 ((hS.f k0 10 100 rfl).2) g17 ?_
                refine x_lload_n dX12_where_187 3 rfl ?_
                refine xbnd_e h (fun q18 e18 h => ?_)
                refine y_callVl (As := [.int (q15.2.1 (xr S v0 10) (v1).toNatClampNeg), .long v2]) (q := q18) cv_RX12_221 dX12_where_188 k0 rfl (Nat.le_of_ble_eq_true rfl) (by omega) (hself_X12_where k0 e18) ?_
                refine x_lv (lv' := [(0, .ref v0), (1, .int v1), (2, .long v2), (4, .long q15.1)]) [1, 2, 3, 0] rfl ?_
                exact t_X12_where_191 hS hhc hself_X12_where k0 h
              · rw [if_neg c] at h
                refine x_lconst 0 dX12_where_176 (by decide) ?_
                refine x_goto 191 dX12_where_177 (by decide) ?_
                refine x_lv (lv' := [(0, .ref v0), (1, .int v1), (2, .long v2), (4, .long q15.1)]) [1, 2, 3, 0] rfl ?_
                exact t_X12_where_191 hS hhc hself_X12_where k0 h
            · rw [if_neg c5] at h
              by_cases c6 : (D.1 (xr S v0 8) (v1).toNatClampNeg) = 7
              · rw [if_pos c6] at h
                refine x_tsIn 7 154 c6 dX12_where_6 (by decide) (by decide) rfl (by decide) ?_
                refine x_aload_n dX12_where_154 0 rfl ?_
                refine x_aload_n dX12_where_155 0 rfl ?_
                refine y_getr (kd := 100) hS fl_RX12_75 dX12_where_156 rfl k0 ?_
                refine x_iload_n dX12_where_159 1 rfl ?_
                refine xgrd_e h (fun g19 h => ?_)
                refine y_iald dX12_where_160 ((hS.f k0 9 100 rfl).2) g19 ?_
                refine x_lload_n dX12_where_161 2 rfl ?_
                refine xbnd_e h (fun q20 e20 h => ?_)
                refine y_callVl (As := [.int (D.1 (xr S v0 9) (v1).toNatClampNeg), .long v2]) (q := q20) cv_RX12_221 dX12_where_162 k0 rfl (Nat.le_of_ble_eq_true rfl) (by omega) (hself_X12_where k0 e20) ?_
                refine y_lstore q20.1 rfl [(4, .long q20.1), (0, .ref v0), (1, .int v1), (2, .long v2)] dX12_where_165 (by show _ < 8; decide) rfl ?_
                refine x_aload_n dX12_where_167 1 rfl ?_
                refine y_getr (kd := 100) hS fl_RX12_78 dX12_where_168 rfl k0 ?_
                refine x_iload_n dX12_where_171 2 rfl ?_
                refine xgrd_e h (fun g21 h => ?_)
                refine y_iald dX12_where_172 ((hS.f k0 10 100 rfl).2) g21 ?_
                refine x_if_ge 180 dX12_where_173 (by decide) (fun c => ?_) (fun c => ?_)
                · rw [if_pos c] at h
                  refine x_aload_n dX12_where_180 1 rfl ?_
                  refine x_aload_n dX12_where_181 1 rfl ?_
                  refine y_getr (kd := 100) hS fl_RX12_78 dX12_where_182 rfl k0 ?_
                  refine x_iload_n dX12_where_185 2 rfl ?_
                  refine xgrd_e h (fun g22 h => ?_)
                  refine y_iald dX12_where_186 ((hS.f k0 10 100 rfl).2) g22 ?_
                  refine x_lload_n dX12_where_187 3 rfl ?_
                  refine xbnd_e h (fun q23 e23 h => ?_)
                  refine y_callVl (As := [.int (q20.2.1 (xr S v0 10) (v1).toNatClampNeg), .long v2]) (q := q23) cv_RX12_221 dX12_where_188 k0 rfl (Nat.le_of_ble_eq_true rfl) (by omega) (hself_X12_where k0 e23) ?_
                  refine x_lv (lv' := [(0, .ref v0), (1, .int v1), (2, .long v2), (4, .long q20.1)]) [1, 2, 3, 0] rfl ?_
                  exact t_X12_where_191 hS hhc hself_X12_where k0 h
                · rw [if_neg c] at h
                  refine x_lconst 0 dX12_where_176 (by decide) ?_
                  refine x_goto 191 dX12_where_177 (by decide) ?_
                  refine x_lv (lv' := [(0, .ref v0), (1, .int v1), (2, .long v2), (4, .long q20.1)]) [1, 2, 3, 0] rfl ?_
                  exact t_X12_where_191 hS hhc hself_X12_where k0 h
              · rw [if_neg c6] at h
                by_cases c7 : (D.1 (xr S v0 8) (v1).toNatClampNeg) = 8
                · rw [if_pos c7] at h
                  refine x_tsIn 8 154 c7 dX12_where_6 (by decide) (by decide) rfl (by decide) ?_
                  refine x_aload_n dX12_where_154 0 rfl ?_
                  refine x_aload_n dX12_where_155 0 rfl ?_
                  refine y_getr (kd := 100) hS fl_RX12_75 dX12_where_156 rfl k0 ?_
                  refine x_iload_n dX12_where_159 1 rfl ?_
                  refine xgrd_e h (fun g24 h => ?_)
                  refine y_iald dX12_where_160 ((hS.f k0 9 100 rfl).2) g24 ?_
                  refine x_lload_n dX12_where_161 2 rfl ?_
                  refine xbnd_e h (fun q25 e25 h => ?_)
                  refine y_callVl (As := [.int (D.1 (xr S v0 9) (v1).toNatClampNeg), .long v2]) (q := q25) cv_RX12_221 dX12_where_162 k0 rfl (Nat.le_of_ble_eq_true rfl) (by omega) (hself_X12_where k0 e25) ?_
                  refine y_lstore q25.1 rfl [(4, .long q25.1), (0, .ref v0), (1, .int v1), (2, .long v2)] dX12_where_165 (by show _ < 8; decide) rfl ?_
                  refine x_aload_n dX12_where_167 1 rfl ?_
                  refine y_getr (kd := 100) hS fl_RX12_78 dX12_where_168 rfl k0 ?_
                  refine x_iload_n dX12_where_171 2 rfl ?_
                  refine xgrd_e h (fun g26 h => ?_)
                  refine y_iald dX12_where_172 ((hS.f k0 10 100 rfl).2) g26 ?_
                  refine x_if_ge 180 dX12_where_173 (by decide) (fun c => ?_) (fun c => ?_)
                  · rw [if_pos c] at h
                    refine x_aload_n dX12_where_180 1 rfl ?_
                    refine x_aload_n dX12_where_181 1 rfl ?_
                    refine y_getr (kd := 100) hS fl_RX12_78 dX12_where_182 rfl k0 ?_
                    refine x_iload_n dX12_where_185 2 rfl ?_
                    refine xgrd_e h (fun g27 h => ?_)
                    refine y_iald dX12_where_186 ((hS.f k0 10 100 rfl).2) g27 ?_
                    refine x_lload_n dX12_where_187 3 rfl ?_
                    refine xbnd_e h (fun q28 e28 h => ?_)
                    refine y_callVl (As := [.int (q25.2.1 (xr S v0 10) (v1).toNatClampNeg), .long v2]) (q := q28) cv_RX12_221 dX12_where_188 k0 rfl (Nat.le_of_ble_eq_true rfl) (by omega) (hself_X12_where k0 e28) ?_
                    refine x_lv (lv' := [(0, .ref v0), (1, .int v1), (2, .long v2), (4, .long q25.1)]) [1, 2, 3, 0] rfl ?_
                    exact t_X12_where_191 hS hhc hself_X12_where k0 h
                  · rw [if_neg c] at h
                    refine x_lconst 0 dX12_where_176 (by decide) ?_
                    refine x_goto 191 dX12_where_177 (by decide) ?_
                    refine x_lv (lv' := [(0, .ref v0), (1, .int v1), (2, .long v2), (4, .long q25.1)]) [1, 2, 3, 0] rfl ?_
                    exact t_X12_where_191 hS hhc hself_X12_where k0 h
                · rw [if_neg c7] at h
                  by_cases c8 : (D.1 (xr S v0 8) (v1).toNatClampNeg) = 9
                  · rw [if_pos c8] at h
                    refine x_tsIn 9 154 c8 dX12_where_6 (by decide) (by decide) rfl (by decide) ?_
                    refine x_aload_n dX12_where_154 0 rfl ?_
                    refine x_aload_n dX12_where_155 0 rfl ?_
                    refine y_getr (kd := 100) hS fl_RX12_75 dX12_where_156 rfl k0 ?_
                    refine x_iload_n dX12_where_159 1 rfl ?_
                    refine xgrd_e h (fun g29 h => ?_)
                    refine y_iald dX12_where_160 ((hS.f k0 9 100 rfl).2) g29 ?_
                    refine x_lload_n dX12_where_161 2 rfl ?_
                    refine xbnd_e h (fun q30 e30 h => ?_)
                    refine y_callVl (As := [.int (D.1 (xr S v0 9) (v1).toNatClampNeg), .long v2]) (q := q30) cv_RX12_221 dX12_where_162 k0 rfl (Nat.le_of_ble_eq_true rfl) (by omega) (hself_X12_where k0 e30) ?_
                    refine y_lstore q30.1 rfl [(4, .long q30.1), (0, .ref v0), (1, .int v1), (2, .long v2)] dX12_where_165 (by show _ < 8; decide) rfl ?_
                    refine x_aload_n dX12_where_167 1 rfl ?_
                    refine y_getr (kd := 100) hS fl_RX12_78 dX12_where_168 rfl k0 ?_
                    refine x_iload_n dX12_where_171 2 rfl ?_
                    refine xgrd_e h (fun g31 h => ?_)
                    refine y_iald dX12_where_172 ((hS.f k0 10 100 rfl).2) g31 ?_
                    refine x_if_ge 180 dX12_where_173 (by decide) (fun c => ?_) (fun c => ?_)
                    · rw [if_pos c] at h
                      refine x_aload_n dX12_where_180 1 rfl ?_
                      refine x_aload_n dX12_where_181 1 rfl ?_
                      refine y_getr (kd := 100) hS fl_RX12_78 dX12_where_182 rfl k0 ?_
                      refine x_iload_n dX12_where_185 2 rfl ?_
                      refine xgrd_e h (fun g32 h => ?_)
                      refine y_iald dX12_where_186 ((hS.f k0 10 100 rfl).2) g32 ?_
                      refine x_lload_n dX12_where_187 3 rfl ?_
                      refine xbnd_e h (fun q33 e33 h => ?_)
                      refine y_callVl (As := [.int (q30.2.1 (xr S v0 10) (v1).toNatClampNeg), .long v2]) (q := q33) cv_RX12_221 dX12_where_188 k0 rfl (Nat.le_of_ble_eq_true rfl) (by omega) (hself_X12_where k0 e33) ?_
                      refine x_lv (lv' := [(0, .ref v0), (1, .int v1), (2, .long v2), (4, .long q30.1)]) [1, 2, 3, 0] rfl ?_
                      exact t_X12_where_191 hS hhc hself_X12_where k0 h
                    · rw [if_neg c] at h
                      refine x_lconst 0 dX12_where_176 (by decide) ?_
                      refine x_goto 191 dX12_where_177 (by decide) ?_
                      refine x_lv (lv' := [(0, .ref v0), (1, .int v1), (2, .long v2), (4, .long q30.1)]) [1, 2, 3, 0] rfl ?_
                      exact t_X12_where_191 hS hhc hself_X12_where k0 h
                  · rw [if_neg c8] at h
                    by_cases c9 : (D.1 (xr S v0 8) (v1).toNatClampNeg) = 10
                    · rw [if_pos c9] at h
                      refine x_tsIn 10 154 c9 dX12_where_6 (by decide) (by decide) rfl (by decide) ?_
                      refine x_aload_n dX12_where_154 0 rfl ?_
                      refine x_aload_n dX12_where_155 0 rfl ?_
                      refine y_getr (kd := 100) hS fl_RX12_75 dX12_where_156 rfl k0 ?_
                      refine x_iload_n dX12_where_159 1 rfl ?_
                      refine xgrd_e h (fun g34 h => ?_)
                      refine y_iald dX12_where_160 ((hS.f k0 9 100 rfl).2) g34 ?_
                      refine x_lload_n dX12_where_161 2 rfl ?_
                      refine xbnd_e h (fun q35 e35 h => ?_)
                      refine y_callVl (As := [.int (D.1 (xr S v0 9) (v1).toNatClampNeg), .long v2]) (q := q35) cv_RX12_221 dX12_where_162 k0 rfl (Nat.le_of_ble_eq_true rfl) (by omega) (hself_X12_where k0 e35) ?_
                      refine y_lstore q35.1 rfl [(4, .long q35.1), (0, .ref v0), (1, .int v1), (2, .long v2)] dX12_where_165 (by show _ < 8; decide) rfl ?_
                      refine x_aload_n dX12_where_167 1 rfl ?_
                      refine y_getr (kd := 100) hS fl_RX12_78 dX12_where_168 rfl k0 ?_
                      refine x_iload_n dX12_where_171 2 rfl ?_
                      refine xgrd_e h (fun g36 h => ?_)
                      refine y_iald dX12_where_172 ((hS.f k0 10 100 rfl).2) g36 ?_
                      refine x_if_ge 180 dX12_where_173 (by decide) (fun c => ?_) (fun c => ?_)
                      · rw [if_pos c] at h
                        refine x_aload_n dX12_where_180 1 rfl ?_
                        refine x_aload_n dX12_where_181 1 rfl ?_
                        refine y_getr (kd := 100) hS fl_RX12_78 dX12_where_182 rfl k0 ?_
                        refine x_iload_n dX12_where_185 2 rfl ?_
                        refine xgrd_e h (fun g37 h => ?_)
                        refine y_iald dX12_where_186 ((hS.f k0 10 100 rfl).2) g37 ?_
                        refine x_lload_n dX12_where_187 3 rfl ?_
                        refine xbnd_e h (fun q38 e38 h => ?_)
                        refine y_callVl (As := [.int (q35.2.1 (xr S v0 10) (v1).toNatClampNeg), .long v2]) (q := q38) cv_RX12_221 dX12_where_188 k0 rfl (Nat.le_of_ble_eq_true rfl) (by omega) (hself_X12_where k0 e38) ?_
                        refine x_lv (lv' := [(0, .ref v0), (1, .int v1), (2, .long v2), (4, .long q35.1)]) [1, 2, 3, 0] rfl ?_
                        exact t_X12_where_191 hS hhc hself_X12_where k0 h
                      · rw [if_neg c] at h
                        refine x_lconst 0 dX12_where_176 (by decide) ?_
                        refine x_goto 191 dX12_where_177 (by decide) ?_
                        refine x_lv (lv' := [(0, .ref v0), (1, .int v1), (2, .long v2), (4, .long q35.1)]) [1, 2, 3, 0] rfl ?_
                        exact t_X12_where_191 hS hhc hself_X12_where k0 h
                    · rw [if_neg c9] at h
                      by_cases c10 : (D.1 (xr S v0 8) (v1).toNatClampNeg) = 11
                      · rw [if_pos c10] at h
                        refine x_tsIn 11 154 c10 dX12_where_6 (by decide) (by decide) rfl (by decide) ?_
                        refine x_aload_n dX12_where_154 0 rfl ?_
                        refine x_aload_n dX12_where_155 0 rfl ?_
                        refine y_getr (kd := 100) hS fl_RX12_75 dX12_where_156 rfl k0 ?_
                        refine x_iload_n dX12_where_159 1 rfl ?_
                        refine xgrd_e h (fun g39 h => ?_)
                        refine y_iald dX12_where_160 ((hS.f k0 9 100 rfl).2) g39 ?_
                        refine x_lload_n dX12_where_161 2 rfl ?_
                        refine xbnd_e h (fun q40 e40 h => ?_)
                        refine y_callVl (As := [.int (D.1 (xr S v0 9) (v1).toNatClampNeg), .long v2]) (q := q40) cv_RX12_221 dX12_where_162 k0 rfl (Nat.le_of_ble_eq_true rfl) (by omega) (hself_X12_where k0 e40) ?_
                        refine y_lstore q40.1 rfl [(4, .long q40.1), (0, .ref v0), (1, .int v1), (2, .long v2)] dX12_where_165 (by show _ < 8; decide) rfl ?_
                        refine x_aload_n dX12_where_167 1 rfl ?_
                        refine y_getr (kd := 100) hS fl_RX12_78 dX12_where_168 rfl k0 ?_
                        refine x_iload_n dX12_where_171 2 rfl ?_
                        refine xgrd_e h (fun g41 h => ?_)
                        refine y_iald dX12_where_172 ((hS.f k0 10 100 rfl).2) g41 ?_
                        refine x_if_ge 180 dX12_where_173 (by decide) (fun c => ?_) (fun c => ?_)
                        · rw [if_pos c] at h
                          refine x_aload_n dX12_where_180 1 rfl ?_
                          refine x_aload_n dX12_where_181 1 rfl ?_
                          refine y_getr (kd := 100) hS fl_RX12_78 dX12_where_182 rfl k0 ?_
                          refine x_iload_n dX12_where_185 2 rfl ?_
                          refine xgrd_e h (fun g42 h => ?_)
                          refine y_iald dX12_where_186 ((hS.f k0 10 100 rfl).2) g42 ?_
                          refine x_lload_n dX12_where_187 3 rfl ?_
                          refine xbnd_e h (fun q43 e43 h => ?_)
                          refine y_callVl (As := [.int (q40.2.1 (xr S v0 10) (v1).toNatClampNeg), .long v2]) (q := q43) cv_RX12_221 dX12_where_188 k0 rfl (Nat.le_of_ble_eq_true rfl) (by omega) (hself_X12_where k0 e43) ?_
                          refine x_lv (lv' := [(0, .ref v0), (1, .int v1), (2, .long v2), (4, .long q40.1)]) [1, 2, 3, 0] rfl ?_
                          exact t_X12_where_191 hS hhc hself_X12_where k0 h
                        · rw [if_neg c] at h
                          refine x_lconst 0 dX12_where_176 (by decide) ?_
                          refine x_goto 191 dX12_where_177 (by decide) ?_
                          refine x_lv (lv' := [(0, .ref v0), (1, .int v1), (2, .long v2), (4, .long q40.1)]) [1, 2, 3, 0] rfl ?_
                          exact t_X12_where_191 hS hhc hself_X12_where k0 h
                      · rw [if_neg c10] at h
                        by_cases c11 : (D.1 (xr S v0 8) (v1).toNatClampNeg) = 12
                        · rw [if_pos c11] at h
                          refine x_tsIn 12 154 c11 dX12_where_6 (by decide) (by decide) rfl (by decide) ?_
                          refine x_aload_n dX12_where_154 0 rfl ?_
                          refine x_aload_n dX12_where_155 0 rfl ?_
                          refine y_getr (kd := 100) hS fl_RX12_75 dX12_where_156 rfl k0 ?_
                          refine x_iload_n dX12_where_159 1 rfl ?_
                          refine xgrd_e h (fun g44 h => ?_)
                          refine y_iald dX12_where_160 ((hS.f k0 9 100 rfl).2) g44 ?_
                          refine x_lload_n dX12_where_161 2 rfl ?_
                          refine xbnd_e h (fun q45 e45 h => ?_)
                          refine y_callVl (As := [.int (D.1 (xr S v0 9) (v1).toNatClampNeg), .long v2]) (q := q45) cv_RX12_221 dX12_where_162 k0 rfl (Nat.le_of_ble_eq_true rfl) (by omega) (hself_X12_where k0 e45) ?_
                          refine y_lstore q45.1 rfl [(4, .long q45.1), (0, .ref v0), (1, .int v1), (2, .long v2)] dX12_where_165 (by show _ < 8; decide) rfl ?_
                          refine x_aload_n dX12_where_167 1 rfl ?_
                          refine y_getr (kd := 100) hS fl_RX12_78 dX12_where_168 rfl k0 ?_
                          refine x_iload_n dX12_where_171 2 rfl ?_
                          refine xgrd_e h (fun g46 h => ?_)
                          refine y_iald dX12_where_172 ((hS.f k0 10 100 rfl).2) g46 ?_
                          refine x_if_ge 180 dX12_where_173 (by decide) (fun c => ?_) (fun c => ?_)
                          · rw [if_pos c] at h
                            refine x_aload_n dX12_where_180 1 rfl ?_
                            refine x_aload_n dX12_where_181 1 rfl ?_
                            refine y_getr (kd := 100) hS fl_RX12_78 dX12_where_182 rfl k0 ?_
                            refine x_iload_n dX12_where_185 2 rfl ?_
                            refine xgrd_e h (fun g47 h => ?_)
                            refine y_iald dX12_where_186 ((hS.f k0 10 100 rfl).2) g47 ?_
                            refine x_lload_n dX12_where_187 3 rfl ?_
                            refine xbnd_e h (fun q48 e48 h => ?_)
                            refine y_callVl (As := [.int (q45.2.1 (xr S v0 10) (v1).toNatClampNeg), .long v2]) (q := q48) cv_RX12_221 dX12_where_188 k0 rfl (Nat.le_of_ble_eq_true rfl) (by omega) (hself_X12_where k0 e48) ?_
                            refine x_lv (lv' := [(0, .ref v0), (1, .int v1), (2, .long v2), (4, .long q45.1)]) [1, 2, 3, 0] rfl ?_
                            exact t_X12_where_191 hS hhc hself_X12_where k0 h
                          · rw [if_neg c] at h
                            refine x_lconst 0 dX12_where_176 (by decide) ?_
                            refine x_goto 191 dX12_where_177 (by decide) ?_
                            refine x_lv (lv' := [(0, .ref v0), (1, .int v1), (2, .long v2), (4, .long q45.1)]) [1, 2, 3, 0] rfl ?_
                            exact t_X12_where_191 hS hhc hself_X12_where k0 h
                        · rw [if_neg c11] at h
                          by_cases c12 : (D.1 (xr S v0 8) (v1).toNatClampNeg) = 13
                          · rw [if_pos c12] at h
                            refine x_tsIn 13 154 c12 dX12_where_6 (by decide) (by decide) rfl (by decide) ?_
                            refine x_aload_n dX12_where_154 0 rfl ?_
                            refine x_aload_n dX12_where_155 0 rfl ?_
                            refine y_getr (kd := 100) hS fl_RX12_75 dX12_where_156 rfl k0 ?_
                            refine x_iload_n dX12_where_159 1 rfl ?_
                            refine xgrd_e h (fun g49 h => ?_)
                            refine y_iald dX12_where_160 ((hS.f k0 9 100 rfl).2) g49 ?_
                            refine x_lload_n dX12_where_161 2 rfl ?_
                            refine xbnd_e h (fun q50 e50 h => ?_)
                            refine y_callVl (As := [.int (D.1 (xr S v0 9) (v1).toNatClampNeg), .long v2]) (q := q50) cv_RX12_221 dX12_where_162 k0 rfl (Nat.le_of_ble_eq_true rfl) (by omega) (hself_X12_where k0 e50) ?_
                            refine y_lstore q50.1 rfl [(4, .long q50.1), (0, .ref v0), (1, .int v1), (2, .long v2)] dX12_where_165 (by show _ < 8; decide) rfl ?_
                            refine x_aload_n dX12_where_167 1 rfl ?_
                            refine y_getr (kd := 100) hS fl_RX12_78 dX12_where_168 rfl k0 ?_
                            refine x_iload_n dX12_where_171 2 rfl ?_
                            refine xgrd_e h (fun g51 h => ?_)
                            refine y_iald dX12_where_172 ((hS.f k0 10 100 rfl).2) g51 ?_
                            refine x_if_ge 180 dX12_where_173 (by decide) (fun c => ?_) (fun c => ?_)
                            · rw [if_pos c] at h
                              refine x_aload_n dX12_where_180 1 rfl ?_
                              refine x_aload_n dX12_where_181 1 rfl ?_
                              refine y_getr (kd := 100) hS fl_RX12_78 dX12_where_182 rfl k0 ?_
                              refine x_iload_n dX12_where_185 2 rfl ?_
                              refine xgrd_e h (fun g52 h => ?_)
                              refine y_iald dX12_where_186 ((hS.f k0 10 100 rfl).2) g52 ?_
                              refine x_lload_n dX12_where_187 3 rfl ?_
                              refine xbnd_e h (fun q53 e53 h => ?_)
                              refine y_callVl (As := [.int (q50.2.1 (xr S v0 10) (v1).toNatClampNeg), .long v2]) (q := q53) cv_RX12_221 dX12_where_188 k0 rfl (Nat.le_of_ble_eq_true rfl) (by omega) (hself_X12_where k0 e53) ?_
                              refine x_lv (lv' := [(0, .ref v0), (1, .int v1), (2, .long v2), (4, .long q50.1)]) [1, 2, 3, 0] rfl ?_
                              exact t_X12_where_191 hS hhc hself_X12_where k0 h
                            · rw [if_neg c] at h
                              refine x_lconst 0 dX12_where_176 (by decide) ?_
                              refine x_goto 191 dX12_where_177 (by decide) ?_
                              refine x_lv (lv' := [(0, .ref v0), (1, .int v1), (2, .long v2), (4, .long q50.1)]) [1, 2, 3, 0] rfl ?_
                              exact t_X12_where_191 hS hhc hself_X12_where k0 h
                          · rw [if_neg c12] at h
                            by_cases c13 : (D.1 (xr S v0 8) (v1).toNatClampNeg) = 14
                            · rw [if_pos c13] at h
                              refine x_tsIn 14 97 c13 dX12_where_6 (by decide) (by decide) rfl (by decide) ?_
                              refine x_aload_n dX12_where_97 0 rfl ?_
                              refine x_aload_n dX12_where_98 0 rfl ?_
                              refine y_getr (kd := 100) hS fl_RX12_75 dX12_where_99 rfl k0 ?_
                              refine x_iload_n dX12_where_102 1 rfl ?_
                              refine xgrd_e h (fun g54 h => ?_)
                              refine y_iald dX12_where_103 ((hS.f k0 9 100 rfl).2) g54 ?_
                              refine x_lload_n dX12_where_104 2 rfl ?_
                              refine xbnd_e h (fun q55 e55 h => ?_)
                              refine y_callVl (As := [.int (D.1 (xr S v0 9) (v1).toNatClampNeg), .long v2]) (q := q55) cv_RX12_221 dX12_where_105 k0 rfl (Nat.le_of_ble_eq_true rfl) (by omega) (hself_X12_where k0 e55) ?_
                              refine y_lstore q55.1 rfl [(4, .long q55.1), (0, .ref v0), (1, .int v1), (2, .long v2)] dX12_where_108 (by show _ < 8; decide) rfl ?_
                              refine x_lload_n dX12_where_110 3 rfl ?_
                              refine x_lload dX12_where_111 0 rfl ?_
                              refine x_ldc2 (-1) dX12_where_113 wd_1127 ?_
                              refine x_lxor dX12_where_116 ?_
                              refine x_land dX12_where_117 ?_
                              refine x_aload_n dX12_where_118 1 rfl ?_
                              refine x_aload_n dX12_where_119 1 rfl ?_
                              refine y_getr (kd := 100) hS fl_RX12_78 dX12_where_120 rfl k0 ?_
                              refine x_iload_n dX12_where_123 2 rfl ?_
                              refine xgrd_e h (fun g56 h => ?_)
                              refine y_iald dX12_where_124 ((hS.f k0 10 100 rfl).2) g56 ?_
                              refine x_lload dX12_where_125 0 rfl ?_
                              refine xbnd_e h (fun q57 e57 h => ?_)
                              refine y_callVl (As := [.int (q55.2.1 (xr S v0 10) (v1).toNatClampNeg), .long q55.1]) (q := q57) cv_RX12_221 dX12_where_127 k0 rfl (Nat.le_of_ble_eq_true rfl) (by omega) (hself_X12_where k0 e57) ?_
                              refine x_lor dX12_where_130 ?_
                              obtain rfl := Option.some.inj h
                              exact y_lret rfl dX12_where_131
                            · rw [if_neg c13] at h
                              by_cases c14 : (D.1 (xr S v0 8) (v1).toNatClampNeg) = 15
                              · rw [if_pos c14] at h
                                refine x_tsIn 15 132 c14 dX12_where_6 (by decide) (by decide) rfl (by decide) ?_
                                refine x_aload_n dX12_where_132 0 rfl ?_
                                refine x_aload_n dX12_where_133 0 rfl ?_
                                refine y_getr (kd := 100) hS fl_RX12_78 dX12_where_134 rfl k0 ?_
                                refine x_iload_n dX12_where_137 1 rfl ?_
                                refine xgrd_e h (fun g58 h => ?_)
                                refine y_iald dX12_where_138 ((hS.f k0 10 100 rfl).2) g58 ?_
                                refine x_aload_n dX12_where_139 0 rfl ?_
                                refine x_aload_n dX12_where_140 0 rfl ?_
                                refine y_getr (kd := 100) hS fl_RX12_75 dX12_where_141 rfl k0 ?_
                                refine x_iload_n dX12_where_144 1 rfl ?_
                                refine xgrd_e h (fun g59 h => ?_)
                                refine y_iald dX12_where_145 ((hS.f k0 9 100 rfl).2) g59 ?_
                                refine x_lload_n dX12_where_146 2 rfl ?_
                                refine xbnd_e h (fun q60 e60 h => ?_)
                                refine y_callVl (As := [.int (D.1 (xr S v0 9) (v1).toNatClampNeg), .long v2]) (q := q60) cv_RX12_221 dX12_where_147 k0 rfl (Nat.le_of_ble_eq_true rfl) (by omega) (hself_X12_where k0 e60) ?_
                                refine xbnd_e h (fun q61 e61 h => ?_)
                                refine y_callVl (As := [.int (D.1 (xr S v0 10) (v1).toNatClampNeg), .long q60.1]) (q := q61) cv_RX12_221 dX12_where_150 k0 rfl (Nat.le_of_ble_eq_true rfl) (by omega) (hself_X12_where k0 e61) ?_
                                obtain rfl := Option.some.inj h
                                exact y_lret rfl dX12_where_153
                              · rw [if_neg c14] at h
                                refine x_tsOut 154 dX12_where_6 (by have := lv_neT c0 (a := 1) (by decide); have := lv_neT c1 (a := 2) (by decide); have := lv_neT c2 (a := 3) (by decide); have := lv_neT c3 (a := 4) (by decide); have := lv_neT c4 (a := 5) (by decide); have := lv_neT c5 (a := 6) (by decide); have := lv_neT c6 (a := 7) (by decide); have := lv_neT c7 (a := 8) (by decide); have := lv_neT c8 (a := 9) (by decide); have := lv_neT c9 (a := 10) (by decide); have := lv_neT c10 (a := 11) (by decide); have := lv_neT c11 (a := 12) (by decide); have := lv_neT c12 (a := 13) (by decide); have := lv_neT c13 (a := 14) (by decide); have := lv_neT c14 (a := 15) (by decide); omega) (by decide) ?_
                                refine x_aload_n dX12_where_154 0 rfl ?_
                                refine x_aload_n dX12_where_155 0 rfl ?_
                                refine y_getr (kd := 100) hS fl_RX12_75 dX12_where_156 rfl k0 ?_
                                refine x_iload_n dX12_where_159 1 rfl ?_
                                refine xgrd_e h (fun g62 h => ?_)
                                refine y_iald dX12_where_160 ((hS.f k0 9 100 rfl).2) g62 ?_
                                refine x_lload_n dX12_where_161 2 rfl ?_
                                refine xbnd_e h (fun q63 e63 h => ?_)
                                refine y_callVl (As := [.int (D.1 (xr S v0 9) (v1).toNatClampNeg), .long v2]) (q := q63) cv_RX12_221 dX12_where_162 k0 rfl (Nat.le_of_ble_eq_true rfl) (by omega) (hself_X12_where k0 e63) ?_
                                refine y_lstore q63.1 rfl [(4, .long q63.1), (0, .ref v0), (1, .int v1), (2, .long v2)] dX12_where_165 (by show _ < 8; decide) rfl ?_
                                refine x_aload_n dX12_where_167 1 rfl ?_
                                refine y_getr (kd := 100) hS fl_RX12_78 dX12_where_168 rfl k0 ?_
                                refine x_iload_n dX12_where_171 2 rfl ?_
                                refine xgrd_e h (fun g64 h => ?_)
                                refine y_iald dX12_where_172 ((hS.f k0 10 100 rfl).2) g64 ?_
                                refine x_if_ge 180 dX12_where_173 (by decide) (fun c => ?_) (fun c => ?_)
                                · rw [if_pos c] at h
                                  refine x_aload_n dX12_where_180 1 rfl ?_
                                  refine x_aload_n dX12_where_181 1 rfl ?_
                                  refine y_getr (kd := 100) hS fl_RX12_78 dX12_where_182 rfl k0 ?_
                                  refine x_iload_n dX12_where_185 2 rfl ?_
                                  refine xgrd_e h (fun g65 h => ?_)
                                  refine y_iald dX12_where_186 ((hS.f k0 10 100 rfl).2) g65 ?_
                                  refine x_lload_n dX12_where_187 3 rfl ?_
                                  refine xbnd_e h (fun q66 e66 h => ?_)
                                  refine y_callVl (As := [.int (q63.2.1 (xr S v0 10) (v1).toNatClampNeg), .long v2]) (q := q66) cv_RX12_221 dX12_where_188 k0 rfl (Nat.le_of_ble_eq_true rfl) (by omega) (hself_X12_where k0 e66) ?_
                                  refine x_lv (lv' := [(0, .ref v0), (1, .int v1), (2, .long v2), (4, .long q63.1)]) [1, 2, 3, 0] rfl ?_
                                  exact t_X12_where_191 hS hhc hself_X12_where k0 h
                                · rw [if_neg c] at h
                                  refine x_lconst 0 dX12_where_176 (by decide) ?_
                                  refine x_goto 191 dX12_where_177 (by decide) ?_
                                  refine x_lv (lv' := [(0, .ref v0), (1, .int v1), (2, .long v2), (4, .long q63.1)]) [1, 2, 3, 0] rfl ?_
                                  exact t_X12_where_191 hS hhc hself_X12_where k0 h

def f_X12_where (F P : Nat) (S : xSt) : Nat → Nat → Int32 → Int64 → xDt → Option (Int64 × xDt)
  | 0 => fun _ _ _ _ => none
  | n + 1 => f_X12_where_o F P S (f_X12_where F P S n)
theorem S_X12_where {F P : Nat} {S : xSt} (hS : xWF S) : ∀ (n : Nat) {v0 : Nat} {v1 : Int32} {v2 : Int64} {D : xDt} {r : Int64 × xDt}, xK S v0 12 → f_X12_where F P S n v0 v1 v2 D = some r → xSp md_X12_where (n + 4, 0, 0) [.ref v0, .int v1, .long v2] (S, D) (xQl S r) := by
  intro n
  induction n with
  | zero => intros; rename_i h; cases h
  | succ n ih =>
    intro v0 v1 v2 D r k0 h
    have := S_X12_where_o hS (hh := n + 4) (by omega) (fun k0 h => ih k0 h) k0 h
    rw [show n + 1 + 4 = n + 4 + 1 by omega]
    exact this

theorem dX12_holds_0 : decode cX12_holds 0 = .ok (.aload_n 0, 1) := by decide +kernel
theorem dX12_holds_1 : decode cX12_holds 1 = .ok (.iload_n 1, 1) := by decide +kernel
theorem dX12_holds_2 : decode cX12_holds 2 = .ok (.invokevirtual 38, 3) := by decide +kernel
theorem dX12_holds_5 : decode cX12_holds 5 = .ok (.ifCond .eq 23, 3) := by decide +kernel
theorem dX12_holds_8 : decode cX12_holds 8 = .ok (.aload_n 0, 1) := by decide +kernel
theorem dX12_holds_9 : decode cX12_holds 9 = .ok (.aload_n 0, 1) := by decide +kernel
theorem dX12_holds_10 : decode cX12_holds 10 = .ok (.getfield 160, 3) := by decide +kernel
theorem dX12_holds_13 : decode cX12_holds 13 = .ok (.aload_n 0, 1) := by decide +kernel
theorem dX12_holds_14 : decode cX12_holds 14 = .ok (.invokevirtual 233, 3) := by decide +kernel
theorem dX12_holds_17 : decode cX12_holds 17 = .ok (.invokevirtual 221, 3) := by decide +kernel
theorem dX12_holds_20 : decode cX12_holds 20 = .ok (.iload_n 1, 1) := by decide +kernel
theorem dX12_holds_21 : decode cX12_holds 21 = .ok (.lushr, 1) := by decide +kernel
theorem dX12_holds_22 : decode cX12_holds 22 = .ok (.lconst 1, 1) := by decide +kernel
theorem dX12_holds_23 : decode cX12_holds 23 = .ok (.land, 1) := by decide +kernel
theorem dX12_holds_24 : decode cX12_holds 24 = .ok (.l2i, 1) := by decide +kernel
theorem dX12_holds_25 : decode cX12_holds 25 = .ok (.goto 4, 3) := by decide +kernel
theorem dX12_holds_28 : decode cX12_holds 28 = .ok (.iconst (-1), 1) := by decide +kernel
theorem dX12_holds_29 : decode cX12_holds 29 = .ok (.ireturn, 1) := by decide +kernel
def f_X12_holds (F P : Nat) (S : xSt) (v0 : Nat) (v1 : Int32) (D : xDt) : Option (Int32 × xDt) :=
  (f_X12_isWorld F P S v0 v1 D).bind fun q1 => if q1.1 = 0 then (some ((-1), q1.2)) else ((f_X12_all F P S v0 q1.2).bind fun q2 => (f_X12_where F P S P v0 (q1.2.1 v0 14) q2.1 q2.2).bind fun q3 => some (((jlushr q3.1 v1) &&& 1).toInt32, q3.2))
set_option maxHeartbeats 4000000 in
theorem S_X12_holds {F P : Nat} {S : xSt} (hS : xWF S) {v0 : Nat} {v1 : Int32} {D : xDt} {r : Int32 × xDt} (k0 : xK S v0 12) (h : f_X12_holds F P S v0 v1 D = some r) : xSp md_X12_holds ((P + 5), 0, 0) [.ref v0, .int v1] (S, D) (xQi S r) := by
  unfold f_X12_holds at h
  refine xEntry (by decide) (Nat.le_of_ble_eq_true rfl) ?_
  refine x_lv (lv' := [(0, .ref v0), (1, .int v1)]) [0, 1] rfl ?_
  refine x_aload_n dX12_holds_0 0 rfl ?_
  refine x_iload_n dX12_holds_1 1 rfl ?_
  refine xbnd_e h (fun q1 e1 h => ?_)
  refine y_callVi (As := [.int v1]) (q := q1) cv_RX12_38 dX12_holds_2 k0 rfl (Nat.le_of_ble_eq_true rfl) (by omega) (S_X12_isWorld hS k0 e1) ?_
  refine x_if_eq 28 dX12_holds_5 (by decide) (fun c => ?_) (fun c => ?_)
  · rw [if_pos c] at h
    refine x_iconst (-1) dX12_holds_28 (by decide) ?_
    obtain rfl := Option.some.inj h
    exact y_iret rfl dX12_holds_29
  · rw [if_neg c] at h
    refine x_aload_n dX12_holds_8 0 rfl ?_
    refine x_aload_n dX12_holds_9 0 rfl ?_
    refine y_geti fl_RX12_160 dX12_holds_10 rfl k0 ?_
    refine x_aload_n dX12_holds_13 0 rfl ?_
    refine xbnd_e h (fun q2 e2 h => ?_)
    refine y_callVl (As := []) (q := q2) cv_RX12_233 dX12_holds_14 k0 rfl (Nat.le_of_ble_eq_true rfl) (by omega) (S_X12_all hS k0 e2) ?_
    refine xbnd_e h (fun q3 e3 h => ?_)
    refine y_callVl (As := [.int (q1.2.1 v0 14), .long q2.1]) (q := q3) cv_RX12_221 dX12_holds_17 k0 rfl (Nat.le_of_ble_eq_true rfl) (by omega) (S_X12_where hS P k0 e3) ?_
    refine x_iload_n dX12_holds_20 1 rfl ?_
    refine x_lushr dX12_holds_21 ?_
    refine x_lconst 1 dX12_holds_22 (by decide) ?_
    refine x_land dX12_holds_23 ?_
    refine x_l2i dX12_holds_24 ?_
    refine x_goto 29 dX12_holds_25 (by decide) ?_
    obtain rfl := Option.some.inj h
    exact y_iret rfl dX12_holds_29

theorem dX12_worlds_0 : decode cX12_worlds 0 = .ok (.aload_n 0, 1) := by decide +kernel
theorem dX12_worlds_1 : decode cX12_worlds 1 = .ok (.aload_n 0, 1) := by decide +kernel
theorem dX12_worlds_2 : decode cX12_worlds 2 = .ok (.getfield 160, 3) := by decide +kernel
theorem dX12_worlds_5 : decode cX12_worlds 5 = .ok (.aload_n 0, 1) := by decide +kernel
theorem dX12_worlds_6 : decode cX12_worlds 6 = .ok (.invokevirtual 233, 3) := by decide +kernel
theorem dX12_worlds_9 : decode cX12_worlds 9 = .ok (.invokevirtual 221, 3) := by decide +kernel
theorem dX12_worlds_12 : decode cX12_worlds 12 = .ok (.invokestatic 49, 3) := by decide +kernel
theorem dX12_worlds_15 : decode cX12_worlds 15 = .ok (.ireturn, 1) := by decide +kernel
def f_X12_worlds (F P : Nat) (S : xSt) (v0 : Nat) (D : xDt) : Option (Int32 × xDt) :=
  (f_X12_all F P S v0 D).bind fun q1 => (f_X12_where F P S P v0 (D.1 v0 14) q1.1 q1.2).bind fun q2 => (f_X12_size F P S q2.1 q2.2).bind fun q3 => some (q3.1, q3.2)
set_option maxHeartbeats 4000000 in
theorem S_X12_worlds {F P : Nat} {S : xSt} (hS : xWF S) {v0 : Nat} {D : xDt} {r : Int32 × xDt} (k0 : xK S v0 12) (h : f_X12_worlds F P S v0 D = some r) : xSp md_X12_worlds ((P + 5), 0, 0) [.ref v0] (S, D) (xQi S r) := by
  unfold f_X12_worlds at h
  refine xEntry (by decide) (Nat.le_of_ble_eq_true rfl) ?_
  refine x_lv (lv' := [(0, .ref v0)]) [0] rfl ?_
  refine x_aload_n dX12_worlds_0 0 rfl ?_
  refine x_aload_n dX12_worlds_1 0 rfl ?_
  refine y_geti fl_RX12_160 dX12_worlds_2 rfl k0 ?_
  refine x_aload_n dX12_worlds_5 0 rfl ?_
  refine xbnd_e h (fun q1 e1 h => ?_)
  refine y_callVl (As := []) (q := q1) cv_RX12_233 dX12_worlds_6 k0 rfl (Nat.le_of_ble_eq_true rfl) (by omega) (S_X12_all hS k0 e1) ?_
  refine xbnd_e h (fun q2 e2 h => ?_)
  refine y_callVl (As := [.int (D.1 v0 14), .long q1.1]) (q := q2) cv_RX12_221 dX12_worlds_9 k0 rfl (Nat.le_of_ble_eq_true rfl) (by omega) (S_X12_where hS P k0 e2) ?_
  refine xbnd_e h (fun q3 e3 h => ?_)
  refine y_callSi (As := [.long q2.1]) (q := q3) cs_RX12_49 dX12_worlds_12 rfl (Nat.le_of_ble_eq_true rfl) (by omega) (S_X12_size hS e3) ?_
  obtain rfl := Option.some.inj h
  exact y_iret rfl dX12_worlds_15

theorem dX12_put_0 : decode cX12_put 0 = .ok (.aload_n 0, 1) := by decide +kernel
theorem dX12_put_1 : decode cX12_put 1 = .ok (.getfield 237, 3) := by decide +kernel
theorem dX12_put_4 : decode cX12_put 4 = .ok (.sipush 20000, 3) := by decide +kernel
theorem dX12_put_7 : decode cX12_put 7 = .ok (.if_icmp .ge 24, 3) := by decide +kernel
theorem dX12_put_10 : decode cX12_put 10 = .ok (.aload_n 0, 1) := by decide +kernel
theorem dX12_put_11 : decode cX12_put 11 = .ok (.getfield 91, 3) := by decide +kernel
theorem dX12_put_14 : decode cX12_put 14 = .ok (.aload_n 0, 1) := by decide +kernel
theorem dX12_put_15 : decode cX12_put 15 = .ok (.getfield 237, 3) := by decide +kernel
theorem dX12_put_18 : decode cX12_put 18 = .ok (.iload_n 1, 1) := by decide +kernel
theorem dX12_put_19 : decode cX12_put 19 = .ok (.i2b, 1) := by decide +kernel
theorem dX12_put_20 : decode cX12_put 20 = .ok (.bastore, 1) := by decide +kernel
theorem dX12_put_21 : decode cX12_put 21 = .ok (.aload_n 0, 1) := by decide +kernel
theorem dX12_put_22 : decode cX12_put 22 = .ok (.dup, 1) := by decide +kernel
theorem dX12_put_23 : decode cX12_put 23 = .ok (.getfield 237, 3) := by decide +kernel
theorem dX12_put_26 : decode cX12_put 26 = .ok (.iconst 1, 1) := by decide +kernel
theorem dX12_put_27 : decode cX12_put 27 = .ok (.iadd, 1) := by decide +kernel
theorem dX12_put_28 : decode cX12_put 28 = .ok (.putfield 237, 3) := by decide +kernel
theorem dX12_put_31 : decode cX12_put 31 = .ok (.return_, 1) := by decide +kernel
def f_X12_put (F P : Nat) (S : xSt) (v0 : Nat) (v1 : Int32) (D : xDt) : Option (xDt) :=
  if 20000 ≤ (D.1 v0 21) then (some D) else (xgrd (xin (D.1 v0 21) (xl S (xr S v0 20))) (xlet (xup D.1 (xr S v0 20) (D.1 v0 21).toNatClampNeg (ji2b (ji2b v1)), D.2) fun D2 => xlet (xup D2.1 v0 21 ((D2.1 v0 21) + 1), D2.2) fun D3 => some D3))
set_option maxHeartbeats 4000000 in
theorem S_X12_put {F P : Nat} {S : xSt} (hS : xWF S) {v0 : Nat} {v1 : Int32} {D : xDt} {r : xDt} (k0 : xK S v0 12) (h : f_X12_put F P S v0 v1 D = some r) : xSp md_X12_put (0, 0, 0) [.ref v0, .int v1] (S, D) (xQv S r) := by
  unfold f_X12_put at h
  refine xEntry (by decide) (Nat.le_of_ble_eq_true rfl) ?_
  refine x_lv (lv' := [(0, .ref v0), (1, .int v1)]) [0, 1] rfl ?_
  refine x_aload_n dX12_put_0 0 rfl ?_
  refine y_geti fl_RX12_237 dX12_put_1 rfl k0 ?_
  refine x_sipush 20000 dX12_put_4 (by decide) ?_
  refine x_icmp_ge 31 dX12_put_7 (by decide) (fun c => ?_) (fun c => ?_)
  · rw [if_pos c] at h
    obtain rfl := Option.some.inj h
    exact y_vret rfl dX12_put_31
  · rw [if_neg c] at h
    refine x_aload_n dX12_put_10 0 rfl ?_
    refine y_getr (kd := 103) hS fl_RX12_91 dX12_put_11 rfl k0 ?_
    refine x_aload_n dX12_put_14 0 rfl ?_
    refine y_geti fl_RX12_237 dX12_put_15 rfl k0 ?_
    refine x_iload_n dX12_put_18 1 rfl ?_
    refine x_i2b dX12_put_19 ?_
    refine xgrd_e h (fun g1 h => ?_)
    refine xlet_e h (fun D2 eD2 h => ?_)
    refine y_bast dX12_put_20 ((hS.f k0 20 103 rfl).2) g1 eD2 ?_
    refine x_aload_n dX12_put_21 0 rfl ?_
    refine x_dup dX12_put_22 rfl ?_
    refine y_geti fl_RX12_237 dX12_put_23 rfl k0 ?_
    refine x_iconst 1 dX12_put_26 (by decide) ?_
    refine x_iadd dX12_put_27 ?_
    refine xlet_e h (fun D3 eD3 h => ?_)
    refine y_puti fp_RX12_237 dX12_put_28 rfl k0 eD3 ?_
    obtain rfl := Option.some.inj h
    exact y_vret rfl dX12_put_31

theorem dX12_putGroup_0 : decode cX12_putGroup 0 = .ok (.iconst 1, 1) := by decide +kernel
theorem dX12_putGroup_1 : decode cX12_putGroup 1 = .ok (.istore_n 2, 1) := by decide +kernel
theorem dX12_putGroup_2 : decode cX12_putGroup 2 = .ok (.iload_n 2, 1) := by decide +kernel
theorem dX12_putGroup_3 : decode cX12_putGroup 3 = .ok (.iconst 4, 1) := by decide +kernel
theorem dX12_putGroup_4 : decode cX12_putGroup 4 = .ok (.if_icmp .gt 28, 3) := by decide +kernel
theorem dX12_putGroup_7 : decode cX12_putGroup 7 = .ok (.iload_n 1, 1) := by decide +kernel
theorem dX12_putGroup_8 : decode cX12_putGroup 8 = .ok (.iload_n 2, 1) := by decide +kernel
theorem dX12_putGroup_9 : decode cX12_putGroup 9 = .ok (.iconst 1, 1) := by decide +kernel
theorem dX12_putGroup_10 : decode cX12_putGroup 10 = .ok (.isub, 1) := by decide +kernel
theorem dX12_putGroup_11 : decode cX12_putGroup 11 = .ok (.ishr, 1) := by decide +kernel
theorem dX12_putGroup_12 : decode cX12_putGroup 12 = .ok (.iconst 1, 1) := by decide +kernel
theorem dX12_putGroup_13 : decode cX12_putGroup 13 = .ok (.iand, 1) := by decide +kernel
theorem dX12_putGroup_14 : decode cX12_putGroup 14 = .ok (.iconst 1, 1) := by decide +kernel
theorem dX12_putGroup_15 : decode cX12_putGroup 15 = .ok (.if_icmp .ne 11, 3) := by decide +kernel
theorem dX12_putGroup_18 : decode cX12_putGroup 18 = .ok (.aload_n 0, 1) := by decide +kernel
theorem dX12_putGroup_19 : decode cX12_putGroup 19 = .ok (.bipush 48, 2) := by decide +kernel
theorem dX12_putGroup_21 : decode cX12_putGroup 21 = .ok (.iload_n 2, 1) := by decide +kernel
theorem dX12_putGroup_22 : decode cX12_putGroup 22 = .ok (.iadd, 1) := by decide +kernel
theorem dX12_putGroup_23 : decode cX12_putGroup 23 = .ok (.invokevirtual 240, 3) := by decide +kernel
theorem dX12_putGroup_26 : decode cX12_putGroup 26 = .ok (.iinc 2 1, 3) := by decide +kernel
theorem dX12_putGroup_29 : decode cX12_putGroup 29 = .ok (.goto (-27), 3) := by decide +kernel
theorem dX12_putGroup_32 : decode cX12_putGroup 32 = .ok (.return_, 1) := by decide +kernel
def f_X12_putGroup_26 (F P : Nat) (S : xSt) (rec_2 : Nat → Int32 → Int32 → xDt → Option (xDt)) (v0 : Nat) (v1 : Int32) (v2 : Int32) (D : xDt) : Option (xDt) :=
  xlet (v2 + 1) fun v2_1 => rec_2 v0 v1 v2_1 D
set_option maxHeartbeats 4000000 in
theorem t_X12_putGroup_26 {F P : Nat} {S : xSt} (hS : xWF S) {rec_2 : Nat → Int32 → Int32 → xDt → Option (xDt)} (hrec_2 : ∀ {v0 : Nat} {v1 : Int32} {v2 : Int32} {D : xDt} {r : xDt}, xK S v0 12 → rec_2 v0 v1 v2 D = some r → yEx md_X12_putGroup 1 2 [(0, .ref v0), (1, .int v1), (2, .int v2)] [] S D (xQv S r)) {v0 : Nat} {v1 : Int32} {v2 : Int32} {D : xDt} {r : xDt} (k0 : xK S v0 12) (h : f_X12_putGroup_26 F P S rec_2 v0 v1 v2 D = some r) : yEx md_X12_putGroup 1 26 [(0, .ref v0), (1, .int v1), (2, .int v2)] [] S D (xQv S r) := by
  unfold f_X12_putGroup_26 at h
  refine xlet_e h (fun v2_1 ev2_1 h => ?_)
  refine y_iinc v2_1 ev2_1 (by decide) [(2, .int v2_1), (0, .ref v0), (1, .int v1)] dX12_putGroup_26 2 rfl (by show _ < 3; decide) rfl ?_
  refine x_goto 2 dX12_putGroup_29 (by decide) ?_
  refine x_lv (lv' := [(0, .ref v0), (1, .int v1), (2, .int v2_1)]) [1, 2, 0] rfl ?_
  exact hrec_2 k0 h

def f_X12_putGroup_2s (F P : Nat) (S : xSt) (rec_2 : Nat → Int32 → Int32 → xDt → Option (xDt)) (v0 : Nat) (v1 : Int32) (v2 : Int32) (D : xDt) : Option (xDt) :=
  if 4 < v2 then (some D) else (if ((jishr v1 (v2 - 1)) &&& 1) = 1 then ((f_X12_put F P S v0 (48 + v2) D).bind fun q1 => f_X12_putGroup_26 F P S rec_2 v0 v1 v2 q1) else (f_X12_putGroup_26 F P S rec_2 v0 v1 v2 D))
def f_X12_putGroup_2 (F P : Nat) (S : xSt) : Nat → Nat → Int32 → Int32 → xDt → Option (xDt)
  | 0 => fun _ _ _ _ => none
  | n + 1 => f_X12_putGroup_2s F P S (f_X12_putGroup_2 F P S n)
set_option maxHeartbeats 4000000 in
theorem t_X12_putGroup_2s {F P : Nat} {S : xSt} (hS : xWF S) {rec_2 : Nat → Int32 → Int32 → xDt → Option (xDt)} (hrec_2 : ∀ {v0 : Nat} {v1 : Int32} {v2 : Int32} {D : xDt} {r : xDt}, xK S v0 12 → rec_2 v0 v1 v2 D = some r → yEx md_X12_putGroup 1 2 [(0, .ref v0), (1, .int v1), (2, .int v2)] [] S D (xQv S r)) {v0 : Nat} {v1 : Int32} {v2 : Int32} {D : xDt} {r : xDt} (k0 : xK S v0 12) (h : f_X12_putGroup_2s F P S rec_2 v0 v1 v2 D = some r) : yEx md_X12_putGroup 1 2 [(0, .ref v0), (1, .int v1), (2, .int v2)] [] S D (xQv S r) := by
  unfold f_X12_putGroup_2s at h
  refine x_iload_n dX12_putGroup_2 2 rfl ?_
  refine x_iconst 4 dX12_putGroup_3 (by decide) ?_
  refine x_icmp_gt 32 dX12_putGroup_4 (by decide) (fun c => ?_) (fun c => ?_)
  · rw [if_pos c] at h
    obtain rfl := Option.some.inj h
    exact y_vret rfl dX12_putGroup_32
  · rw [if_neg c] at h
    refine x_iload_n dX12_putGroup_7 1 rfl ?_
    refine x_iload_n dX12_putGroup_8 2 rfl ?_
    refine x_iconst 1 dX12_putGroup_9 (by decide) ?_
    refine x_isub dX12_putGroup_10 ?_
    refine x_ishr dX12_putGroup_11 ?_
    refine x_iconst 1 dX12_putGroup_12 (by decide) ?_
    refine x_iand dX12_putGroup_13 ?_
    refine x_iconst 1 dX12_putGroup_14 (by decide) ?_
    refine x_icmp_ne 26 dX12_putGroup_15 (by decide) (fun c => ?_) (fun c => ?_)
    · rw [if_neg c] at h
      exact t_X12_putGroup_26 hS hrec_2 k0 h
    · rw [if_pos c] at h
      refine x_aload_n dX12_putGroup_18 0 rfl ?_
      refine x_bipush 48 dX12_putGroup_19 (by decide) ?_
      refine x_iload_n dX12_putGroup_21 2 rfl ?_
      refine x_iadd dX12_putGroup_22 ?_
      refine xbnd_e h (fun q1 e1 h => ?_)
      refine y_callVv (As := [.int (48 + v2)]) (q := q1) cv_RX12_240 dX12_putGroup_23 k0 rfl (Nat.le_of_ble_eq_true rfl) (by omega) (S_X12_put hS k0 e1) ?_
      exact t_X12_putGroup_26 hS hrec_2 k0 h
theorem t_X12_putGroup_2 {F P : Nat} {S : xSt} (hS : xWF S) : ∀ (n : Nat) {v0 : Nat} {v1 : Int32} {v2 : Int32} {D : xDt} {r : xDt}, xK S v0 12 → f_X12_putGroup_2 F P S n v0 v1 v2 D = some r → yEx md_X12_putGroup 1 2 [(0, .ref v0), (1, .int v1), (2, .int v2)] [] S D (xQv S r) := by
  intro n
  induction n with
  | zero => intros; rename_i h; cases h
  | succ n ih =>
    intro v0 v1 v2 D r k0 h
    exact t_X12_putGroup_2s hS (fun k0 h => ih k0 h) k0 h

def f_X12_putGroup (F P : Nat) (S : xSt) (v0 : Nat) (v1 : Int32) (D : xDt) : Option (xDt) :=
  f_X12_putGroup_2 F P S F v0 v1 1 D
set_option maxHeartbeats 4000000 in
theorem S_X12_putGroup {F P : Nat} {S : xSt} (hS : xWF S) {v0 : Nat} {v1 : Int32} {D : xDt} {r : xDt} (k0 : xK S v0 12) (h : f_X12_putGroup F P S v0 v1 D = some r) : xSp md_X12_putGroup (1, 0, 0) [.ref v0, .int v1] (S, D) (xQv S r) := by
  unfold f_X12_putGroup at h
  refine xEntry (by decide) (Nat.le_of_ble_eq_true rfl) ?_
  refine x_lv (lv' := [(0, .ref v0), (1, .int v1)]) [0, 1] rfl ?_
  refine x_iconst 1 dX12_putGroup_0 (by decide) ?_
  refine y_istore_n 1 rfl [(2, .int 1), (0, .ref v0), (1, .int v1)] dX12_putGroup_1 (by show _ < 3; decide) rfl ?_
  refine x_lv (lv' := [(0, .ref v0), (1, .int v1), (2, .int 1)]) [1, 2, 0] rfl ?_
  exact t_X12_putGroup_2 hS F k0 h

theorem dJ3_checkIndex_8e157_0 : decode cJ3_checkIndex_8e157 0 = .ok (.iload_n 0, 1) := by decide +kernel
theorem dJ3_checkIndex_8e157_1 : decode cJ3_checkIndex_8e157 1 = .ok (.ifCond .lt 8, 3) := by decide +kernel
theorem dJ3_checkIndex_8e157_4 : decode cJ3_checkIndex_8e157 4 = .ok (.iload_n 0, 1) := by decide +kernel
theorem dJ3_checkIndex_8e157_5 : decode cJ3_checkIndex_8e157 5 = .ok (.iload_n 1, 1) := by decide +kernel
theorem dJ3_checkIndex_8e157_6 : decode cJ3_checkIndex_8e157 6 = .ok (.if_icmp .lt 10, 3) := by decide +kernel
theorem dJ3_checkIndex_8e157_9 : decode cJ3_checkIndex_8e157 9 = .ok (.aload_n 2, 1) := by decide +kernel
theorem dJ3_checkIndex_8e157_10 : decode cJ3_checkIndex_8e157 10 = .ok (.iload_n 0, 1) := by decide +kernel
theorem dJ3_checkIndex_8e157_11 : decode cJ3_checkIndex_8e157 11 = .ok (.iload_n 1, 1) := by decide +kernel
theorem dJ3_checkIndex_8e157_12 : decode cJ3_checkIndex_8e157 12 = .ok (.invokestatic 95, 3) := by decide +kernel
theorem dJ3_checkIndex_8e157_15 : decode cJ3_checkIndex_8e157 15 = .ok (.athrow, 1) := by decide +kernel
theorem dJ3_checkIndex_8e157_16 : decode cJ3_checkIndex_8e157 16 = .ok (.iload_n 0, 1) := by decide +kernel
theorem dJ3_checkIndex_8e157_17 : decode cJ3_checkIndex_8e157 17 = .ok (.ireturn, 1) := by decide +kernel
def f_J3_checkIndex_8e157_9 (F P : Nat) (S : xSt) (v0 : Int32) (v1 : Int32) (v2 : Nat) (D : xDt) : Option (Int32 × xDt) :=
  none
set_option maxHeartbeats 4000000 in
theorem t_J3_checkIndex_8e157_9 {F P : Nat} {S : xSt} (hS : xWF S) {v0 : Int32} {v1 : Int32} {v2 : Nat} {D : xDt} {r : Int32 × xDt} (h : f_J3_checkIndex_8e157_9 F P S v0 v1 v2 D = some r) : yEx md_J3_checkIndex_8e157 0 9 [(0, .int v0), (1, .int v1), (2, .retAddr 0)] [] S D (xQi S r) := by
  unfold f_J3_checkIndex_8e157_9 at h
  cases h

def f_J3_checkIndex_8e157 (F P : Nat) (S : xSt) (v0 : Int32) (v1 : Int32) (v2 : Nat) (D : xDt) : Option (Int32 × xDt) :=
  if v0 < 0 then (f_J3_checkIndex_8e157_9 F P S v0 v1 v2 D) else (if v0 < v1 then (some (v0, D)) else (f_J3_checkIndex_8e157_9 F P S v0 v1 v2 D))
set_option maxHeartbeats 4000000 in
theorem S_J3_checkIndex_8e157 {F P : Nat} {S : xSt} (hS : xWF S) {v0 : Int32} {v1 : Int32} {v2 : Nat} {D : xDt} {r : Int32 × xDt} (h : f_J3_checkIndex_8e157 F P S v0 v1 v2 D = some r) : xSp md_J3_checkIndex_8e157 (0, 0, 0) [.int v0, .int v1, .retAddr 0] (S, D) (xQi S r) := by
  unfold f_J3_checkIndex_8e157 at h
  refine xEntry (by decide) (Nat.le_of_ble_eq_true rfl) ?_
  refine x_lv (lv' := [(0, .int v0), (1, .int v1), (2, .retAddr 0)]) [0, 1, 2] rfl ?_
  refine x_iload_n dJ3_checkIndex_8e157_0 0 rfl ?_
  refine x_if_lt 9 dJ3_checkIndex_8e157_1 (by decide) (fun c => ?_) (fun c => ?_)
  · rw [if_pos c] at h
    exact t_J3_checkIndex_8e157_9 hS h
  · rw [if_neg c] at h
    refine x_iload_n dJ3_checkIndex_8e157_4 0 rfl ?_
    refine x_iload_n dJ3_checkIndex_8e157_5 1 rfl ?_
    refine x_icmp_lt 16 dJ3_checkIndex_8e157_6 (by decide) (fun c => ?_) (fun c => ?_)
    · rw [if_pos c] at h
      refine x_iload_n dJ3_checkIndex_8e157_16 0 rfl ?_
      obtain rfl := Option.some.inj h
      exact y_iret rfl dJ3_checkIndex_8e157_17
    · rw [if_neg c] at h
      exact t_J3_checkIndex_8e157_9 hS h

theorem dJ0_checkIndex_df160_0 : decode cJ0_checkIndex_df160 0 = .ok (.iload_n 0, 1) := by decide +kernel
theorem dJ0_checkIndex_df160_1 : decode cJ0_checkIndex_df160 1 = .ok (.iload_n 1, 1) := by decide +kernel
theorem dJ0_checkIndex_df160_2 : decode cJ0_checkIndex_df160 2 = .ok (.getstatic 1053, 3) := by decide +kernel
theorem dJ0_checkIndex_df160_5 : decode cJ0_checkIndex_df160 5 = .ok (.invokestatic 1059, 3) := by decide +kernel
theorem dJ0_checkIndex_df160_8 : decode cJ0_checkIndex_df160 8 = .ok (.pop, 1) := by decide +kernel
theorem dJ0_checkIndex_df160_9 : decode cJ0_checkIndex_df160 9 = .ok (.return_, 1) := by decide +kernel
def f_J0_checkIndex_df160 (F P : Nat) (S : xSt) (v0 : Int32) (v1 : Int32) (D : xDt) : Option (xDt) :=
  (f_J3_checkIndex_8e157 F P S v0 v1 0 D).bind fun q1 => some q1.2
set_option maxHeartbeats 4000000 in
theorem S_J0_checkIndex_df160 {F P : Nat} {S : xSt} (hS : xWF S) {v0 : Int32} {v1 : Int32} {D : xDt} {r : xDt} (h : f_J0_checkIndex_df160 F P S v0 v1 D = some r) : xSp md_J0_checkIndex_df160 (1, 0, 0) [.int v0, .int v1] (S, D) (xQv S r) := by
  unfold f_J0_checkIndex_df160 at h
  refine xEntry (by decide) (Nat.le_of_ble_eq_true rfl) ?_
  refine x_lv (lv' := [(0, .int v0), (1, .int v1)]) [0, 1] rfl ?_
  refine x_iload_n dJ0_checkIndex_df160_0 0 rfl ?_
  refine x_iload_n dJ0_checkIndex_df160_1 1 rfl ?_
  refine y_fmt wd_913 dJ0_checkIndex_df160_2 ?_
  refine xbnd_e h (fun q1 e1 h => ?_)
  refine y_callSi (As := [.int v0, .int v1, .retAddr 0]) (q := q1) cs_RJ0_1059 dJ0_checkIndex_df160_5 rfl (Nat.le_of_ble_eq_true rfl) (by omega) (S_J3_checkIndex_8e157 hS e1) ?_
  refine x_pop dJ0_checkIndex_df160_8 rfl ?_
  obtain rfl := Option.some.inj h
  exact y_vret rfl dJ0_checkIndex_df160_9

theorem dJ1_charAt_3b067_0 : decode cJ1_charAt_3b067 0 = .ok (.iload_n 1, 1) := by decide +kernel
theorem dJ1_charAt_3b067_1 : decode cJ1_charAt_3b067 1 = .ok (.aload_n 0, 1) := by decide +kernel
theorem dJ1_charAt_3b067_2 : decode cJ1_charAt_3b067 2 = .ok (.arraylength, 1) := by decide +kernel
theorem dJ1_charAt_3b067_3 : decode cJ1_charAt_3b067 3 = .ok (.invokestatic 9, 3) := by decide +kernel
theorem dJ1_charAt_3b067_6 : decode cJ1_charAt_3b067 6 = .ok (.aload_n 0, 1) := by decide +kernel
theorem dJ1_charAt_3b067_7 : decode cJ1_charAt_3b067 7 = .ok (.iload_n 1, 1) := by decide +kernel
theorem dJ1_charAt_3b067_8 : decode cJ1_charAt_3b067 8 = .ok (.baload, 1) := by decide +kernel
theorem dJ1_charAt_3b067_9 : decode cJ1_charAt_3b067 9 = .ok (.sipush 255, 3) := by decide +kernel
theorem dJ1_charAt_3b067_12 : decode cJ1_charAt_3b067 12 = .ok (.iand, 1) := by decide +kernel
theorem dJ1_charAt_3b067_13 : decode cJ1_charAt_3b067 13 = .ok (.i2c, 1) := by decide +kernel
theorem dJ1_charAt_3b067_14 : decode cJ1_charAt_3b067 14 = .ok (.ireturn, 1) := by decide +kernel
def f_J1_charAt_3b067 (F P : Nat) (S : xSt) (v0 : Nat) (v1 : Int32) (D : xDt) : Option (Int32 × xDt) :=
  (f_J0_checkIndex_df160 F P S v1 (Int32.ofNat (xsLen.getD v0 0)) D).bind fun q1 => xgrd (xin v1 (xsLen.getD v0 0)) (xgrd (xnr .char (ji2c (((xsByt.getD v0 []).getD (v1).toNatClampNeg 0) &&& 255))) (some (ji2c (((xsByt.getD v0 []).getD (v1).toNatClampNeg 0) &&& 255), q1)))
set_option maxHeartbeats 4000000 in
theorem S_J1_charAt_3b067 {F P : Nat} {S : xSt} (hS : xWF S) {v0 : Nat} {v1 : Int32} {D : xDt} {r : Int32 × xDt} (k0 : v0 < 4) (h : f_J1_charAt_3b067 F P S v0 v1 D = some r) : xSp md_J1_charAt_3b067 (2, 0, 0) [.float (xsB v0), .int v1] (S, D) (xQi S r) := by
  unfold f_J1_charAt_3b067 at h
  refine xEntry (by decide) (Nat.le_of_ble_eq_true rfl) ?_
  refine x_lv (lv' := [(0, .float (xsB v0)), (1, .int v1)]) [0, 1] rfl ?_
  refine x_iload_n dJ1_charAt_3b067_0 1 rfl ?_
  refine x_sload_n dJ1_charAt_3b067_1 0 rfl ?_
  refine y_tlen k0 dJ1_charAt_3b067_2 ?_
  refine xbnd_e h (fun q1 e1 h => ?_)
  refine y_callSv (As := [.int v1, .int (Int32.ofNat (xsLen.getD v0 0))]) (q := q1) cs_RJ1_9 dJ1_charAt_3b067_3 rfl (Nat.le_of_ble_eq_true rfl) (by omega) (S_J0_checkIndex_df160 hS e1) ?_
  refine x_sload_n dJ1_charAt_3b067_6 0 rfl ?_
  refine x_iload_n dJ1_charAt_3b067_7 1 rfl ?_
  refine xgrd_e h (fun g2 h => ?_)
  refine y_tbald k0 g2 dJ1_charAt_3b067_8 ?_
  refine x_sipush 255 dJ1_charAt_3b067_9 (by decide) ?_
  refine x_iand dJ1_charAt_3b067_12 ?_
  refine x_i2c dJ1_charAt_3b067_13 ?_
  refine xgrd_e h (fun g3 h => ?_)
  obtain rfl := Option.some.inj h
  exact y_nret rfl g3 dJ1_charAt_3b067_14

theorem dJ0_charAt_5068e_0 : decode cJ0_charAt_5068e 0 = .ok (.aload_n 0, 1) := by decide +kernel
theorem dJ0_charAt_5068e_1 : decode cJ0_charAt_5068e 1 = .ok (.invokevirtual 492, 3) := by decide +kernel
theorem dJ0_charAt_5068e_4 : decode cJ0_charAt_5068e 4 = .ok (.ifCond .eq 12, 3) := by decide +kernel
theorem dJ0_charAt_5068e_7 : decode cJ0_charAt_5068e 7 = .ok (.aload_n 0, 1) := by decide +kernel
theorem dJ0_charAt_5068e_8 : decode cJ0_charAt_5068e 8 = .ok (.getfield 9, 3) := by decide +kernel
theorem dJ0_charAt_5068e_11 : decode cJ0_charAt_5068e 11 = .ok (.iload_n 1, 1) := by decide +kernel
theorem dJ0_charAt_5068e_12 : decode cJ0_charAt_5068e 12 = .ok (.invokestatic 495, 3) := by decide +kernel
theorem dJ0_charAt_5068e_15 : decode cJ0_charAt_5068e 15 = .ok (.ireturn, 1) := by decide +kernel
theorem dJ0_charAt_5068e_16 : decode cJ0_charAt_5068e 16 = .ok (.aload_n 0, 1) := by decide +kernel
theorem dJ0_charAt_5068e_17 : decode cJ0_charAt_5068e 17 = .ok (.getfield 9, 3) := by decide +kernel
theorem dJ0_charAt_5068e_20 : decode cJ0_charAt_5068e 20 = .ok (.iload_n 1, 1) := by decide +kernel
theorem dJ0_charAt_5068e_21 : decode cJ0_charAt_5068e 21 = .ok (.invokestatic 498, 3) := by decide +kernel
theorem dJ0_charAt_5068e_24 : decode cJ0_charAt_5068e 24 = .ok (.ireturn, 1) := by decide +kernel
def f_J0_charAt_5068e (F P : Nat) (S : xSt) (v0 : Nat) (v1 : Int32) (D : xDt) : Option (Int32 × xDt) :=
  (f_J0_isLatin1_aae02 F P S v0 D).bind fun q1 => if q1.1 = 0 then (none) else ((f_J1_charAt_3b067 F P S v0 v1 q1.2).bind fun q2 => xgrd (xnr .char q2.1) (some (q2.1, q2.2)))
set_option maxHeartbeats 4000000 in
theorem S_J0_charAt_5068e {F P : Nat} {S : xSt} (hS : xWF S) {v0 : Nat} {v1 : Int32} {D : xDt} {r : Int32 × xDt} (k0 : v0 < 4) (h : f_J0_charAt_5068e F P S v0 v1 D = some r) : xSp md_J0_charAt_5068e (3, 0, 0) [.float (xsS v0), .int v1] (S, D) (xQi S r) := by
  unfold f_J0_charAt_5068e at h
  refine xEntry (by decide) (Nat.le_of_ble_eq_true rfl) ?_
  refine x_lv (lv' := [(0, .float (xsS v0)), (1, .int v1)]) [0, 1] rfl ?_
  refine x_sload_n dJ0_charAt_5068e_0 0 rfl ?_
  refine xbnd_e h (fun q1 e1 h => ?_)
  refine y_callT (i := v0) (As := []) (q := q1) k0 ct_RJ0_492 dJ0_charAt_5068e_1 rfl (Nat.le_of_ble_eq_true rfl) (by omega) (S_J0_isLatin1_aae02 hS k0 e1) ?_
  refine x_if_eq 16 dJ0_charAt_5068e_4 (by decide) (fun c => ?_) (fun c => ?_)
  · rw [if_pos c] at h
    refine x_sload_n dJ0_charAt_5068e_16 0 rfl ?_
    refine y_strval k0 wd_1554 dJ0_charAt_5068e_17 ?_
    refine x_iload_n dJ0_charAt_5068e_20 1 rfl ?_
    cases h
  · rw [if_neg c] at h
    refine x_sload_n dJ0_charAt_5068e_7 0 rfl ?_
    refine y_strval k0 wd_1554 dJ0_charAt_5068e_8 ?_
    refine x_iload_n dJ0_charAt_5068e_11 1 rfl ?_
    refine xbnd_e h (fun q2 e2 h => ?_)
    refine y_callSi (As := [.float (xsB v0), .int v1]) (q := q2) cs_RJ0_495 dJ0_charAt_5068e_12 rfl (Nat.le_of_ble_eq_true rfl) (by omega) (S_J1_charAt_3b067 hS k0 e2) ?_
    refine xgrd_e h (fun g3 h => ?_)
    obtain rfl := Option.some.inj h
    exact y_nret rfl g3 dJ0_charAt_5068e_15

theorem dX12_write_0 : decode cX12_write 0 = .ok (.aload_n 0, 1) := by decide +kernel
theorem dX12_write_1 : decode cX12_write 1 = .ok (.getfield 72, 3) := by decide +kernel
theorem dX12_write_4 : decode cX12_write 4 = .ok (.iload_n 1, 1) := by decide +kernel
theorem dX12_write_5 : decode cX12_write 5 = .ok (.iaload, 1) := by decide +kernel
theorem dX12_write_6 : decode cX12_write 6 = .ok (.istore_n 3, 1) := by decide +kernel
theorem dX12_write_7 : decode cX12_write 7 = .ok (.iload_n 3, 1) := by decide +kernel
theorem dX12_write_8 : decode cX12_write 8 = .ok (.bipush 10, 2) := by decide +kernel
theorem dX12_write_10 : decode cX12_write 10 = .ok (.if_icmp .lt 62, 3) := by decide +kernel
theorem dX12_write_13 : decode cX12_write 13 = .ok (.iload_n 3, 1) := by decide +kernel
theorem dX12_write_14 : decode cX12_write 14 = .ok (.bipush 13, 2) := by decide +kernel
theorem dX12_write_16 : decode cX12_write 16 = .ok (.if_icmp .gt 56, 3) := by decide +kernel
theorem dX12_write_19 : decode cX12_write 19 = .ok (.iload_n 2, 1) := by decide +kernel
theorem dX12_write_20 : decode cX12_write 20 = .ok (.ifCond .ne 9, 3) := by decide +kernel
theorem dX12_write_23 : decode cX12_write 23 = .ok (.aload_n 0, 1) := by decide +kernel
theorem dX12_write_24 : decode cX12_write 24 = .ok (.bipush 40, 2) := by decide +kernel
theorem dX12_write_26 : decode cX12_write 26 = .ok (.invokevirtual 240, 3) := by decide +kernel
theorem dX12_write_29 : decode cX12_write 29 = .ok (.aload_n 0, 1) := by decide +kernel
theorem dX12_write_30 : decode cX12_write 30 = .ok (.aload_n 0, 1) := by decide +kernel
theorem dX12_write_31 : decode cX12_write 31 = .ok (.getfield 75, 3) := by decide +kernel
theorem dX12_write_34 : decode cX12_write 34 = .ok (.iload_n 1, 1) := by decide +kernel
theorem dX12_write_35 : decode cX12_write 35 = .ok (.iaload, 1) := by decide +kernel
theorem dX12_write_36 : decode cX12_write 36 = .ok (.iconst 0, 1) := by decide +kernel
theorem dX12_write_37 : decode cX12_write 37 = .ok (.invokevirtual 243, 3) := by decide +kernel
theorem dX12_write_40 : decode cX12_write 40 = .ok (.aload_n 0, 1) := by decide +kernel
theorem dX12_write_41 : decode cX12_write 41 = .ok (.ldc 247, 2) := by decide +kernel
theorem dX12_write_43 : decode cX12_write 43 = .ok (.iload_n 3, 1) := by decide +kernel
theorem dX12_write_44 : decode cX12_write 44 = .ok (.invokevirtual 249, 3) := by decide +kernel
theorem dX12_write_47 : decode cX12_write 47 = .ok (.invokevirtual 240, 3) := by decide +kernel
theorem dX12_write_50 : decode cX12_write 50 = .ok (.aload_n 0, 1) := by decide +kernel
theorem dX12_write_51 : decode cX12_write 51 = .ok (.aload_n 0, 1) := by decide +kernel
theorem dX12_write_52 : decode cX12_write 52 = .ok (.getfield 78, 3) := by decide +kernel
theorem dX12_write_55 : decode cX12_write 55 = .ok (.iload_n 1, 1) := by decide +kernel
theorem dX12_write_56 : decode cX12_write 56 = .ok (.iaload, 1) := by decide +kernel
theorem dX12_write_57 : decode cX12_write 57 = .ok (.iconst 0, 1) := by decide +kernel
theorem dX12_write_58 : decode cX12_write 58 = .ok (.invokevirtual 243, 3) := by decide +kernel
theorem dX12_write_61 : decode cX12_write 61 = .ok (.iload_n 2, 1) := by decide +kernel
theorem dX12_write_62 : decode cX12_write 62 = .ok (.ifCond .ne 9, 3) := by decide +kernel
theorem dX12_write_65 : decode cX12_write 65 = .ok (.aload_n 0, 1) := by decide +kernel
theorem dX12_write_66 : decode cX12_write 66 = .ok (.bipush 41, 2) := by decide +kernel
theorem dX12_write_68 : decode cX12_write 68 = .ok (.invokevirtual 240, 3) := by decide +kernel
theorem dX12_write_71 : decode cX12_write 71 = .ok (.return_, 1) := by decide +kernel
theorem dX12_write_72 : decode cX12_write 72 = .ok (.iload_n 3, 1) := by decide +kernel
theorem dX12_write_73 : decode cX12_write 73 = .ok (.iconst 4, 1) := by decide +kernel
theorem dX12_write_74 : decode cX12_write 74 = .ok (.if_icmp .ge 37, 3) := by decide +kernel
theorem dX12_write_77 : decode cX12_write 77 = .ok (.aload_n 0, 1) := by decide +kernel
theorem dX12_write_78 : decode cX12_write 78 = .ok (.iload_n 3, 1) := by decide +kernel
theorem dX12_write_79 : decode cX12_write 79 = .ok (.iconst 1, 1) := by decide +kernel
theorem dX12_write_80 : decode cX12_write 80 = .ok (.if_icmp .ne 15, 3) := by decide +kernel
theorem dX12_write_83 : decode cX12_write 83 = .ok (.bipush 97, 2) := by decide +kernel
theorem dX12_write_85 : decode cX12_write 85 = .ok (.aload_n 0, 1) := by decide +kernel
theorem dX12_write_86 : decode cX12_write 86 = .ok (.getfield 81, 3) := by decide +kernel
theorem dX12_write_89 : decode cX12_write 89 = .ok (.iload_n 1, 1) := by decide +kernel
theorem dX12_write_90 : decode cX12_write 90 = .ok (.iaload, 1) := by decide +kernel
theorem dX12_write_91 : decode cX12_write 91 = .ok (.iadd, 1) := by decide +kernel
theorem dX12_write_92 : decode cX12_write 92 = .ok (.goto 15, 3) := by decide +kernel
theorem dX12_write_95 : decode cX12_write 95 = .ok (.iload_n 3, 1) := by decide +kernel
theorem dX12_write_96 : decode cX12_write 96 = .ok (.iconst 2, 1) := by decide +kernel
theorem dX12_write_97 : decode cX12_write 97 = .ok (.if_icmp .ne 8, 3) := by decide +kernel
theorem dX12_write_100 : decode cX12_write 100 = .ok (.bipush 48, 2) := by decide +kernel
theorem dX12_write_102 : decode cX12_write 102 = .ok (.goto 5, 3) := by decide +kernel
theorem dX12_write_105 : decode cX12_write 105 = .ok (.bipush 49, 2) := by decide +kernel
theorem dX12_write_107 : decode cX12_write 107 = .ok (.invokevirtual 240, 3) := by decide +kernel
theorem dX12_write_110 : decode cX12_write 110 = .ok (.return_, 1) := by decide +kernel
theorem dX12_write_111 : decode cX12_write 111 = .ok (.aload_n 0, 1) := by decide +kernel
theorem dX12_write_112 : decode cX12_write 112 = .ok (.ldc 247, 2) := by decide +kernel
theorem dX12_write_114 : decode cX12_write 114 = .ok (.iload_n 3, 1) := by decide +kernel
theorem dX12_write_115 : decode cX12_write 115 = .ok (.invokevirtual 249, 3) := by decide +kernel
theorem dX12_write_118 : decode cX12_write 118 = .ok (.invokevirtual 240, 3) := by decide +kernel
theorem dX12_write_121 : decode cX12_write 121 = .ok (.iload_n 3, 1) := by decide +kernel
theorem dX12_write_122 : decode cX12_write 122 = .ok (.bipush 14, 2) := by decide +kernel
theorem dX12_write_124 : decode cX12_write 124 = .ok (.if_icmp .lt 45, 3) := by decide +kernel
theorem dX12_write_127 : decode cX12_write 127 = .ok (.aload_n 0, 1) := by decide +kernel
theorem dX12_write_128 : decode cX12_write 128 = .ok (.aload_n 0, 1) := by decide +kernel
theorem dX12_write_129 : decode cX12_write 129 = .ok (.getfield 75, 3) := by decide +kernel
theorem dX12_write_132 : decode cX12_write 132 = .ok (.iload_n 1, 1) := by decide +kernel
theorem dX12_write_133 : decode cX12_write 133 = .ok (.iaload, 1) := by decide +kernel
theorem dX12_write_134 : decode cX12_write 134 = .ok (.iconst 1, 1) := by decide +kernel
theorem dX12_write_135 : decode cX12_write 135 = .ok (.invokevirtual 243, 3) := by decide +kernel
theorem dX12_write_138 : decode cX12_write 138 = .ok (.aload_n 0, 1) := by decide +kernel
theorem dX12_write_139 : decode cX12_write 139 = .ok (.iload_n 3, 1) := by decide +kernel
theorem dX12_write_140 : decode cX12_write 140 = .ok (.bipush 14, 2) := by decide +kernel
theorem dX12_write_142 : decode cX12_write 142 = .ok (.if_icmp .ne 8, 3) := by decide +kernel
theorem dX12_write_145 : decode cX12_write 145 = .ok (.bipush 93, 2) := by decide +kernel
theorem dX12_write_147 : decode cX12_write 147 = .ok (.goto 5, 3) := by decide +kernel
theorem dX12_write_150 : decode cX12_write 150 = .ok (.bipush 125, 2) := by decide +kernel
theorem dX12_write_152 : decode cX12_write 152 = .ok (.invokevirtual 240, 3) := by decide +kernel
theorem dX12_write_155 : decode cX12_write 155 = .ok (.aload_n 0, 1) := by decide +kernel
theorem dX12_write_156 : decode cX12_write 156 = .ok (.aload_n 0, 1) := by decide +kernel
theorem dX12_write_157 : decode cX12_write 157 = .ok (.getfield 78, 3) := by decide +kernel
theorem dX12_write_160 : decode cX12_write 160 = .ok (.iload_n 1, 1) := by decide +kernel
theorem dX12_write_161 : decode cX12_write 161 = .ok (.iaload, 1) := by decide +kernel
theorem dX12_write_162 : decode cX12_write 162 = .ok (.iconst 0, 1) := by decide +kernel
theorem dX12_write_163 : decode cX12_write 163 = .ok (.invokevirtual 243, 3) := by decide +kernel
theorem dX12_write_166 : decode cX12_write 166 = .ok (.goto 24, 3) := by decide +kernel
theorem dX12_write_169 : decode cX12_write 169 = .ok (.aload_n 0, 1) := by decide +kernel
theorem dX12_write_170 : decode cX12_write 170 = .ok (.aload_n 0, 1) := by decide +kernel
theorem dX12_write_171 : decode cX12_write 171 = .ok (.getfield 81, 3) := by decide +kernel
theorem dX12_write_174 : decode cX12_write 174 = .ok (.iload_n 1, 1) := by decide +kernel
theorem dX12_write_175 : decode cX12_write 175 = .ok (.iaload, 1) := by decide +kernel
theorem dX12_write_176 : decode cX12_write 176 = .ok (.invokevirtual 255, 3) := by decide +kernel
theorem dX12_write_179 : decode cX12_write 179 = .ok (.aload_n 0, 1) := by decide +kernel
theorem dX12_write_180 : decode cX12_write 180 = .ok (.aload_n 0, 1) := by decide +kernel
theorem dX12_write_181 : decode cX12_write 181 = .ok (.getfield 75, 3) := by decide +kernel
theorem dX12_write_184 : decode cX12_write 184 = .ok (.iload_n 1, 1) := by decide +kernel
theorem dX12_write_185 : decode cX12_write 185 = .ok (.iaload, 1) := by decide +kernel
theorem dX12_write_186 : decode cX12_write 186 = .ok (.iconst 0, 1) := by decide +kernel
theorem dX12_write_187 : decode cX12_write 187 = .ok (.invokevirtual 243, 3) := by decide +kernel
theorem dX12_write_190 : decode cX12_write 190 = .ok (.return_, 1) := by decide +kernel
def f_X12_write_29 (F P : Nat) (S : xSt) (self_X12_write : Nat → Int32 → Int32 → xDt → Option (xDt)) (v0 : Nat) (v1 : Int32) (v2 : Int32) (v3 : Int32) (D : xDt) : Option (xDt) :=
  xgrd (xin v1 (xl S (xr S v0 9))) ((self_X12_write v0 (D.1 (xr S v0 9) (v1).toNatClampNeg) 0 D).bind fun q2 => (f_J0_charAt_5068e F P S 3 v3 q2).bind fun q3 => (f_X12_put F P S v0 q3.1 q3.2).bind fun q4 => xgrd (xin v1 (xl S (xr S v0 10))) ((self_X12_write v0 (q4.1 (xr S v0 10) (v1).toNatClampNeg) 0 q4).bind fun q6 => if v2 = 0 then ((f_X12_put F P S v0 41 q6).bind fun q7 => some q7) else (some q6)))
set_option maxHeartbeats 4000000 in
theorem t_X12_write_29 {F P : Nat} {S : xSt} (hS : xWF S) {hh : Nat} (hhc : 4 ≤ hh) {self_X12_write : Nat → Int32 → Int32 → xDt → Option (xDt)} (hself_X12_write : ∀ {v0 : Nat} {v1 : Int32} {v2 : Int32} {D : xDt} {r : xDt}, xK S v0 12 → self_X12_write v0 v1 v2 D = some r → xSp md_X12_write (hh, 0, 0) [.ref v0, .int v1, .int v2] (S, D) (xQv S r)) {v0 : Nat} {v1 : Int32} {v2 : Int32} {v3 : Int32} {D : xDt} {r : xDt} (k0 : xK S v0 12) (h : f_X12_write_29 F P S self_X12_write v0 v1 v2 v3 D = some r) : yEx md_X12_write (hh + 1) 29 [(0, .ref v0), (1, .int v1), (2, .int v2), (3, .int v3)] [] S D (xQv S r) := by
  unfold f_X12_write_29 at h
  refine x_aload_n dX12_write_29 0 rfl ?_
  refine x_aload_n dX12_write_30 0 rfl ?_
  refine y_getr (kd := 100) hS fl_RX12_75 dX12_write_31 rfl k0 ?_
  refine x_iload_n dX12_write_34 1 rfl ?_
  refine xgrd_e h (fun g1 h => ?_)
  refine y_iald dX12_write_35 ((hS.f k0 9 100 rfl).2) g1 ?_
  refine x_iconst 0 dX12_write_36 (by decide) ?_
  refine xbnd_e h (fun q2 e2 h => ?_)
  refine y_callVv (As := [.int (D.1 (xr S v0 9) (v1).toNatClampNeg), .int 0]) (q := q2) cv_RX12_243 dX12_write_37 k0 rfl (Nat.le_of_ble_eq_true rfl) (by omega) (hself_X12_write k0 e2) ?_
  refine x_aload_n dX12_write_40 0 rfl ?_
  refine y_ldcS 3 (by decide) rfl rfl dX12_write_41 ?_
  refine x_iload_n dX12_write_43 3 rfl ?_
  refine xbnd_e h (fun q3 e3 h => ?_)
  refine y_callT (i := 3) (As := [.int v3]) (q := q3) (by decide) ct_RX12_249 dX12_write_44 rfl (Nat.le_of_ble_eq_true rfl) (by omega) (S_J0_charAt_5068e hS (by decide) e3) ?_
  refine xbnd_e h (fun q4 e4 h => ?_)
  refine y_callVv (As := [.int q3.1]) (q := q4) cv_RX12_240 dX12_write_47 k0 rfl (Nat.le_of_ble_eq_true rfl) (by omega) (S_X12_put hS k0 e4) ?_
  refine x_aload_n dX12_write_50 0 rfl ?_
  refine x_aload_n dX12_write_51 0 rfl ?_
  refine y_getr (kd := 100) hS fl_RX12_78 dX12_write_52 rfl k0 ?_
  refine x_iload_n dX12_write_55 1 rfl ?_
  refine xgrd_e h (fun g5 h => ?_)
  refine y_iald dX12_write_56 ((hS.f k0 10 100 rfl).2) g5 ?_
  refine x_iconst 0 dX12_write_57 (by decide) ?_
  refine xbnd_e h (fun q6 e6 h => ?_)
  refine y_callVv (As := [.int (q4.1 (xr S v0 10) (v1).toNatClampNeg), .int 0]) (q := q6) cv_RX12_243 dX12_write_58 k0 rfl (Nat.le_of_ble_eq_true rfl) (by omega) (hself_X12_write k0 e6) ?_
  refine x_iload_n dX12_write_61 2 rfl ?_
  refine x_if_ne 71 dX12_write_62 (by decide) (fun c => ?_) (fun c => ?_)
  · rw [if_neg c] at h
    obtain rfl := Option.some.inj h
    exact y_vret rfl dX12_write_71
  · rw [if_pos c] at h
    refine x_aload_n dX12_write_65 0 rfl ?_
    refine x_bipush 41 dX12_write_66 (by decide) ?_
    refine xbnd_e h (fun q7 e7 h => ?_)
    refine y_callVv (As := [.int 41]) (q := q7) cv_RX12_240 dX12_write_68 k0 rfl (Nat.le_of_ble_eq_true rfl) (by omega) (S_X12_put hS k0 e7) ?_
    obtain rfl := Option.some.inj h
    exact y_vret rfl dX12_write_71

def f_X12_write_107 (F P : Nat) (S : xSt) (self_X12_write : Nat → Int32 → Int32 → xDt → Option (xDt)) (s0 : Int32) (s1 : Nat) (D : xDt) : Option (xDt) :=
  (f_X12_put F P S s1 s0 D).bind fun q1 => some q1
set_option maxHeartbeats 4000000 in
theorem t_X12_write_107 {F P : Nat} {S : xSt} (hS : xWF S) {hh : Nat} (hhc : 4 ≤ hh) {self_X12_write : Nat → Int32 → Int32 → xDt → Option (xDt)} (hself_X12_write : ∀ {v0 : Nat} {v1 : Int32} {v2 : Int32} {D : xDt} {r : xDt}, xK S v0 12 → self_X12_write v0 v1 v2 D = some r → xSp md_X12_write (hh, 0, 0) [.ref v0, .int v1, .int v2] (S, D) (xQv S r)) {s0 : Int32} {s1 : Nat} {D : xDt} {r : xDt} (ks1 : xK S s1 12) (h : f_X12_write_107 F P S self_X12_write s0 s1 D = some r) : yEx md_X12_write (hh + 1) 107 [] [.int s0, .ref s1] S D (xQv S r) := by
  unfold f_X12_write_107 at h
  refine xbnd_e h (fun q1 e1 h => ?_)
  refine y_callVv (As := [.int s0]) (q := q1) cv_RX12_240 dX12_write_107 ks1 rfl (Nat.le_of_ble_eq_true rfl) (by omega) (S_X12_put hS ks1 e1) ?_
  obtain rfl := Option.some.inj h
  exact y_vret rfl dX12_write_110

def f_X12_write_152 (F P : Nat) (S : xSt) (self_X12_write : Nat → Int32 → Int32 → xDt → Option (xDt)) (v0 : Nat) (v1 : Int32) (s0 : Int32) (s1 : Nat) (D : xDt) : Option (xDt) :=
  (f_X12_put F P S s1 s0 D).bind fun q1 => xgrd (xin v1 (xl S (xr S v0 10))) ((self_X12_write v0 (q1.1 (xr S v0 10) (v1).toNatClampNeg) 0 q1).bind fun q3 => some q3)
set_option maxHeartbeats 4000000 in
theorem t_X12_write_152 {F P : Nat} {S : xSt} (hS : xWF S) {hh : Nat} (hhc : 4 ≤ hh) {self_X12_write : Nat → Int32 → Int32 → xDt → Option (xDt)} (hself_X12_write : ∀ {v0 : Nat} {v1 : Int32} {v2 : Int32} {D : xDt} {r : xDt}, xK S v0 12 → self_X12_write v0 v1 v2 D = some r → xSp md_X12_write (hh, 0, 0) [.ref v0, .int v1, .int v2] (S, D) (xQv S r)) {v0 : Nat} {v1 : Int32} {s0 : Int32} {s1 : Nat} {D : xDt} {r : xDt} (k0 : xK S v0 12) (ks1 : xK S s1 12) (h : f_X12_write_152 F P S self_X12_write v0 v1 s0 s1 D = some r) : yEx md_X12_write (hh + 1) 152 [(0, .ref v0), (1, .int v1)] [.int s0, .ref s1] S D (xQv S r) := by
  unfold f_X12_write_152 at h
  refine xbnd_e h (fun q1 e1 h => ?_)
  refine y_callVv (As := [.int s0]) (q := q1) cv_RX12_240 dX12_write_152 ks1 rfl (Nat.le_of_ble_eq_true rfl) (by omega) (S_X12_put hS ks1 e1) ?_
  refine x_aload_n dX12_write_155 0 rfl ?_
  refine x_aload_n dX12_write_156 0 rfl ?_
  refine y_getr (kd := 100) hS fl_RX12_78 dX12_write_157 rfl k0 ?_
  refine x_iload_n dX12_write_160 1 rfl ?_
  refine xgrd_e h (fun g2 h => ?_)
  refine y_iald dX12_write_161 ((hS.f k0 10 100 rfl).2) g2 ?_
  refine x_iconst 0 dX12_write_162 (by decide) ?_
  refine xbnd_e h (fun q3 e3 h => ?_)
  refine y_callVv (As := [.int (q1.1 (xr S v0 10) (v1).toNatClampNeg), .int 0]) (q := q3) cv_RX12_243 dX12_write_163 k0 rfl (Nat.le_of_ble_eq_true rfl) (by omega) (hself_X12_write k0 e3) ?_
  refine x_goto 190 dX12_write_166 (by decide) ?_
  obtain rfl := Option.some.inj h
  exact y_vret rfl dX12_write_190

def f_X12_write_72 (F P : Nat) (S : xSt) (self_X12_write : Nat → Int32 → Int32 → xDt → Option (xDt)) (v0 : Nat) (v1 : Int32) (v3 : Int32) (D : xDt) : Option (xDt) :=
  if 4 ≤ v3 then ((f_J0_charAt_5068e F P S 3 v3 D).bind fun q1 => (f_X12_put F P S v0 q1.1 q1.2).bind fun q2 => if v3 < 14 then (xgrd (xin v1 (xl S (xr S v0 11))) ((f_X12_putGroup F P S v0 (q2.1 (xr S v0 11) (v1).toNatClampNeg) q2).bind fun q4 => xgrd (xin v1 (xl S (xr S v0 9))) ((self_X12_write v0 (q4.1 (xr S v0 9) (v1).toNatClampNeg) 0 q4).bind fun q6 => some q6))) else (xgrd (xin v1 (xl S (xr S v0 9))) ((self_X12_write v0 (q2.1 (xr S v0 9) (v1).toNatClampNeg) 1 q2).bind fun q8 => if v3 = 14 then (f_X12_write_152 F P S self_X12_write v0 v1 93 v0 q8) else (f_X12_write_152 F P S self_X12_write v0 v1 125 v0 q8)))) else (if v3 = 1 then (xgrd (xin v1 (xl S (xr S v0 11))) (f_X12_write_107 F P S self_X12_write (97 + (D.1 (xr S v0 11) (v1).toNatClampNeg)) v0 D)) else (if v3 = 2 then (f_X12_write_107 F P S self_X12_write 48 v0 D) else (f_X12_write_107 F P S self_X12_write 49 v0 D)))
set_option maxHeartbeats 4000000 in
theorem t_X12_write_72 {F P : Nat} {S : xSt} (hS : xWF S) {hh : Nat} (hhc : 4 ≤ hh) {self_X12_write : Nat → Int32 → Int32 → xDt → Option (xDt)} (hself_X12_write : ∀ {v0 : Nat} {v1 : Int32} {v2 : Int32} {D : xDt} {r : xDt}, xK S v0 12 → self_X12_write v0 v1 v2 D = some r → xSp md_X12_write (hh, 0, 0) [.ref v0, .int v1, .int v2] (S, D) (xQv S r)) {v0 : Nat} {v1 : Int32} {v3 : Int32} {D : xDt} {r : xDt} (k0 : xK S v0 12) (h : f_X12_write_72 F P S self_X12_write v0 v1 v3 D = some r) : yEx md_X12_write (hh + 1) 72 [(0, .ref v0), (1, .int v1), (3, .int v3)] [] S D (xQv S r) := by
  unfold f_X12_write_72 at h
  refine x_iload_n dX12_write_72 2 rfl ?_
  refine x_iconst 4 dX12_write_73 (by decide) ?_
  refine x_icmp_ge 111 dX12_write_74 (by decide) (fun c => ?_) (fun c => ?_)
  · rw [if_pos c] at h
    refine x_aload_n dX12_write_111 0 rfl ?_
    refine y_ldcS 3 (by decide) rfl rfl dX12_write_112 ?_
    refine x_iload_n dX12_write_114 2 rfl ?_
    refine xbnd_e h (fun q1 e1 h => ?_)
    refine y_callT (i := 3) (As := [.int v3]) (q := q1) (by decide) ct_RX12_249 dX12_write_115 rfl (Nat.le_of_ble_eq_true rfl) (by omega) (S_J0_charAt_5068e hS (by decide) e1) ?_
    refine xbnd_e h (fun q2 e2 h => ?_)
    refine y_callVv (As := [.int q1.1]) (q := q2) cv_RX12_240 dX12_write_118 k0 rfl (Nat.le_of_ble_eq_true rfl) (by omega) (S_X12_put hS k0 e2) ?_
    refine x_iload_n dX12_write_121 2 rfl ?_
    refine x_bipush 14 dX12_write_122 (by decide) ?_
    refine x_icmp_lt 169 dX12_write_124 (by decide) (fun c => ?_) (fun c => ?_)
    · rw [if_pos c] at h
      refine x_aload_n dX12_write_169 0 rfl ?_
      refine x_aload_n dX12_write_170 0 rfl ?_
      refine y_getr (kd := 100) hS fl_RX12_81 dX12_write_171 rfl k0 ?_
      refine x_iload_n dX12_write_174 1 rfl ?_
      refine xgrd_e h (fun g3 h => ?_)
      refine y_iald dX12_write_175 ((hS.f k0 11 100 rfl).2) g3 ?_
      refine xbnd_e h (fun q4 e4 h => ?_)
      refine y_callVv (As := [.int (q2.1 (xr S v0 11) (v1).toNatClampNeg)]) (q := q4) cv_RX12_255 dX12_write_176 k0 rfl (Nat.le_of_ble_eq_true rfl) (by omega) (S_X12_putGroup hS k0 e4) ?_
      refine x_aload_n dX12_write_179 0 rfl ?_
      refine x_aload_n dX12_write_180 0 rfl ?_
      refine y_getr (kd := 100) hS fl_RX12_75 dX12_write_181 rfl k0 ?_
      refine x_iload_n dX12_write_184 1 rfl ?_
      refine xgrd_e h (fun g5 h => ?_)
      refine y_iald dX12_write_185 ((hS.f k0 9 100 rfl).2) g5 ?_
      refine x_iconst 0 dX12_write_186 (by decide) ?_
      refine xbnd_e h (fun q6 e6 h => ?_)
      refine y_callVv (As := [.int (q4.1 (xr S v0 9) (v1).toNatClampNeg), .int 0]) (q := q6) cv_RX12_243 dX12_write_187 k0 rfl (Nat.le_of_ble_eq_true rfl) (by omega) (hself_X12_write k0 e6) ?_
      obtain rfl := Option.some.inj h
      exact y_vret rfl dX12_write_190
    · rw [if_neg c] at h
      refine x_aload_n dX12_write_127 0 rfl ?_
      refine x_aload_n dX12_write_128 0 rfl ?_
      refine y_getr (kd := 100) hS fl_RX12_75 dX12_write_129 rfl k0 ?_
      refine x_iload_n dX12_write_132 1 rfl ?_
      refine xgrd_e h (fun g7 h => ?_)
      refine y_iald dX12_write_133 ((hS.f k0 9 100 rfl).2) g7 ?_
      refine x_iconst 1 dX12_write_134 (by decide) ?_
      refine xbnd_e h (fun q8 e8 h => ?_)
      refine y_callVv (As := [.int (q2.1 (xr S v0 9) (v1).toNatClampNeg), .int 1]) (q := q8) cv_RX12_243 dX12_write_135 k0 rfl (Nat.le_of_ble_eq_true rfl) (by omega) (hself_X12_write k0 e8) ?_
      refine x_aload_n dX12_write_138 0 rfl ?_
      refine x_iload_n dX12_write_139 2 rfl ?_
      refine x_bipush 14 dX12_write_140 (by decide) ?_
      refine x_icmp_ne 150 dX12_write_142 (by decide) (fun c => ?_) (fun c => ?_)
      · rw [if_neg c] at h
        refine x_bipush 125 dX12_write_150 (by decide) ?_
        refine x_lv (lv' := [(0, .ref v0), (1, .int v1)]) [0, 1] rfl ?_
        exact t_X12_write_152 hS hhc hself_X12_write k0 k0 h
      · rw [if_pos c] at h
        refine x_bipush 93 dX12_write_145 (by decide) ?_
        refine x_goto 152 dX12_write_147 (by decide) ?_
        refine x_lv (lv' := [(0, .ref v0), (1, .int v1)]) [0, 1] rfl ?_
        exact t_X12_write_152 hS hhc hself_X12_write k0 k0 h
  · rw [if_neg c] at h
    refine x_aload_n dX12_write_77 0 rfl ?_
    refine x_iload_n dX12_write_78 2 rfl ?_
    refine x_iconst 1 dX12_write_79 (by decide) ?_
    refine x_icmp_ne 95 dX12_write_80 (by decide) (fun c => ?_) (fun c => ?_)
    · rw [if_neg c] at h
      refine x_iload_n dX12_write_95 2 rfl ?_
      refine x_iconst 2 dX12_write_96 (by decide) ?_
      refine x_icmp_ne 105 dX12_write_97 (by decide) (fun c => ?_) (fun c => ?_)
      · rw [if_neg c] at h
        refine x_bipush 49 dX12_write_105 (by decide) ?_
        refine x_lv (lv' := []) [] rfl ?_
        exact t_X12_write_107 hS hhc hself_X12_write k0 h
      · rw [if_pos c] at h
        refine x_bipush 48 dX12_write_100 (by decide) ?_
        refine x_goto 107 dX12_write_102 (by decide) ?_
        refine x_lv (lv' := []) [] rfl ?_
        exact t_X12_write_107 hS hhc hself_X12_write k0 h
    · rw [if_pos c] at h
      refine x_bipush 97 dX12_write_83 (by decide) ?_
      refine x_aload_n dX12_write_85 0 rfl ?_
      refine y_getr (kd := 100) hS fl_RX12_81 dX12_write_86 rfl k0 ?_
      refine x_iload_n dX12_write_89 1 rfl ?_
      refine xgrd_e h (fun g9 h => ?_)
      refine y_iald dX12_write_90 ((hS.f k0 11 100 rfl).2) g9 ?_
      refine x_iadd dX12_write_91 ?_
      refine x_goto 107 dX12_write_92 (by decide) ?_
      refine x_lv (lv' := []) [] rfl ?_
      exact t_X12_write_107 hS hhc hself_X12_write k0 h

def f_X12_write_o (F P : Nat) (S : xSt) (self_X12_write : Nat → Int32 → Int32 → xDt → Option (xDt)) (v0 : Nat) (v1 : Int32) (v2 : Int32) (D : xDt) : Option (xDt) :=
  xgrd (xin v1 (xl S (xr S v0 8))) (xlet (D.1 (xr S v0 8) (v1).toNatClampNeg) fun v3_2 => if v3_2 < 10 then (f_X12_write_72 F P S self_X12_write v0 v1 v3_2 D) else (if 13 < v3_2 then (f_X12_write_72 F P S self_X12_write v0 v1 v3_2 D) else (if v2 = 0 then ((f_X12_put F P S v0 40 D).bind fun q3 => f_X12_write_29 F P S self_X12_write v0 v1 v2 v3_2 q3) else (f_X12_write_29 F P S self_X12_write v0 v1 v2 v3_2 D))))
set_option maxHeartbeats 4000000 in
theorem S_X12_write_o {F P : Nat} {S : xSt} (hS : xWF S) {hh : Nat} (hhc : 4 ≤ hh) {self_X12_write : Nat → Int32 → Int32 → xDt → Option (xDt)} (hself_X12_write : ∀ {v0 : Nat} {v1 : Int32} {v2 : Int32} {D : xDt} {r : xDt}, xK S v0 12 → self_X12_write v0 v1 v2 D = some r → xSp md_X12_write (hh, 0, 0) [.ref v0, .int v1, .int v2] (S, D) (xQv S r)) {v0 : Nat} {v1 : Int32} {v2 : Int32} {D : xDt} {r : xDt} (k0 : xK S v0 12) (h : f_X12_write_o F P S self_X12_write v0 v1 v2 D = some r) : xSp md_X12_write ((hh + 1), 0, 0) [.ref v0, .int v1, .int v2] (S, D) (xQv S r) := by
  unfold f_X12_write_o at h
  refine xEntry (by decide) (Nat.le_of_ble_eq_true rfl) ?_
  refine x_lv (lv' := [(0, .ref v0), (1, .int v1), (2, .int v2)]) [0, 1, 2] rfl ?_
  refine x_aload_n dX12_write_0 0 rfl ?_
  refine y_getr (kd := 100) hS fl_RX12_72 dX12_write_1 rfl k0 ?_
  refine x_iload_n dX12_write_4 1 rfl ?_
  refine xgrd_e h (fun g1 h => ?_)
  refine y_iald dX12_write_5 ((hS.f k0 8 100 rfl).2) g1 ?_
  refine xlet_e h (fun v3_2 ev3_2 h => ?_)
  refine y_istore_n v3_2 ev3_2 [(3, .int v3_2), (0, .ref v0), (1, .int v1), (2, .int v2)] dX12_write_6 (by show _ < 4; decide) rfl ?_
  refine x_iload_n dX12_write_7 0 rfl ?_
  refine x_bipush 10 dX12_write_8 (by decide) ?_
  refine x_icmp_lt 72 dX12_write_10 (by decide) (fun c => ?_) (fun c => ?_)
  · rw [if_pos c] at h
    refine x_lv (lv' := [(0, .ref v0), (1, .int v1), (3, .int v3_2)]) [1, 2, 0] rfl ?_
    exact t_X12_write_72 hS hhc hself_X12_write k0 h
  · rw [if_neg c] at h
    refine x_iload_n dX12_write_13 0 rfl ?_
    refine x_bipush 13 dX12_write_14 (by decide) ?_
    refine x_icmp_gt 72 dX12_write_16 (by decide) (fun c => ?_) (fun c => ?_)
    · rw [if_pos c] at h
      refine x_lv (lv' := [(0, .ref v0), (1, .int v1), (3, .int v3_2)]) [1, 2, 0] rfl ?_
      exact t_X12_write_72 hS hhc hself_X12_write k0 h
    · rw [if_neg c] at h
      refine x_iload_n dX12_write_19 3 rfl ?_
      refine x_if_ne 29 dX12_write_20 (by decide) (fun c => ?_) (fun c => ?_)
      · rw [if_neg c] at h
        refine x_lv (lv' := [(0, .ref v0), (1, .int v1), (2, .int v2), (3, .int v3_2)]) [1, 2, 3, 0] rfl ?_
        exact t_X12_write_29 hS hhc hself_X12_write k0 h
      · rw [if_pos c] at h
        refine x_aload_n dX12_write_23 1 rfl ?_
        refine x_bipush 40 dX12_write_24 (by decide) ?_
        refine xbnd_e h (fun q3 e3 h => ?_)
        refine y_callVv (As := [.int 40]) (q := q3) cv_RX12_240 dX12_write_26 k0 rfl (Nat.le_of_ble_eq_true rfl) (by omega) (S_X12_put hS k0 e3) ?_
        refine x_lv (lv' := [(0, .ref v0), (1, .int v1), (2, .int v2), (3, .int v3_2)]) [1, 2, 3, 0] rfl ?_
        exact t_X12_write_29 hS hhc hself_X12_write k0 h

def f_X12_write (F P : Nat) (S : xSt) : Nat → Nat → Int32 → Int32 → xDt → Option (xDt)
  | 0 => fun _ _ _ _ => none
  | n + 1 => f_X12_write_o F P S (f_X12_write F P S n)
theorem S_X12_write {F P : Nat} {S : xSt} (hS : xWF S) : ∀ (n : Nat) {v0 : Nat} {v1 : Int32} {v2 : Int32} {D : xDt} {r : xDt}, xK S v0 12 → f_X12_write F P S n v0 v1 v2 D = some r → xSp md_X12_write (n + 4, 0, 0) [.ref v0, .int v1, .int v2] (S, D) (xQv S r) := by
  intro n
  induction n with
  | zero => intros; rename_i h; cases h
  | succ n ih =>
    intro v0 v1 v2 D r k0 h
    have := S_X12_write_o hS (hh := n + 4) (by omega) (fun k0 h => ih k0 h) k0 h
    rw [show n + 1 + 4 = n + 4 + 1 by omega]
    exact this

theorem dX12_tell_0 : decode cX12_tell 0 = .ok (.aload_n 0, 1) := by decide +kernel
theorem dX12_tell_1 : decode cX12_tell 1 = .ok (.iconst 0, 1) := by decide +kernel
theorem dX12_tell_2 : decode cX12_tell 2 = .ok (.putfield 237, 3) := by decide +kernel
theorem dX12_tell_5 : decode cX12_tell 5 = .ok (.aload_n 0, 1) := by decide +kernel
theorem dX12_tell_6 : decode cX12_tell 6 = .ok (.aload_n 0, 1) := by decide +kernel
theorem dX12_tell_7 : decode cX12_tell 7 = .ok (.getfield 160, 3) := by decide +kernel
theorem dX12_tell_10 : decode cX12_tell 10 = .ok (.iconst 1, 1) := by decide +kernel
theorem dX12_tell_11 : decode cX12_tell 11 = .ok (.invokevirtual 243, 3) := by decide +kernel
theorem dX12_tell_14 : decode cX12_tell 14 = .ok (.aload_n 0, 1) := by decide +kernel
theorem dX12_tell_15 : decode cX12_tell 15 = .ok (.getfield 237, 3) := by decide +kernel
theorem dX12_tell_18 : decode cX12_tell 18 = .ok (.ireturn, 1) := by decide +kernel
def f_X12_tell (F P : Nat) (S : xSt) (v0 : Nat) (D : xDt) : Option (Int32 × xDt) :=
  xlet (xup D.1 v0 21 0, D.2) fun D1 => (f_X12_write F P S P v0 (D1.1 v0 14) 1 D1).bind fun q2 => some (q2.1 v0 21, q2)
set_option maxHeartbeats 4000000 in
theorem S_X12_tell {F P : Nat} {S : xSt} (hS : xWF S) {v0 : Nat} {D : xDt} {r : Int32 × xDt} (k0 : xK S v0 12) (h : f_X12_tell F P S v0 D = some r) : xSp md_X12_tell ((P + 5), 0, 0) [.ref v0] (S, D) (xQi S r) := by
  unfold f_X12_tell at h
  refine xEntry (by decide) (Nat.le_of_ble_eq_true rfl) ?_
  refine x_lv (lv' := [(0, .ref v0)]) [0] rfl ?_
  refine x_aload_n dX12_tell_0 0 rfl ?_
  refine x_iconst 0 dX12_tell_1 (by decide) ?_
  refine xlet_e h (fun D1 eD1 h => ?_)
  refine y_puti fp_RX12_237 dX12_tell_2 rfl k0 eD1 ?_
  refine x_aload_n dX12_tell_5 0 rfl ?_
  refine x_aload_n dX12_tell_6 0 rfl ?_
  refine y_geti fl_RX12_160 dX12_tell_7 rfl k0 ?_
  refine x_iconst 1 dX12_tell_10 (by decide) ?_
  refine xbnd_e h (fun q2 e2 h => ?_)
  refine y_callVv (As := [.int (D1.1 v0 14), .int 1]) (q := q2) cv_RX12_243 dX12_tell_11 k0 rfl (Nat.le_of_ble_eq_true rfl) (by omega) (S_X12_write hS P k0 e2) ?_
  refine x_aload_n dX12_tell_14 0 rfl ?_
  refine y_geti fl_RX12_237 dX12_tell_15 rfl k0 ?_
  obtain rfl := Option.some.inj h
  exact y_iret rfl dX12_tell_18

theorem dX12_letter_0 : decode cX12_letter 0 = .ok (.iload_n 1, 1) := by decide +kernel
theorem dX12_letter_1 : decode cX12_letter 1 = .ok (.iconst 0, 1) := by decide +kernel
theorem dX12_letter_2 : decode cX12_letter 2 = .ok (.aload_n 0, 1) := by decide +kernel
theorem dX12_letter_3 : decode cX12_letter 3 = .ok (.getfield 237, 3) := by decide +kernel
theorem dX12_letter_6 : decode cX12_letter 6 = .ok (.iconst 1, 1) := by decide +kernel
theorem dX12_letter_7 : decode cX12_letter 7 = .ok (.isub, 1) := by decide +kernel
theorem dX12_letter_8 : decode cX12_letter 8 = .ok (.invokestatic 10, 3) := by decide +kernel
theorem dX12_letter_11 : decode cX12_letter 11 = .ok (.ifCond .eq 12, 3) := by decide +kernel
theorem dX12_letter_14 : decode cX12_letter 14 = .ok (.aload_n 0, 1) := by decide +kernel
theorem dX12_letter_15 : decode cX12_letter 15 = .ok (.getfield 91, 3) := by decide +kernel
theorem dX12_letter_18 : decode cX12_letter 18 = .ok (.iload_n 1, 1) := by decide +kernel
theorem dX12_letter_19 : decode cX12_letter 19 = .ok (.baload, 1) := by decide +kernel
theorem dX12_letter_20 : decode cX12_letter 20 = .ok (.goto 5, 3) := by decide +kernel
theorem dX12_letter_23 : decode cX12_letter 23 = .ok (.bipush (-2), 2) := by decide +kernel
theorem dX12_letter_25 : decode cX12_letter 25 = .ok (.ireturn, 1) := by decide +kernel
def f_X12_letter (F P : Nat) (S : xSt) (v0 : Nat) (v1 : Int32) (D : xDt) : Option (Int32 × xDt) :=
  (f_X12_in F P S v1 0 ((D.1 v0 21) - 1) D).bind fun q1 => if q1.1 = 0 then (some ((-2), q1.2)) else (xgrd (xin v1 (xl S (xr S v0 20))) (some (q1.2.1 (xr S v0 20) (v1).toNatClampNeg, q1.2)))
set_option maxHeartbeats 4000000 in
theorem S_X12_letter {F P : Nat} {S : xSt} (hS : xWF S) {v0 : Nat} {v1 : Int32} {D : xDt} {r : Int32 × xDt} (k0 : xK S v0 12) (h : f_X12_letter F P S v0 v1 D = some r) : xSp md_X12_letter (1, 0, 0) [.ref v0, .int v1] (S, D) (xQi S r) := by
  unfold f_X12_letter at h
  refine xEntry (by decide) (Nat.le_of_ble_eq_true rfl) ?_
  refine x_lv (lv' := [(0, .ref v0), (1, .int v1)]) [0, 1] rfl ?_
  refine x_iload_n dX12_letter_0 1 rfl ?_
  refine x_iconst 0 dX12_letter_1 (by decide) ?_
  refine x_aload_n dX12_letter_2 0 rfl ?_
  refine y_geti fl_RX12_237 dX12_letter_3 rfl k0 ?_
  refine x_iconst 1 dX12_letter_6 (by decide) ?_
  refine x_isub dX12_letter_7 ?_
  refine xbnd_e h (fun q1 e1 h => ?_)
  refine y_callSi (As := [.int v1, .int 0, .int ((D.1 v0 21) - 1)]) (q := q1) cs_RX12_10 dX12_letter_8 rfl (Nat.le_of_ble_eq_true rfl) (by omega) (S_X12_in hS e1) ?_
  refine x_if_eq 23 dX12_letter_11 (by decide) (fun c => ?_) (fun c => ?_)
  · rw [if_pos c] at h
    refine x_bipush (-2) dX12_letter_23 (by decide) ?_
    obtain rfl := Option.some.inj h
    exact y_iret rfl dX12_letter_25
  · rw [if_neg c] at h
    refine x_aload_n dX12_letter_14 0 rfl ?_
    refine y_getr (kd := 103) hS fl_RX12_91 dX12_letter_15 rfl k0 ?_
    refine x_iload_n dX12_letter_18 1 rfl ?_
    refine xgrd_e h (fun g2 h => ?_)
    refine y_bald dX12_letter_19 ((hS.f k0 20 103 rfl).2) g2 ?_
    refine x_goto 25 dX12_letter_20 (by decide) ?_
    obtain rfl := Option.some.inj h
    exact y_iret rfl dX12_letter_25

theorem dX12_shrink_0 : decode cX12_shrink 0 = .ok (.aload_n 0, 1) := by decide +kernel
theorem dX12_shrink_1 : decode cX12_shrink 1 = .ok (.getfield 94, 3) := by decide +kernel
theorem dX12_shrink_4 : decode cX12_shrink 4 = .ok (.astore_n 3, 1) := by decide +kernel
theorem dX12_shrink_5 : decode cX12_shrink 5 = .ok (.iconst 0, 1) := by decide +kernel
theorem dX12_shrink_6 : decode cX12_shrink 6 = .ok (.istore 4, 2) := by decide +kernel
theorem dX12_shrink_8 : decode cX12_shrink 8 = .ok (.iconst 0, 1) := by decide +kernel
theorem dX12_shrink_9 : decode cX12_shrink 9 = .ok (.istore 5, 2) := by decide +kernel
theorem dX12_shrink_11 : decode cX12_shrink 11 = .ok (.iload 5, 2) := by decide +kernel
theorem dX12_shrink_13 : decode cX12_shrink 13 = .ok (.aload_n 0, 1) := by decide +kernel
theorem dX12_shrink_14 : decode cX12_shrink 14 = .ok (.getfield 7, 3) := by decide +kernel
theorem dX12_shrink_17 : decode cX12_shrink 17 = .ok (.if_icmp .ge 27, 3) := by decide +kernel
theorem dX12_shrink_20 : decode cX12_shrink 20 = .ok (.aload_n 3, 1) := by decide +kernel
theorem dX12_shrink_21 : decode cX12_shrink 21 = .ok (.iload 5, 2) := by decide +kernel
theorem dX12_shrink_23 : decode cX12_shrink 23 = .ok (.iload 4, 2) := by decide +kernel
theorem dX12_shrink_25 : decode cX12_shrink 25 = .ok (.iastore, 1) := by decide +kernel
theorem dX12_shrink_26 : decode cX12_shrink 26 = .ok (.iload 4, 2) := by decide +kernel
theorem dX12_shrink_28 : decode cX12_shrink 28 = .ok (.lload_n 1, 1) := by decide +kernel
theorem dX12_shrink_29 : decode cX12_shrink 29 = .ok (.iload 5, 2) := by decide +kernel
theorem dX12_shrink_31 : decode cX12_shrink 31 = .ok (.lushr, 1) := by decide +kernel
theorem dX12_shrink_32 : decode cX12_shrink 32 = .ok (.lconst 1, 1) := by decide +kernel
theorem dX12_shrink_33 : decode cX12_shrink 33 = .ok (.land, 1) := by decide +kernel
theorem dX12_shrink_34 : decode cX12_shrink 34 = .ok (.l2i, 1) := by decide +kernel
theorem dX12_shrink_35 : decode cX12_shrink 35 = .ok (.iadd, 1) := by decide +kernel
theorem dX12_shrink_36 : decode cX12_shrink 36 = .ok (.istore 4, 2) := by decide +kernel
theorem dX12_shrink_38 : decode cX12_shrink 38 = .ok (.iinc 5 1, 3) := by decide +kernel
theorem dX12_shrink_41 : decode cX12_shrink 41 = .ok (.goto (-30), 3) := by decide +kernel
theorem dX12_shrink_44 : decode cX12_shrink 44 = .ok (.iconst 0, 1) := by decide +kernel
theorem dX12_shrink_45 : decode cX12_shrink 45 = .ok (.istore 5, 2) := by decide +kernel
theorem dX12_shrink_47 : decode cX12_shrink 47 = .ok (.iload 5, 2) := by decide +kernel
theorem dX12_shrink_49 : decode cX12_shrink 49 = .ok (.iconst 4, 1) := by decide +kernel
theorem dX12_shrink_50 : decode cX12_shrink 50 = .ok (.if_icmp .ge 133, 3) := by decide +kernel
theorem dX12_shrink_53 : decode cX12_shrink 53 = .ok (.iconst 0, 1) := by decide +kernel
theorem dX12_shrink_54 : decode cX12_shrink 54 = .ok (.istore 6, 2) := by decide +kernel
theorem dX12_shrink_56 : decode cX12_shrink 56 = .ok (.iload 6, 2) := by decide +kernel
theorem dX12_shrink_58 : decode cX12_shrink 58 = .ok (.aload_n 0, 1) := by decide +kernel
theorem dX12_shrink_59 : decode cX12_shrink 59 = .ok (.getfield 7, 3) := by decide +kernel
theorem dX12_shrink_62 : decode cX12_shrink 62 = .ok (.if_icmp .ge 18, 3) := by decide +kernel
theorem dX12_shrink_65 : decode cX12_shrink 65 = .ok (.aload_n 0, 1) := by decide +kernel
theorem dX12_shrink_66 : decode cX12_shrink 66 = .ok (.getfield 97, 3) := by decide +kernel
theorem dX12_shrink_69 : decode cX12_shrink 69 = .ok (.iload 6, 2) := by decide +kernel
theorem dX12_shrink_71 : decode cX12_shrink 71 = .ok (.bipush (-2), 2) := by decide +kernel
theorem dX12_shrink_73 : decode cX12_shrink 73 = .ok (.iastore, 1) := by decide +kernel
theorem dX12_shrink_74 : decode cX12_shrink 74 = .ok (.iinc 6 1, 3) := by decide +kernel
theorem dX12_shrink_77 : decode cX12_shrink 77 = .ok (.goto (-21), 3) := by decide +kernel
theorem dX12_shrink_80 : decode cX12_shrink 80 = .ok (.iconst 0, 1) := by decide +kernel
theorem dX12_shrink_81 : decode cX12_shrink 81 = .ok (.istore 6, 2) := by decide +kernel
theorem dX12_shrink_83 : decode cX12_shrink 83 = .ok (.iload 6, 2) := by decide +kernel
theorem dX12_shrink_85 : decode cX12_shrink 85 = .ok (.aload_n 0, 1) := by decide +kernel
theorem dX12_shrink_86 : decode cX12_shrink 86 = .ok (.getfield 7, 3) := by decide +kernel
theorem dX12_shrink_89 : decode cX12_shrink 89 = .ok (.if_icmp .ge 88, 3) := by decide +kernel
theorem dX12_shrink_92 : decode cX12_shrink 92 = .ok (.lload_n 1, 1) := by decide +kernel
theorem dX12_shrink_93 : decode cX12_shrink 93 = .ok (.iload 6, 2) := by decide +kernel
theorem dX12_shrink_95 : decode cX12_shrink 95 = .ok (.lushr, 1) := by decide +kernel
theorem dX12_shrink_96 : decode cX12_shrink 96 = .ok (.lconst 1, 1) := by decide +kernel
theorem dX12_shrink_97 : decode cX12_shrink 97 = .ok (.land, 1) := by decide +kernel
theorem dX12_shrink_98 : decode cX12_shrink 98 = .ok (.lconst 1, 1) := by decide +kernel
theorem dX12_shrink_99 : decode cX12_shrink 99 = .ok (.lcmp, 1) := by decide +kernel
theorem dX12_shrink_100 : decode cX12_shrink 100 = .ok (.ifCond .ne 71, 3) := by decide +kernel
theorem dX12_shrink_103 : decode cX12_shrink 103 = .ok (.aload_n 0, 1) := by decide +kernel
theorem dX12_shrink_104 : decode cX12_shrink 104 = .ok (.getfield 14, 3) := by decide +kernel
theorem dX12_shrink_107 : decode cX12_shrink 107 = .ok (.bipush 64, 2) := by decide +kernel
theorem dX12_shrink_109 : decode cX12_shrink 109 = .ok (.iload 5, 2) := by decide +kernel
theorem dX12_shrink_111 : decode cX12_shrink 111 = .ok (.imul, 1) := by decide +kernel
theorem dX12_shrink_112 : decode cX12_shrink 112 = .ok (.iload 6, 2) := by decide +kernel
theorem dX12_shrink_114 : decode cX12_shrink 114 = .ok (.iadd, 1) := by decide +kernel
theorem dX12_shrink_115 : decode cX12_shrink 115 = .ok (.iaload, 1) := by decide +kernel
theorem dX12_shrink_116 : decode cX12_shrink 116 = .ok (.istore 7, 2) := by decide +kernel
theorem dX12_shrink_118 : decode cX12_shrink 118 = .ok (.aload_n 0, 1) := by decide +kernel
theorem dX12_shrink_119 : decode cX12_shrink 119 = .ok (.getfield 97, 3) := by decide +kernel
theorem dX12_shrink_122 : decode cX12_shrink 122 = .ok (.iload 7, 2) := by decide +kernel
theorem dX12_shrink_124 : decode cX12_shrink 124 = .ok (.aload_n 0, 1) := by decide +kernel
theorem dX12_shrink_125 : decode cX12_shrink 125 = .ok (.getfield 97, 3) := by decide +kernel
theorem dX12_shrink_128 : decode cX12_shrink 128 = .ok (.iload 7, 2) := by decide +kernel
theorem dX12_shrink_130 : decode cX12_shrink 130 = .ok (.iaload, 1) := by decide +kernel
theorem dX12_shrink_131 : decode cX12_shrink 131 = .ok (.ifCond .ge 10, 3) := by decide +kernel
theorem dX12_shrink_134 : decode cX12_shrink 134 = .ok (.aload_n 3, 1) := by decide +kernel
theorem dX12_shrink_135 : decode cX12_shrink 135 = .ok (.iload 6, 2) := by decide +kernel
theorem dX12_shrink_137 : decode cX12_shrink 137 = .ok (.iaload, 1) := by decide +kernel
theorem dX12_shrink_138 : decode cX12_shrink 138 = .ok (.goto 10, 3) := by decide +kernel
theorem dX12_shrink_141 : decode cX12_shrink 141 = .ok (.aload_n 0, 1) := by decide +kernel
theorem dX12_shrink_142 : decode cX12_shrink 142 = .ok (.getfield 97, 3) := by decide +kernel
theorem dX12_shrink_145 : decode cX12_shrink 145 = .ok (.iload 7, 2) := by decide +kernel
theorem dX12_shrink_147 : decode cX12_shrink 147 = .ok (.iaload, 1) := by decide +kernel
theorem dX12_shrink_148 : decode cX12_shrink 148 = .ok (.iastore, 1) := by decide +kernel
theorem dX12_shrink_149 : decode cX12_shrink 149 = .ok (.aload_n 0, 1) := by decide +kernel
theorem dX12_shrink_150 : decode cX12_shrink 150 = .ok (.getfield 100, 3) := by decide +kernel
theorem dX12_shrink_153 : decode cX12_shrink 153 = .ok (.bipush 64, 2) := by decide +kernel
theorem dX12_shrink_155 : decode cX12_shrink 155 = .ok (.iload 5, 2) := by decide +kernel
theorem dX12_shrink_157 : decode cX12_shrink 157 = .ok (.imul, 1) := by decide +kernel
theorem dX12_shrink_158 : decode cX12_shrink 158 = .ok (.aload_n 3, 1) := by decide +kernel
theorem dX12_shrink_159 : decode cX12_shrink 159 = .ok (.iload 6, 2) := by decide +kernel
theorem dX12_shrink_161 : decode cX12_shrink 161 = .ok (.iaload, 1) := by decide +kernel
theorem dX12_shrink_162 : decode cX12_shrink 162 = .ok (.iadd, 1) := by decide +kernel
theorem dX12_shrink_163 : decode cX12_shrink 163 = .ok (.aload_n 0, 1) := by decide +kernel
theorem dX12_shrink_164 : decode cX12_shrink 164 = .ok (.getfield 97, 3) := by decide +kernel
theorem dX12_shrink_167 : decode cX12_shrink 167 = .ok (.iload 7, 2) := by decide +kernel
theorem dX12_shrink_169 : decode cX12_shrink 169 = .ok (.iaload, 1) := by decide +kernel
theorem dX12_shrink_170 : decode cX12_shrink 170 = .ok (.iastore, 1) := by decide +kernel
theorem dX12_shrink_171 : decode cX12_shrink 171 = .ok (.iinc 6 1, 3) := by decide +kernel
theorem dX12_shrink_174 : decode cX12_shrink 174 = .ok (.goto (-91), 3) := by decide +kernel
theorem dX12_shrink_177 : decode cX12_shrink 177 = .ok (.iinc 5 1, 3) := by decide +kernel
theorem dX12_shrink_180 : decode cX12_shrink 180 = .ok (.goto (-133), 3) := by decide +kernel
theorem dX12_shrink_183 : decode cX12_shrink 183 = .ok (.iconst 0, 1) := by decide +kernel
theorem dX12_shrink_184 : decode cX12_shrink 184 = .ok (.istore 5, 2) := by decide +kernel
theorem dX12_shrink_186 : decode cX12_shrink 186 = .ok (.iload 5, 2) := by decide +kernel
theorem dX12_shrink_188 : decode cX12_shrink 188 = .ok (.aload_n 0, 1) := by decide +kernel
theorem dX12_shrink_189 : decode cX12_shrink 189 = .ok (.getfield 7, 3) := by decide +kernel
theorem dX12_shrink_192 : decode cX12_shrink 192 = .ok (.if_icmp .ge 36, 3) := by decide +kernel
theorem dX12_shrink_195 : decode cX12_shrink 195 = .ok (.lload_n 1, 1) := by decide +kernel
theorem dX12_shrink_196 : decode cX12_shrink 196 = .ok (.iload 5, 2) := by decide +kernel
theorem dX12_shrink_198 : decode cX12_shrink 198 = .ok (.lushr, 1) := by decide +kernel
theorem dX12_shrink_199 : decode cX12_shrink 199 = .ok (.lconst 1, 1) := by decide +kernel
theorem dX12_shrink_200 : decode cX12_shrink 200 = .ok (.land, 1) := by decide +kernel
theorem dX12_shrink_201 : decode cX12_shrink 201 = .ok (.lconst 1, 1) := by decide +kernel
theorem dX12_shrink_202 : decode cX12_shrink 202 = .ok (.lcmp, 1) := by decide +kernel
theorem dX12_shrink_203 : decode cX12_shrink 203 = .ok (.ifCond .ne 19, 3) := by decide +kernel
theorem dX12_shrink_206 : decode cX12_shrink 206 = .ok (.aload_n 0, 1) := by decide +kernel
theorem dX12_shrink_207 : decode cX12_shrink 207 = .ok (.getfield 31, 3) := by decide +kernel
theorem dX12_shrink_210 : decode cX12_shrink 210 = .ok (.aload_n 3, 1) := by decide +kernel
theorem dX12_shrink_211 : decode cX12_shrink 211 = .ok (.iload 5, 2) := by decide +kernel
theorem dX12_shrink_213 : decode cX12_shrink 213 = .ok (.iaload, 1) := by decide +kernel
theorem dX12_shrink_214 : decode cX12_shrink 214 = .ok (.aload_n 0, 1) := by decide +kernel
theorem dX12_shrink_215 : decode cX12_shrink 215 = .ok (.getfield 31, 3) := by decide +kernel
theorem dX12_shrink_218 : decode cX12_shrink 218 = .ok (.iload 5, 2) := by decide +kernel
theorem dX12_shrink_220 : decode cX12_shrink 220 = .ok (.iaload, 1) := by decide +kernel
theorem dX12_shrink_221 : decode cX12_shrink 221 = .ok (.iastore, 1) := by decide +kernel
theorem dX12_shrink_222 : decode cX12_shrink 222 = .ok (.iinc 5 1, 3) := by decide +kernel
theorem dX12_shrink_225 : decode cX12_shrink 225 = .ok (.goto (-39), 3) := by decide +kernel
theorem dX12_shrink_228 : decode cX12_shrink 228 = .ok (.iconst 0, 1) := by decide +kernel
theorem dX12_shrink_229 : decode cX12_shrink 229 = .ok (.istore 5, 2) := by decide +kernel
theorem dX12_shrink_231 : decode cX12_shrink 231 = .ok (.iload 5, 2) := by decide +kernel
theorem dX12_shrink_233 : decode cX12_shrink 233 = .ok (.sipush 256, 3) := by decide +kernel
theorem dX12_shrink_236 : decode cX12_shrink 236 = .ok (.if_icmp .ge 23, 3) := by decide +kernel
theorem dX12_shrink_239 : decode cX12_shrink 239 = .ok (.aload_n 0, 1) := by decide +kernel
theorem dX12_shrink_240 : decode cX12_shrink 240 = .ok (.getfield 14, 3) := by decide +kernel
theorem dX12_shrink_243 : decode cX12_shrink 243 = .ok (.iload 5, 2) := by decide +kernel
theorem dX12_shrink_245 : decode cX12_shrink 245 = .ok (.aload_n 0, 1) := by decide +kernel
theorem dX12_shrink_246 : decode cX12_shrink 246 = .ok (.getfield 100, 3) := by decide +kernel
theorem dX12_shrink_249 : decode cX12_shrink 249 = .ok (.iload 5, 2) := by decide +kernel
theorem dX12_shrink_251 : decode cX12_shrink 251 = .ok (.iaload, 1) := by decide +kernel
theorem dX12_shrink_252 : decode cX12_shrink 252 = .ok (.iastore, 1) := by decide +kernel
theorem dX12_shrink_253 : decode cX12_shrink 253 = .ok (.iinc 5 1, 3) := by decide +kernel
theorem dX12_shrink_256 : decode cX12_shrink 256 = .ok (.goto (-25), 3) := by decide +kernel
theorem dX12_shrink_259 : decode cX12_shrink 259 = .ok (.aload_n 0, 1) := by decide +kernel
theorem dX12_shrink_260 : decode cX12_shrink 260 = .ok (.iload 4, 2) := by decide +kernel
theorem dX12_shrink_262 : decode cX12_shrink 262 = .ok (.putfield 7, 3) := by decide +kernel
theorem dX12_shrink_265 : decode cX12_shrink 265 = .ok (.return_, 1) := by decide +kernel
def f_X12_shrink_171 (F P : Nat) (S : xSt) (rec_47 : Nat → Int64 → Nat → Int32 → Int32 → xDt → Option (xDt)) (rec_83 : Nat → Int64 → Nat → Int32 → Int32 → Int32 → xDt → Option (xDt)) (v0 : Nat) (v1 : Int64) (v3 : Nat) (v4 : Int32) (v5 : Int32) (v6 : Int32) (D : xDt) : Option (xDt) :=
  xlet (v6 + 1) fun v6_1 => rec_83 v0 v1 v3 v4 v5 v6_1 D
set_option maxHeartbeats 4000000 in
theorem t_X12_shrink_171 {F P : Nat} {S : xSt} (hS : xWF S) {rec_47 : Nat → Int64 → Nat → Int32 → Int32 → xDt → Option (xDt)} (hrec_47 : ∀ {v0 : Nat} {v1 : Int64} {v3 : Nat} {v4 : Int32} {v5 : Int32} {D : xDt} {r : xDt}, xK S v0 12 → xK S v3 100 → rec_47 v0 v1 v3 v4 v5 D = some r → yEx md_X12_shrink 0 47 [(0, .ref v0), (1, .long v1), (3, .ref v3), (4, .int v4), (5, .int v5)] [] S D (xQv S r)) {rec_83 : Nat → Int64 → Nat → Int32 → Int32 → Int32 → xDt → Option (xDt)} (hrec_83 : ∀ {v0 : Nat} {v1 : Int64} {v3 : Nat} {v4 : Int32} {v5 : Int32} {v6 : Int32} {D : xDt} {r : xDt}, xK S v0 12 → xK S v3 100 → rec_83 v0 v1 v3 v4 v5 v6 D = some r → yEx md_X12_shrink 0 83 [(0, .ref v0), (1, .long v1), (3, .ref v3), (4, .int v4), (5, .int v5), (6, .int v6)] [] S D (xQv S r)) {v0 : Nat} {v1 : Int64} {v3 : Nat} {v4 : Int32} {v5 : Int32} {v6 : Int32} {D : xDt} {r : xDt} (k0 : xK S v0 12) (k3 : xK S v3 100) (h : f_X12_shrink_171 F P S rec_47 rec_83 v0 v1 v3 v4 v5 v6 D = some r) : yEx md_X12_shrink 0 171 [(0, .ref v0), (1, .long v1), (3, .ref v3), (4, .int v4), (5, .int v5), (6, .int v6)] [] S D (xQv S r) := by
  unfold f_X12_shrink_171 at h
  refine xlet_e h (fun v6_1 ev6_1 h => ?_)
  refine y_iinc v6_1 ev6_1 (by decide) [(6, .int v6_1), (0, .ref v0), (1, .long v1), (3, .ref v3), (4, .int v4), (5, .int v5)] dX12_shrink_171 5 rfl (by show _ < 8; decide) rfl ?_
  refine x_goto 83 dX12_shrink_174 (by decide) ?_
  refine x_lv (lv' := [(0, .ref v0), (1, .long v1), (3, .ref v3), (4, .int v4), (5, .int v5), (6, .int v6_1)]) [1, 2, 3, 4, 5, 0] rfl ?_
  exact hrec_83 k0 k3 h

def f_X12_shrink_148 (F P : Nat) (S : xSt) (rec_47 : Nat → Int64 → Nat → Int32 → Int32 → xDt → Option (xDt)) (rec_83 : Nat → Int64 → Nat → Int32 → Int32 → Int32 → xDt → Option (xDt)) (v0 : Nat) (v1 : Int64) (v3 : Nat) (v4 : Int32) (v5 : Int32) (v6 : Int32) (v7 : Int32) (s0 : Int32) (s1 : Int32) (s2 : Nat) (D : xDt) : Option (xDt) :=
  xgrd (xin s1 (xl S s2)) (xlet (xup D.1 s2 (s1).toNatClampNeg s0, D.2) fun D2 => xgrd (xin v6 (xl S v3)) (xgrd (xin v7 (xl S (xr S v0 23))) (xgrd (xin ((64 * v5) + (D2.1 v3 (v6).toNatClampNeg)) (xl S (xr S v0 24))) (xlet (xup D2.1 (xr S v0 24) ((64 * v5) + (D2.1 v3 (v6).toNatClampNeg)).toNatClampNeg (D2.1 (xr S v0 23) (v7).toNatClampNeg), D2.2) fun D6 => f_X12_shrink_171 F P S rec_47 rec_83 v0 v1 v3 v4 v5 v6 D6))))
set_option maxHeartbeats 4000000 in
theorem t_X12_shrink_148 {F P : Nat} {S : xSt} (hS : xWF S) {rec_47 : Nat → Int64 → Nat → Int32 → Int32 → xDt → Option (xDt)} (hrec_47 : ∀ {v0 : Nat} {v1 : Int64} {v3 : Nat} {v4 : Int32} {v5 : Int32} {D : xDt} {r : xDt}, xK S v0 12 → xK S v3 100 → rec_47 v0 v1 v3 v4 v5 D = some r → yEx md_X12_shrink 0 47 [(0, .ref v0), (1, .long v1), (3, .ref v3), (4, .int v4), (5, .int v5)] [] S D (xQv S r)) {rec_83 : Nat → Int64 → Nat → Int32 → Int32 → Int32 → xDt → Option (xDt)} (hrec_83 : ∀ {v0 : Nat} {v1 : Int64} {v3 : Nat} {v4 : Int32} {v5 : Int32} {v6 : Int32} {D : xDt} {r : xDt}, xK S v0 12 → xK S v3 100 → rec_83 v0 v1 v3 v4 v5 v6 D = some r → yEx md_X12_shrink 0 83 [(0, .ref v0), (1, .long v1), (3, .ref v3), (4, .int v4), (5, .int v5), (6, .int v6)] [] S D (xQv S r)) {v0 : Nat} {v1 : Int64} {v3 : Nat} {v4 : Int32} {v5 : Int32} {v6 : Int32} {v7 : Int32} {s0 : Int32} {s1 : Int32} {s2 : Nat} {D : xDt} {r : xDt} (k0 : xK S v0 12) (k3 : xK S v3 100) (ks2 : xK S s2 100) (h : f_X12_shrink_148 F P S rec_47 rec_83 v0 v1 v3 v4 v5 v6 v7 s0 s1 s2 D = some r) : yEx md_X12_shrink 0 148 [(0, .ref v0), (1, .long v1), (3, .ref v3), (4, .int v4), (5, .int v5), (6, .int v6), (7, .int v7)] [.int s0, .int s1, .ref s2] S D (xQv S r) := by
  unfold f_X12_shrink_148 at h
  refine xgrd_e h (fun g1 h => ?_)
  refine xlet_e h (fun D2 eD2 h => ?_)
  refine y_iast dX12_shrink_148 ks2 g1 eD2 ?_
  refine x_aload_n dX12_shrink_149 0 rfl ?_
  refine y_getr (kd := 100) hS fl_RX12_100 dX12_shrink_150 rfl k0 ?_
  refine x_bipush 64 dX12_shrink_153 (by decide) ?_
  refine x_iload dX12_shrink_155 4 rfl ?_
  refine x_imul dX12_shrink_157 ?_
  refine x_aload_n dX12_shrink_158 2 rfl ?_
  refine x_iload dX12_shrink_159 5 rfl ?_
  refine xgrd_e h (fun g3 h => ?_)
  refine y_iald dX12_shrink_161 k3 g3 ?_
  refine x_iadd dX12_shrink_162 ?_
  refine x_aload_n dX12_shrink_163 0 rfl ?_
  refine y_getr (kd := 100) hS fl_RX12_97 dX12_shrink_164 rfl k0 ?_
  refine x_iload dX12_shrink_167 6 rfl ?_
  refine xgrd_e h (fun g4 h => ?_)
  refine y_iald dX12_shrink_169 ((hS.f k0 23 100 rfl).2) g4 ?_
  refine xgrd_e h (fun g5 h => ?_)
  refine xlet_e h (fun D6 eD6 h => ?_)
  refine y_iast dX12_shrink_170 ((hS.f k0 24 100 rfl).2) g5 eD6 ?_
  refine x_lv (lv' := [(0, .ref v0), (1, .long v1), (3, .ref v3), (4, .int v4), (5, .int v5), (6, .int v6)]) [0, 1, 2, 3, 4, 5] rfl ?_
  exact t_X12_shrink_171 hS hrec_47 hrec_83 k0 k3 h

def f_X12_shrink_83s (F P : Nat) (S : xSt) (rec_47 : Nat → Int64 → Nat → Int32 → Int32 → xDt → Option (xDt)) (rec_83 : Nat → Int64 → Nat → Int32 → Int32 → Int32 → xDt → Option (xDt)) (v0 : Nat) (v1 : Int64) (v3 : Nat) (v4 : Int32) (v5 : Int32) (v6 : Int32) (D : xDt) : Option (xDt) :=
  if (D.1 v0 1) ≤ v6 then (xlet (v5 + 1) fun v5_1 => rec_47 v0 v1 v3 v4 v5_1 D) else (if (lg_cmp ((jlushr v1 v6) &&& 1) 1) = 0 then (xgrd (xin ((64 * v5) + v6) (xl S (xr S v0 3))) (xlet (D.1 (xr S v0 3) ((64 * v5) + v6).toNatClampNeg) fun v7_3 => xgrd (xin v7_3 (xl S (xr S v0 23))) (if 0 ≤ (D.1 (xr S v0 23) (v7_3).toNatClampNeg) then (xgrd (xin v7_3 (xl S (xr S v0 23))) (f_X12_shrink_148 F P S rec_47 rec_83 v0 v1 v3 v4 v5 v6 v7_3 (D.1 (xr S v0 23) (v7_3).toNatClampNeg) v7_3 (xr S v0 23) D)) else (xgrd (xin v6 (xl S v3)) (f_X12_shrink_148 F P S rec_47 rec_83 v0 v1 v3 v4 v5 v6 v7_3 (D.1 v3 (v6).toNatClampNeg) v7_3 (xr S v0 23) D))))) else (f_X12_shrink_171 F P S rec_47 rec_83 v0 v1 v3 v4 v5 v6 D))
def f_X12_shrink_83 (F P : Nat) (S : xSt) (rec_47 : Nat → Int64 → Nat → Int32 → Int32 → xDt → Option (xDt)) : Nat → Nat → Int64 → Nat → Int32 → Int32 → Int32 → xDt → Option (xDt)
  | 0 => fun _ _ _ _ _ _ _ => none
  | n + 1 => f_X12_shrink_83s F P S rec_47 (f_X12_shrink_83 F P S rec_47 n)
set_option maxHeartbeats 4000000 in
theorem t_X12_shrink_83s {F P : Nat} {S : xSt} (hS : xWF S) {rec_47 : Nat → Int64 → Nat → Int32 → Int32 → xDt → Option (xDt)} (hrec_47 : ∀ {v0 : Nat} {v1 : Int64} {v3 : Nat} {v4 : Int32} {v5 : Int32} {D : xDt} {r : xDt}, xK S v0 12 → xK S v3 100 → rec_47 v0 v1 v3 v4 v5 D = some r → yEx md_X12_shrink 0 47 [(0, .ref v0), (1, .long v1), (3, .ref v3), (4, .int v4), (5, .int v5)] [] S D (xQv S r)) {rec_83 : Nat → Int64 → Nat → Int32 → Int32 → Int32 → xDt → Option (xDt)} (hrec_83 : ∀ {v0 : Nat} {v1 : Int64} {v3 : Nat} {v4 : Int32} {v5 : Int32} {v6 : Int32} {D : xDt} {r : xDt}, xK S v0 12 → xK S v3 100 → rec_83 v0 v1 v3 v4 v5 v6 D = some r → yEx md_X12_shrink 0 83 [(0, .ref v0), (1, .long v1), (3, .ref v3), (4, .int v4), (5, .int v5), (6, .int v6)] [] S D (xQv S r)) {v0 : Nat} {v1 : Int64} {v3 : Nat} {v4 : Int32} {v5 : Int32} {v6 : Int32} {D : xDt} {r : xDt} (k0 : xK S v0 12) (k3 : xK S v3 100) (h : f_X12_shrink_83s F P S rec_47 rec_83 v0 v1 v3 v4 v5 v6 D = some r) : yEx md_X12_shrink 0 83 [(0, .ref v0), (1, .long v1), (3, .ref v3), (4, .int v4), (5, .int v5), (6, .int v6)] [] S D (xQv S r) := by
  unfold f_X12_shrink_83s at h
  refine x_iload dX12_shrink_83 5 rfl ?_
  refine x_aload_n dX12_shrink_85 0 rfl ?_
  refine y_geti fl_RX12_7 dX12_shrink_86 rfl k0 ?_
  refine x_icmp_ge 177 dX12_shrink_89 (by decide) (fun c => ?_) (fun c => ?_)
  · rw [if_pos c] at h
    refine xlet_e h (fun v5_1 ev5_1 h => ?_)
    refine y_iinc v5_1 ev5_1 (by decide) [(5, .int v5_1), (0, .ref v0), (1, .long v1), (3, .ref v3), (4, .int v4), (6, .int v6)] dX12_shrink_177 4 rfl (by show _ < 8; decide) rfl ?_
    refine x_goto 47 dX12_shrink_180 (by decide) ?_
    refine x_lv (lv' := [(0, .ref v0), (1, .long v1), (3, .ref v3), (4, .int v4), (5, .int v5_1)]) [1, 2, 3, 4, 0] rfl ?_
    exact hrec_47 k0 k3 h
  · rw [if_neg c] at h
    refine x_lload_n dX12_shrink_92 1 rfl ?_
    refine x_iload dX12_shrink_93 5 rfl ?_
    refine x_lushr dX12_shrink_95 ?_
    refine x_lconst 1 dX12_shrink_96 (by decide) ?_
    refine x_land dX12_shrink_97 ?_
    refine x_lconst 1 dX12_shrink_98 (by decide) ?_
    refine x_lcmp dX12_shrink_99 ?_
    refine x_if_ne 171 dX12_shrink_100 (by decide) (fun c => ?_) (fun c => ?_)
    · rw [if_neg c] at h
      exact t_X12_shrink_171 hS hrec_47 hrec_83 k0 k3 h
    · rw [if_pos c] at h
      refine x_aload_n dX12_shrink_103 0 rfl ?_
      refine y_getr (kd := 100) hS fl_RX12_14 dX12_shrink_104 rfl k0 ?_
      refine x_bipush 64 dX12_shrink_107 (by decide) ?_
      refine x_iload dX12_shrink_109 4 rfl ?_
      refine x_imul dX12_shrink_111 ?_
      refine x_iload dX12_shrink_112 5 rfl ?_
      refine x_iadd dX12_shrink_114 ?_
      refine xgrd_e h (fun g2 h => ?_)
      refine y_iald dX12_shrink_115 ((hS.f k0 3 100 rfl).2) g2 ?_
      refine xlet_e h (fun v7_3 ev7_3 h => ?_)
      refine y_istore v7_3 ev7_3 [(7, .int v7_3), (0, .ref v0), (1, .long v1), (3, .ref v3), (4, .int v4), (5, .int v5), (6, .int v6)] dX12_shrink_116 (by show _ < 8; decide) rfl ?_
      refine x_aload_n dX12_shrink_118 1 rfl ?_
      refine y_getr (kd := 100) hS fl_RX12_97 dX12_shrink_119 rfl k0 ?_
      refine x_iload dX12_shrink_122 0 rfl ?_
      refine x_aload_n dX12_shrink_124 1 rfl ?_
      refine y_getr (kd := 100) hS fl_RX12_97 dX12_shrink_125 rfl k0 ?_
      refine x_iload dX12_shrink_128 0 rfl ?_
      refine xgrd_e h (fun g4 h => ?_)
      refine y_iald dX12_shrink_130 ((hS.f k0 23 100 rfl).2) g4 ?_
      refine x_if_ge 141 dX12_shrink_131 (by decide) (fun c => ?_) (fun c => ?_)
      · rw [if_pos c] at h
        refine x_aload_n dX12_shrink_141 1 rfl ?_
        refine y_getr (kd := 100) hS fl_RX12_97 dX12_shrink_142 rfl k0 ?_
        refine x_iload dX12_shrink_145 0 rfl ?_
        refine xgrd_e h (fun g5 h => ?_)
        refine y_iald dX12_shrink_147 ((hS.f k0 23 100 rfl).2) g5 ?_
        refine x_lv (lv' := [(0, .ref v0), (1, .long v1), (3, .ref v3), (4, .int v4), (5, .int v5), (6, .int v6), (7, .int v7_3)]) [1, 2, 3, 4, 5, 6, 0] rfl ?_
        exact t_X12_shrink_148 hS hrec_47 hrec_83 k0 k3 ((hS.f k0 23 100 rfl).2) h
      · rw [if_neg c] at h
        refine x_aload_n dX12_shrink_134 3 rfl ?_
        refine x_iload dX12_shrink_135 6 rfl ?_
        refine xgrd_e h (fun g6 h => ?_)
        refine y_iald dX12_shrink_137 k3 g6 ?_
        refine x_goto 148 dX12_shrink_138 (by decide) ?_
        refine x_lv (lv' := [(0, .ref v0), (1, .long v1), (3, .ref v3), (4, .int v4), (5, .int v5), (6, .int v6), (7, .int v7_3)]) [1, 2, 3, 4, 5, 6, 0] rfl ?_
        exact t_X12_shrink_148 hS hrec_47 hrec_83 k0 k3 ((hS.f k0 23 100 rfl).2) h
theorem t_X12_shrink_83 {F P : Nat} {S : xSt} (hS : xWF S) {rec_47 : Nat → Int64 → Nat → Int32 → Int32 → xDt → Option (xDt)} (hrec_47 : ∀ {v0 : Nat} {v1 : Int64} {v3 : Nat} {v4 : Int32} {v5 : Int32} {D : xDt} {r : xDt}, xK S v0 12 → xK S v3 100 → rec_47 v0 v1 v3 v4 v5 D = some r → yEx md_X12_shrink 0 47 [(0, .ref v0), (1, .long v1), (3, .ref v3), (4, .int v4), (5, .int v5)] [] S D (xQv S r)) : ∀ (n : Nat) {v0 : Nat} {v1 : Int64} {v3 : Nat} {v4 : Int32} {v5 : Int32} {v6 : Int32} {D : xDt} {r : xDt}, xK S v0 12 → xK S v3 100 → f_X12_shrink_83 F P S rec_47 n v0 v1 v3 v4 v5 v6 D = some r → yEx md_X12_shrink 0 83 [(0, .ref v0), (1, .long v1), (3, .ref v3), (4, .int v4), (5, .int v5), (6, .int v6)] [] S D (xQv S r) := by
  intro n
  induction n with
  | zero => intros; rename_i h; cases h
  | succ n ih =>
    intro v0 v1 v3 v4 v5 v6 D r k0 k3 h
    exact t_X12_shrink_83s hS hrec_47 (fun k0 k3 h => ih k0 k3 h) k0 k3 h

def f_X12_shrink_56s (F P : Nat) (S : xSt) (rec_47 : Nat → Int64 → Nat → Int32 → Int32 → xDt → Option (xDt)) (rec_56 : Nat → Int64 → Nat → Int32 → Int32 → Int32 → xDt → Option (xDt)) (v0 : Nat) (v1 : Int64) (v3 : Nat) (v4 : Int32) (v5 : Int32) (v6 : Int32) (D : xDt) : Option (xDt) :=
  if (D.1 v0 1) ≤ v6 then (f_X12_shrink_83 F P S rec_47 F v0 v1 v3 v4 v5 0 D) else (xgrd (xin v6 (xl S (xr S v0 23))) (xlet (xup D.1 (xr S v0 23) (v6).toNatClampNeg (-2), D.2) fun D2 => xlet (v6 + 1) fun v6_3 => rec_56 v0 v1 v3 v4 v5 v6_3 D2))
def f_X12_shrink_56 (F P : Nat) (S : xSt) (rec_47 : Nat → Int64 → Nat → Int32 → Int32 → xDt → Option (xDt)) : Nat → Nat → Int64 → Nat → Int32 → Int32 → Int32 → xDt → Option (xDt)
  | 0 => fun _ _ _ _ _ _ _ => none
  | n + 1 => f_X12_shrink_56s F P S rec_47 (f_X12_shrink_56 F P S rec_47 n)
set_option maxHeartbeats 4000000 in
theorem t_X12_shrink_56s {F P : Nat} {S : xSt} (hS : xWF S) {rec_47 : Nat → Int64 → Nat → Int32 → Int32 → xDt → Option (xDt)} (hrec_47 : ∀ {v0 : Nat} {v1 : Int64} {v3 : Nat} {v4 : Int32} {v5 : Int32} {D : xDt} {r : xDt}, xK S v0 12 → xK S v3 100 → rec_47 v0 v1 v3 v4 v5 D = some r → yEx md_X12_shrink 0 47 [(0, .ref v0), (1, .long v1), (3, .ref v3), (4, .int v4), (5, .int v5)] [] S D (xQv S r)) {rec_56 : Nat → Int64 → Nat → Int32 → Int32 → Int32 → xDt → Option (xDt)} (hrec_56 : ∀ {v0 : Nat} {v1 : Int64} {v3 : Nat} {v4 : Int32} {v5 : Int32} {v6 : Int32} {D : xDt} {r : xDt}, xK S v0 12 → xK S v3 100 → rec_56 v0 v1 v3 v4 v5 v6 D = some r → yEx md_X12_shrink 0 56 [(0, .ref v0), (1, .long v1), (3, .ref v3), (4, .int v4), (5, .int v5), (6, .int v6)] [] S D (xQv S r)) {v0 : Nat} {v1 : Int64} {v3 : Nat} {v4 : Int32} {v5 : Int32} {v6 : Int32} {D : xDt} {r : xDt} (k0 : xK S v0 12) (k3 : xK S v3 100) (h : f_X12_shrink_56s F P S rec_47 rec_56 v0 v1 v3 v4 v5 v6 D = some r) : yEx md_X12_shrink 0 56 [(0, .ref v0), (1, .long v1), (3, .ref v3), (4, .int v4), (5, .int v5), (6, .int v6)] [] S D (xQv S r) := by
  unfold f_X12_shrink_56s at h
  refine x_iload dX12_shrink_56 5 rfl ?_
  refine x_aload_n dX12_shrink_58 0 rfl ?_
  refine y_geti fl_RX12_7 dX12_shrink_59 rfl k0 ?_
  refine x_icmp_ge 80 dX12_shrink_62 (by decide) (fun c => ?_) (fun c => ?_)
  · rw [if_pos c] at h
    refine x_iconst 0 dX12_shrink_80 (by decide) ?_
    refine y_istore 0 rfl [(6, .int 0), (0, .ref v0), (1, .long v1), (3, .ref v3), (4, .int v4), (5, .int v5)] dX12_shrink_81 (by show _ < 8; decide) rfl ?_
    refine x_lv (lv' := [(0, .ref v0), (1, .long v1), (3, .ref v3), (4, .int v4), (5, .int v5), (6, .int 0)]) [1, 2, 3, 4, 5, 0] rfl ?_
    exact t_X12_shrink_83 hS hrec_47 F k0 k3 h
  · rw [if_neg c] at h
    refine x_aload_n dX12_shrink_65 0 rfl ?_
    refine y_getr (kd := 100) hS fl_RX12_97 dX12_shrink_66 rfl k0 ?_
    refine x_iload dX12_shrink_69 5 rfl ?_
    refine x_bipush (-2) dX12_shrink_71 (by decide) ?_
    refine xgrd_e h (fun g1 h => ?_)
    refine xlet_e h (fun D2 eD2 h => ?_)
    refine y_iast dX12_shrink_73 ((hS.f k0 23 100 rfl).2) g1 eD2 ?_
    refine xlet_e h (fun v6_3 ev6_3 h => ?_)
    refine y_iinc v6_3 ev6_3 (by decide) [(6, .int v6_3), (0, .ref v0), (1, .long v1), (3, .ref v3), (4, .int v4), (5, .int v5)] dX12_shrink_74 5 rfl (by show _ < 8; decide) rfl ?_
    refine x_goto 56 dX12_shrink_77 (by decide) ?_
    refine x_lv (lv' := [(0, .ref v0), (1, .long v1), (3, .ref v3), (4, .int v4), (5, .int v5), (6, .int v6_3)]) [1, 2, 3, 4, 5, 0] rfl ?_
    exact hrec_56 k0 k3 h
theorem t_X12_shrink_56 {F P : Nat} {S : xSt} (hS : xWF S) {rec_47 : Nat → Int64 → Nat → Int32 → Int32 → xDt → Option (xDt)} (hrec_47 : ∀ {v0 : Nat} {v1 : Int64} {v3 : Nat} {v4 : Int32} {v5 : Int32} {D : xDt} {r : xDt}, xK S v0 12 → xK S v3 100 → rec_47 v0 v1 v3 v4 v5 D = some r → yEx md_X12_shrink 0 47 [(0, .ref v0), (1, .long v1), (3, .ref v3), (4, .int v4), (5, .int v5)] [] S D (xQv S r)) : ∀ (n : Nat) {v0 : Nat} {v1 : Int64} {v3 : Nat} {v4 : Int32} {v5 : Int32} {v6 : Int32} {D : xDt} {r : xDt}, xK S v0 12 → xK S v3 100 → f_X12_shrink_56 F P S rec_47 n v0 v1 v3 v4 v5 v6 D = some r → yEx md_X12_shrink 0 56 [(0, .ref v0), (1, .long v1), (3, .ref v3), (4, .int v4), (5, .int v5), (6, .int v6)] [] S D (xQv S r) := by
  intro n
  induction n with
  | zero => intros; rename_i h; cases h
  | succ n ih =>
    intro v0 v1 v3 v4 v5 v6 D r k0 k3 h
    exact t_X12_shrink_56s hS hrec_47 (fun k0 k3 h => ih k0 k3 h) k0 k3 h

def f_X12_shrink_222 (F P : Nat) (S : xSt) (rec_186 : Nat → Int64 → Nat → Int32 → Int32 → xDt → Option (xDt)) (v0 : Nat) (v1 : Int64) (v3 : Nat) (v4 : Int32) (v5 : Int32) (D : xDt) : Option (xDt) :=
  xlet (v5 + 1) fun v5_1 => rec_186 v0 v1 v3 v4 v5_1 D
set_option maxHeartbeats 4000000 in
theorem t_X12_shrink_222 {F P : Nat} {S : xSt} (hS : xWF S) {rec_186 : Nat → Int64 → Nat → Int32 → Int32 → xDt → Option (xDt)} (hrec_186 : ∀ {v0 : Nat} {v1 : Int64} {v3 : Nat} {v4 : Int32} {v5 : Int32} {D : xDt} {r : xDt}, xK S v0 12 → xK S v3 100 → rec_186 v0 v1 v3 v4 v5 D = some r → yEx md_X12_shrink 0 186 [(0, .ref v0), (1, .long v1), (3, .ref v3), (4, .int v4), (5, .int v5)] [] S D (xQv S r)) {v0 : Nat} {v1 : Int64} {v3 : Nat} {v4 : Int32} {v5 : Int32} {D : xDt} {r : xDt} (k0 : xK S v0 12) (k3 : xK S v3 100) (h : f_X12_shrink_222 F P S rec_186 v0 v1 v3 v4 v5 D = some r) : yEx md_X12_shrink 0 222 [(0, .ref v0), (1, .long v1), (3, .ref v3), (4, .int v4), (5, .int v5)] [] S D (xQv S r) := by
  unfold f_X12_shrink_222 at h
  refine xlet_e h (fun v5_1 ev5_1 h => ?_)
  refine y_iinc v5_1 ev5_1 (by decide) [(5, .int v5_1), (0, .ref v0), (1, .long v1), (3, .ref v3), (4, .int v4)] dX12_shrink_222 4 rfl (by show _ < 8; decide) rfl ?_
  refine x_goto 186 dX12_shrink_225 (by decide) ?_
  refine x_lv (lv' := [(0, .ref v0), (1, .long v1), (3, .ref v3), (4, .int v4), (5, .int v5_1)]) [1, 2, 3, 4, 0] rfl ?_
  exact hrec_186 k0 k3 h

def f_X12_shrink_231s (F P : Nat) (S : xSt) (rec_231 : Nat → Int32 → Int32 → xDt → Option (xDt)) (v0 : Nat) (v4 : Int32) (v5 : Int32) (D : xDt) : Option (xDt) :=
  if 256 ≤ v5 then (xlet (xup D.1 v0 1 v4, D.2) fun D1 => some D1) else (xgrd (xin v5 (xl S (xr S v0 24))) (xgrd (xin v5 (xl S (xr S v0 3))) (xlet (xup D.1 (xr S v0 3) (v5).toNatClampNeg (D.1 (xr S v0 24) (v5).toNatClampNeg), D.2) fun D4 => xlet (v5 + 1) fun v5_5 => rec_231 v0 v4 v5_5 D4)))
def f_X12_shrink_231 (F P : Nat) (S : xSt) : Nat → Nat → Int32 → Int32 → xDt → Option (xDt)
  | 0 => fun _ _ _ _ => none
  | n + 1 => f_X12_shrink_231s F P S (f_X12_shrink_231 F P S n)
set_option maxHeartbeats 4000000 in
theorem t_X12_shrink_231s {F P : Nat} {S : xSt} (hS : xWF S) {rec_231 : Nat → Int32 → Int32 → xDt → Option (xDt)} (hrec_231 : ∀ {v0 : Nat} {v4 : Int32} {v5 : Int32} {D : xDt} {r : xDt}, xK S v0 12 → rec_231 v0 v4 v5 D = some r → yEx md_X12_shrink 0 231 [(0, .ref v0), (4, .int v4), (5, .int v5)] [] S D (xQv S r)) {v0 : Nat} {v4 : Int32} {v5 : Int32} {D : xDt} {r : xDt} (k0 : xK S v0 12) (h : f_X12_shrink_231s F P S rec_231 v0 v4 v5 D = some r) : yEx md_X12_shrink 0 231 [(0, .ref v0), (4, .int v4), (5, .int v5)] [] S D (xQv S r) := by
  unfold f_X12_shrink_231s at h
  refine x_iload dX12_shrink_231 2 rfl ?_
  refine x_sipush 256 dX12_shrink_233 (by decide) ?_
  refine x_icmp_ge 259 dX12_shrink_236 (by decide) (fun c => ?_) (fun c => ?_)
  · rw [if_pos c] at h
    refine x_aload_n dX12_shrink_259 0 rfl ?_
    refine x_iload dX12_shrink_260 1 rfl ?_
    refine xlet_e h (fun D1 eD1 h => ?_)
    refine y_puti fp_RX12_7 dX12_shrink_262 rfl k0 eD1 ?_
    obtain rfl := Option.some.inj h
    exact y_vret rfl dX12_shrink_265
  · rw [if_neg c] at h
    refine x_aload_n dX12_shrink_239 0 rfl ?_
    refine y_getr (kd := 100) hS fl_RX12_14 dX12_shrink_240 rfl k0 ?_
    refine x_iload dX12_shrink_243 2 rfl ?_
    refine x_aload_n dX12_shrink_245 0 rfl ?_
    refine y_getr (kd := 100) hS fl_RX12_100 dX12_shrink_246 rfl k0 ?_
    refine x_iload dX12_shrink_249 2 rfl ?_
    refine xgrd_e h (fun g2 h => ?_)
    refine y_iald dX12_shrink_251 ((hS.f k0 24 100 rfl).2) g2 ?_
    refine xgrd_e h (fun g3 h => ?_)
    refine xlet_e h (fun D4 eD4 h => ?_)
    refine y_iast dX12_shrink_252 ((hS.f k0 3 100 rfl).2) g3 eD4 ?_
    refine xlet_e h (fun v5_5 ev5_5 h => ?_)
    refine y_iinc v5_5 ev5_5 (by decide) [(5, .int v5_5), (0, .ref v0), (4, .int v4)] dX12_shrink_253 2 rfl (by show _ < 8; decide) rfl ?_
    refine x_goto 231 dX12_shrink_256 (by decide) ?_
    refine x_lv (lv' := [(0, .ref v0), (4, .int v4), (5, .int v5_5)]) [1, 2, 0] rfl ?_
    exact hrec_231 k0 h
theorem t_X12_shrink_231 {F P : Nat} {S : xSt} (hS : xWF S) : ∀ (n : Nat) {v0 : Nat} {v4 : Int32} {v5 : Int32} {D : xDt} {r : xDt}, xK S v0 12 → f_X12_shrink_231 F P S n v0 v4 v5 D = some r → yEx md_X12_shrink 0 231 [(0, .ref v0), (4, .int v4), (5, .int v5)] [] S D (xQv S r) := by
  intro n
  induction n with
  | zero => intros; rename_i h; cases h
  | succ n ih =>
    intro v0 v4 v5 D r k0 h
    exact t_X12_shrink_231s hS (fun k0 h => ih k0 h) k0 h

def f_X12_shrink_186s (F P : Nat) (S : xSt) (rec_186 : Nat → Int64 → Nat → Int32 → Int32 → xDt → Option (xDt)) (v0 : Nat) (v1 : Int64) (v3 : Nat) (v4 : Int32) (v5 : Int32) (D : xDt) : Option (xDt) :=
  if (D.1 v0 1) ≤ v5 then (f_X12_shrink_231 F P S F v0 v4 0 D) else (if (lg_cmp ((jlushr v1 v5) &&& 1) 1) = 0 then (xgrd (xin v5 (xl S v3)) (xgrd (xin v5 (xl S (xr S v0 2))) (xgrd (xin (D.1 v3 (v5).toNatClampNeg) (xl S (xr S v0 2))) (xlet (xup D.1 (xr S v0 2) (D.1 v3 (v5).toNatClampNeg).toNatClampNeg (D.1 (xr S v0 2) (v5).toNatClampNeg), D.2) fun D4 => f_X12_shrink_222 F P S rec_186 v0 v1 v3 v4 v5 D4)))) else (f_X12_shrink_222 F P S rec_186 v0 v1 v3 v4 v5 D))
def f_X12_shrink_186 (F P : Nat) (S : xSt) : Nat → Nat → Int64 → Nat → Int32 → Int32 → xDt → Option (xDt)
  | 0 => fun _ _ _ _ _ _ => none
  | n + 1 => f_X12_shrink_186s F P S (f_X12_shrink_186 F P S n)
set_option maxHeartbeats 4000000 in
theorem t_X12_shrink_186s {F P : Nat} {S : xSt} (hS : xWF S) {rec_186 : Nat → Int64 → Nat → Int32 → Int32 → xDt → Option (xDt)} (hrec_186 : ∀ {v0 : Nat} {v1 : Int64} {v3 : Nat} {v4 : Int32} {v5 : Int32} {D : xDt} {r : xDt}, xK S v0 12 → xK S v3 100 → rec_186 v0 v1 v3 v4 v5 D = some r → yEx md_X12_shrink 0 186 [(0, .ref v0), (1, .long v1), (3, .ref v3), (4, .int v4), (5, .int v5)] [] S D (xQv S r)) {v0 : Nat} {v1 : Int64} {v3 : Nat} {v4 : Int32} {v5 : Int32} {D : xDt} {r : xDt} (k0 : xK S v0 12) (k3 : xK S v3 100) (h : f_X12_shrink_186s F P S rec_186 v0 v1 v3 v4 v5 D = some r) : yEx md_X12_shrink 0 186 [(0, .ref v0), (1, .long v1), (3, .ref v3), (4, .int v4), (5, .int v5)] [] S D (xQv S r) := by
  unfold f_X12_shrink_186s at h
  refine x_iload dX12_shrink_186 4 rfl ?_
  refine x_aload_n dX12_shrink_188 0 rfl ?_
  refine y_geti fl_RX12_7 dX12_shrink_189 rfl k0 ?_
  refine x_icmp_ge 228 dX12_shrink_192 (by decide) (fun c => ?_) (fun c => ?_)
  · rw [if_pos c] at h
    refine x_iconst 0 dX12_shrink_228 (by decide) ?_
    refine y_istore 0 rfl [(5, .int 0), (0, .ref v0), (1, .long v1), (3, .ref v3), (4, .int v4)] dX12_shrink_229 (by show _ < 8; decide) rfl ?_
    refine x_lv (lv' := [(0, .ref v0), (4, .int v4), (5, .int 0)]) [1, 4, 0] rfl ?_
    exact t_X12_shrink_231 hS F k0 h
  · rw [if_neg c] at h
    refine x_lload_n dX12_shrink_195 1 rfl ?_
    refine x_iload dX12_shrink_196 4 rfl ?_
    refine x_lushr dX12_shrink_198 ?_
    refine x_lconst 1 dX12_shrink_199 (by decide) ?_
    refine x_land dX12_shrink_200 ?_
    refine x_lconst 1 dX12_shrink_201 (by decide) ?_
    refine x_lcmp dX12_shrink_202 ?_
    refine x_if_ne 222 dX12_shrink_203 (by decide) (fun c => ?_) (fun c => ?_)
    · rw [if_neg c] at h
      exact t_X12_shrink_222 hS hrec_186 k0 k3 h
    · rw [if_pos c] at h
      refine x_aload_n dX12_shrink_206 0 rfl ?_
      refine y_getr (kd := 100) hS fl_RX12_31 dX12_shrink_207 rfl k0 ?_
      refine x_aload_n dX12_shrink_210 2 rfl ?_
      refine x_iload dX12_shrink_211 4 rfl ?_
      refine xgrd_e h (fun g1 h => ?_)
      refine y_iald dX12_shrink_213 k3 g1 ?_
      refine x_aload_n dX12_shrink_214 0 rfl ?_
      refine y_getr (kd := 100) hS fl_RX12_31 dX12_shrink_215 rfl k0 ?_
      refine x_iload dX12_shrink_218 4 rfl ?_
      refine xgrd_e h (fun g2 h => ?_)
      refine y_iald dX12_shrink_220 ((hS.f k0 2 100 rfl).2) g2 ?_
      refine xgrd_e h (fun g3 h => ?_)
      refine xlet_e h (fun D4 eD4 h => ?_)
      refine y_iast dX12_shrink_221 ((hS.f k0 2 100 rfl).2) g3 eD4 ?_
      exact t_X12_shrink_222 hS hrec_186 k0 k3 h
theorem t_X12_shrink_186 {F P : Nat} {S : xSt} (hS : xWF S) : ∀ (n : Nat) {v0 : Nat} {v1 : Int64} {v3 : Nat} {v4 : Int32} {v5 : Int32} {D : xDt} {r : xDt}, xK S v0 12 → xK S v3 100 → f_X12_shrink_186 F P S n v0 v1 v3 v4 v5 D = some r → yEx md_X12_shrink 0 186 [(0, .ref v0), (1, .long v1), (3, .ref v3), (4, .int v4), (5, .int v5)] [] S D (xQv S r) := by
  intro n
  induction n with
  | zero => intros; rename_i h; cases h
  | succ n ih =>
    intro v0 v1 v3 v4 v5 D r k0 k3 h
    exact t_X12_shrink_186s hS (fun k0 k3 h => ih k0 k3 h) k0 k3 h

def f_X12_shrink_47s (F P : Nat) (S : xSt) (rec_47 : Nat → Int64 → Nat → Int32 → Int32 → xDt → Option (xDt)) (v0 : Nat) (v1 : Int64) (v3 : Nat) (v4 : Int32) (v5 : Int32) (D : xDt) : Option (xDt) :=
  if 4 ≤ v5 then (f_X12_shrink_186 F P S F v0 v1 v3 v4 0 D) else (f_X12_shrink_56 F P S rec_47 F v0 v1 v3 v4 v5 0 D)
def f_X12_shrink_47 (F P : Nat) (S : xSt) : Nat → Nat → Int64 → Nat → Int32 → Int32 → xDt → Option (xDt)
  | 0 => fun _ _ _ _ _ _ => none
  | n + 1 => f_X12_shrink_47s F P S (f_X12_shrink_47 F P S n)
set_option maxHeartbeats 4000000 in
theorem t_X12_shrink_47s {F P : Nat} {S : xSt} (hS : xWF S) {rec_47 : Nat → Int64 → Nat → Int32 → Int32 → xDt → Option (xDt)} (hrec_47 : ∀ {v0 : Nat} {v1 : Int64} {v3 : Nat} {v4 : Int32} {v5 : Int32} {D : xDt} {r : xDt}, xK S v0 12 → xK S v3 100 → rec_47 v0 v1 v3 v4 v5 D = some r → yEx md_X12_shrink 0 47 [(0, .ref v0), (1, .long v1), (3, .ref v3), (4, .int v4), (5, .int v5)] [] S D (xQv S r)) {v0 : Nat} {v1 : Int64} {v3 : Nat} {v4 : Int32} {v5 : Int32} {D : xDt} {r : xDt} (k0 : xK S v0 12) (k3 : xK S v3 100) (h : f_X12_shrink_47s F P S rec_47 v0 v1 v3 v4 v5 D = some r) : yEx md_X12_shrink 0 47 [(0, .ref v0), (1, .long v1), (3, .ref v3), (4, .int v4), (5, .int v5)] [] S D (xQv S r) := by
  unfold f_X12_shrink_47s at h
  refine x_iload dX12_shrink_47 4 rfl ?_
  refine x_iconst 4 dX12_shrink_49 (by decide) ?_
  refine x_icmp_ge 183 dX12_shrink_50 (by decide) (fun c => ?_) (fun c => ?_)
  · rw [if_pos c] at h
    refine x_iconst 0 dX12_shrink_183 (by decide) ?_
    refine y_istore 0 rfl [(5, .int 0), (0, .ref v0), (1, .long v1), (3, .ref v3), (4, .int v4)] dX12_shrink_184 (by show _ < 8; decide) rfl ?_
    refine x_lv (lv' := [(0, .ref v0), (1, .long v1), (3, .ref v3), (4, .int v4), (5, .int 0)]) [1, 2, 3, 4, 0] rfl ?_
    exact t_X12_shrink_186 hS F k0 k3 h
  · rw [if_neg c] at h
    refine x_iconst 0 dX12_shrink_53 (by decide) ?_
    refine y_istore 0 rfl [(6, .int 0), (0, .ref v0), (1, .long v1), (3, .ref v3), (4, .int v4), (5, .int v5)] dX12_shrink_54 (by show _ < 8; decide) rfl ?_
    refine x_lv (lv' := [(0, .ref v0), (1, .long v1), (3, .ref v3), (4, .int v4), (5, .int v5), (6, .int 0)]) [1, 2, 3, 4, 5, 0] rfl ?_
    exact t_X12_shrink_56 hS hrec_47 F k0 k3 h
theorem t_X12_shrink_47 {F P : Nat} {S : xSt} (hS : xWF S) : ∀ (n : Nat) {v0 : Nat} {v1 : Int64} {v3 : Nat} {v4 : Int32} {v5 : Int32} {D : xDt} {r : xDt}, xK S v0 12 → xK S v3 100 → f_X12_shrink_47 F P S n v0 v1 v3 v4 v5 D = some r → yEx md_X12_shrink 0 47 [(0, .ref v0), (1, .long v1), (3, .ref v3), (4, .int v4), (5, .int v5)] [] S D (xQv S r) := by
  intro n
  induction n with
  | zero => intros; rename_i h; cases h
  | succ n ih =>
    intro v0 v1 v3 v4 v5 D r k0 k3 h
    exact t_X12_shrink_47s hS (fun k0 k3 h => ih k0 k3 h) k0 k3 h

def f_X12_shrink_11s (F P : Nat) (S : xSt) (rec_11 : Nat → Int64 → Nat → Int32 → Int32 → xDt → Option (xDt)) (v0 : Nat) (v1 : Int64) (v3 : Nat) (v4 : Int32) (v5 : Int32) (D : xDt) : Option (xDt) :=
  if (D.1 v0 1) ≤ v5 then (f_X12_shrink_47 F P S F v0 v1 v3 v4 0 D) else (xgrd (xin v5 (xl S v3)) (xlet (xup D.1 v3 (v5).toNatClampNeg v4, D.2) fun D2 => xlet (v4 + (((jlushr v1 v5) &&& 1).toInt32)) fun v4_3 => xlet (v5 + 1) fun v5_4 => rec_11 v0 v1 v3 v4_3 v5_4 D2))
def f_X12_shrink_11 (F P : Nat) (S : xSt) : Nat → Nat → Int64 → Nat → Int32 → Int32 → xDt → Option (xDt)
  | 0 => fun _ _ _ _ _ _ => none
  | n + 1 => f_X12_shrink_11s F P S (f_X12_shrink_11 F P S n)
set_option maxHeartbeats 4000000 in
theorem t_X12_shrink_11s {F P : Nat} {S : xSt} (hS : xWF S) {rec_11 : Nat → Int64 → Nat → Int32 → Int32 → xDt → Option (xDt)} (hrec_11 : ∀ {v0 : Nat} {v1 : Int64} {v3 : Nat} {v4 : Int32} {v5 : Int32} {D : xDt} {r : xDt}, xK S v0 12 → xK S v3 100 → rec_11 v0 v1 v3 v4 v5 D = some r → yEx md_X12_shrink 0 11 [(0, .ref v0), (1, .long v1), (3, .ref v3), (4, .int v4), (5, .int v5)] [] S D (xQv S r)) {v0 : Nat} {v1 : Int64} {v3 : Nat} {v4 : Int32} {v5 : Int32} {D : xDt} {r : xDt} (k0 : xK S v0 12) (k3 : xK S v3 100) (h : f_X12_shrink_11s F P S rec_11 v0 v1 v3 v4 v5 D = some r) : yEx md_X12_shrink 0 11 [(0, .ref v0), (1, .long v1), (3, .ref v3), (4, .int v4), (5, .int v5)] [] S D (xQv S r) := by
  unfold f_X12_shrink_11s at h
  refine x_iload dX12_shrink_11 4 rfl ?_
  refine x_aload_n dX12_shrink_13 0 rfl ?_
  refine y_geti fl_RX12_7 dX12_shrink_14 rfl k0 ?_
  refine x_icmp_ge 44 dX12_shrink_17 (by decide) (fun c => ?_) (fun c => ?_)
  · rw [if_pos c] at h
    refine x_iconst 0 dX12_shrink_44 (by decide) ?_
    refine y_istore 0 rfl [(5, .int 0), (0, .ref v0), (1, .long v1), (3, .ref v3), (4, .int v4)] dX12_shrink_45 (by show _ < 8; decide) rfl ?_
    refine x_lv (lv' := [(0, .ref v0), (1, .long v1), (3, .ref v3), (4, .int v4), (5, .int 0)]) [1, 2, 3, 4, 0] rfl ?_
    exact t_X12_shrink_47 hS F k0 k3 h
  · rw [if_neg c] at h
    refine x_aload_n dX12_shrink_20 2 rfl ?_
    refine x_iload dX12_shrink_21 4 rfl ?_
    refine x_iload dX12_shrink_23 3 rfl ?_
    refine xgrd_e h (fun g1 h => ?_)
    refine xlet_e h (fun D2 eD2 h => ?_)
    refine y_iast dX12_shrink_25 k3 g1 eD2 ?_
    refine x_iload dX12_shrink_26 3 rfl ?_
    refine x_lload_n dX12_shrink_28 1 rfl ?_
    refine x_iload dX12_shrink_29 4 rfl ?_
    refine x_lushr dX12_shrink_31 ?_
    refine x_lconst 1 dX12_shrink_32 (by decide) ?_
    refine x_land dX12_shrink_33 ?_
    refine x_l2i dX12_shrink_34 ?_
    refine x_iadd dX12_shrink_35 ?_
    refine xlet_e h (fun v4_3 ev4_3 h => ?_)
    refine y_istore v4_3 ev4_3 [(4, .int v4_3), (0, .ref v0), (1, .long v1), (3, .ref v3), (5, .int v5)] dX12_shrink_36 (by show _ < 8; decide) rfl ?_
    refine xlet_e h (fun v5_4 ev5_4 h => ?_)
    refine y_iinc v5_4 ev5_4 (by decide) [(5, .int v5_4), (4, .int v4_3), (0, .ref v0), (1, .long v1), (3, .ref v3)] dX12_shrink_38 4 rfl (by show _ < 8; decide) rfl ?_
    refine x_goto 11 dX12_shrink_41 (by decide) ?_
    refine x_lv (lv' := [(0, .ref v0), (1, .long v1), (3, .ref v3), (4, .int v4_3), (5, .int v5_4)]) [2, 3, 4, 1, 0] rfl ?_
    exact hrec_11 k0 k3 h
theorem t_X12_shrink_11 {F P : Nat} {S : xSt} (hS : xWF S) : ∀ (n : Nat) {v0 : Nat} {v1 : Int64} {v3 : Nat} {v4 : Int32} {v5 : Int32} {D : xDt} {r : xDt}, xK S v0 12 → xK S v3 100 → f_X12_shrink_11 F P S n v0 v1 v3 v4 v5 D = some r → yEx md_X12_shrink 0 11 [(0, .ref v0), (1, .long v1), (3, .ref v3), (4, .int v4), (5, .int v5)] [] S D (xQv S r) := by
  intro n
  induction n with
  | zero => intros; rename_i h; cases h
  | succ n ih =>
    intro v0 v1 v3 v4 v5 D r k0 k3 h
    exact t_X12_shrink_11s hS (fun k0 k3 h => ih k0 k3 h) k0 k3 h

def f_X12_shrink (F P : Nat) (S : xSt) (v0 : Nat) (v1 : Int64) (D : xDt) : Option (xDt) :=
  f_X12_shrink_11 F P S F v0 v1 (xr S v0 22) 0 0 D
set_option maxHeartbeats 4000000 in
theorem S_X12_shrink {F P : Nat} {S : xSt} (hS : xWF S) {v0 : Nat} {v1 : Int64} {D : xDt} {r : xDt} (k0 : xK S v0 12) (h : f_X12_shrink F P S v0 v1 D = some r) : xSp md_X12_shrink (0, 0, 0) [.ref v0, .long v1] (S, D) (xQv S r) := by
  unfold f_X12_shrink at h
  refine xEntry (by decide) (Nat.le_of_ble_eq_true rfl) ?_
  refine x_lv (lv' := [(0, .ref v0), (1, .long v1)]) [0, 1] rfl ?_
  refine x_aload_n dX12_shrink_0 0 rfl ?_
  refine y_getr (kd := 100) hS fl_RX12_94 dX12_shrink_1 rfl k0 ?_
  refine x_astore_n [(3, .ref (xr S v0 22)), (0, .ref v0), (1, .long v1)] dX12_shrink_4 (by show _ < 8; decide) rfl ?_
  refine x_iconst 0 dX12_shrink_5 (by decide) ?_
  refine y_istore 0 rfl [(4, .int 0), (3, .ref (xr S v0 22)), (0, .ref v0), (1, .long v1)] dX12_shrink_6 (by show _ < 8; decide) rfl ?_
  refine x_iconst 0 dX12_shrink_8 (by decide) ?_
  refine y_istore 0 rfl [(5, .int 0), (4, .int 0), (3, .ref (xr S v0 22)), (0, .ref v0), (1, .long v1)] dX12_shrink_9 (by show _ < 8; decide) rfl ?_
  refine x_lv (lv' := [(0, .ref v0), (1, .long v1), (3, .ref (xr S v0 22)), (4, .int 0), (5, .int 0)]) [3, 4, 2, 1, 0] rfl ?_
  exact t_X12_shrink_11 hS F k0 ((hS.f k0 22 100 rfl).2) h

theorem dX12_say_0 : decode cX12_say 0 = .ok (.aload_n 0, 1) := by decide +kernel
theorem dX12_say_1 : decode cX12_say 1 = .ok (.aload_n 0, 1) := by decide +kernel
theorem dX12_say_2 : decode cX12_say 2 = .ok (.getfield 160, 3) := by decide +kernel
theorem dX12_say_5 : decode cX12_say 5 = .ok (.aload_n 0, 1) := by decide +kernel
theorem dX12_say_6 : decode cX12_say 6 = .ok (.invokevirtual 233, 3) := by decide +kernel
theorem dX12_say_9 : decode cX12_say 9 = .ok (.invokevirtual 221, 3) := by decide +kernel
theorem dX12_say_12 : decode cX12_say 12 = .ok (.lstore_n 1, 1) := by decide +kernel
theorem dX12_say_13 : decode cX12_say 13 = .ok (.lload_n 1, 1) := by decide +kernel
theorem dX12_say_14 : decode cX12_say 14 = .ok (.lconst 0, 1) := by decide +kernel
theorem dX12_say_15 : decode cX12_say 15 = .ok (.lcmp, 1) := by decide +kernel
theorem dX12_say_16 : decode cX12_say 16 = .ok (.ifCond .ne 5, 3) := by decide +kernel
theorem dX12_say_19 : decode cX12_say 19 = .ok (.iconst 0, 1) := by decide +kernel
theorem dX12_say_20 : decode cX12_say 20 = .ok (.ireturn, 1) := by decide +kernel
theorem dX12_say_21 : decode cX12_say 21 = .ok (.lload_n 1, 1) := by decide +kernel
theorem dX12_say_22 : decode cX12_say 22 = .ok (.aload_n 0, 1) := by decide +kernel
theorem dX12_say_23 : decode cX12_say 23 = .ok (.invokevirtual 233, 3) := by decide +kernel
theorem dX12_say_26 : decode cX12_say 26 = .ok (.lcmp, 1) := by decide +kernel
theorem dX12_say_27 : decode cX12_say 27 = .ok (.ifCond .eq 12, 3) := by decide +kernel
theorem dX12_say_30 : decode cX12_say 30 = .ok (.aload_n 0, 1) := by decide +kernel
theorem dX12_say_31 : decode cX12_say 31 = .ok (.invokevirtual 258, 3) := by decide +kernel
theorem dX12_say_34 : decode cX12_say 34 = .ok (.aload_n 0, 1) := by decide +kernel
theorem dX12_say_35 : decode cX12_say 35 = .ok (.lload_n 1, 1) := by decide +kernel
theorem dX12_say_36 : decode cX12_say 36 = .ok (.invokevirtual 261, 3) := by decide +kernel
theorem dX12_say_39 : decode cX12_say 39 = .ok (.aload_n 0, 1) := by decide +kernel
theorem dX12_say_40 : decode cX12_say 40 = .ok (.getfield 7, 3) := by decide +kernel
theorem dX12_say_43 : decode cX12_say 43 = .ok (.ireturn, 1) := by decide +kernel
def f_X12_say (F P : Nat) (S : xSt) (v0 : Nat) (D : xDt) : Option (Int32 × xDt) :=
  (f_X12_all F P S v0 D).bind fun q1 => (f_X12_where F P S P v0 (D.1 v0 14) q1.1 q1.2).bind fun q2 => if (lg_cmp q2.1 0) = 0 then (some (0, q2.2)) else ((f_X12_all F P S v0 q2.2).bind fun q3 => if (lg_cmp q2.1 q3.1) = 0 then (some (q3.2.1 v0 1, q3.2)) else ((f_X12_keep F P S v0 q3.2).bind fun q4 => (f_X12_shrink F P S v0 q2.1 q4).bind fun q5 => some (q5.1 v0 1, q5)))
set_option maxHeartbeats 4000000 in
theorem S_X12_say {F P : Nat} {S : xSt} (hS : xWF S) {v0 : Nat} {D : xDt} {r : Int32 × xDt} (k0 : xK S v0 12) (h : f_X12_say F P S v0 D = some r) : xSp md_X12_say ((P + 5), 0, 0) [.ref v0] (S, D) (xQi S r) := by
  unfold f_X12_say at h
  refine xEntry (by decide) (Nat.le_of_ble_eq_true rfl) ?_
  refine x_lv (lv' := [(0, .ref v0)]) [0] rfl ?_
  refine x_aload_n dX12_say_0 0 rfl ?_
  refine x_aload_n dX12_say_1 0 rfl ?_
  refine y_geti fl_RX12_160 dX12_say_2 rfl k0 ?_
  refine x_aload_n dX12_say_5 0 rfl ?_
  refine xbnd_e h (fun q1 e1 h => ?_)
  refine y_callVl (As := []) (q := q1) cv_RX12_233 dX12_say_6 k0 rfl (Nat.le_of_ble_eq_true rfl) (by omega) (S_X12_all hS k0 e1) ?_
  refine xbnd_e h (fun q2 e2 h => ?_)
  refine y_callVl (As := [.int (D.1 v0 14), .long q1.1]) (q := q2) cv_RX12_221 dX12_say_9 k0 rfl (Nat.le_of_ble_eq_true rfl) (by omega) (S_X12_where hS P k0 e2) ?_
  refine y_lstore_n q2.1 rfl [(1, .long q2.1), (0, .ref v0)] dX12_say_12 (by show _ < 3; decide) rfl ?_
  refine x_lload_n dX12_say_13 0 rfl ?_
  refine x_lconst 0 dX12_say_14 (by decide) ?_
  refine x_lcmp dX12_say_15 ?_
  refine x_if_ne 21 dX12_say_16 (by decide) (fun c => ?_) (fun c => ?_)
  · rw [if_neg c] at h
    refine x_lload_n dX12_say_21 0 rfl ?_
    refine x_aload_n dX12_say_22 1 rfl ?_
    refine xbnd_e h (fun q3 e3 h => ?_)
    refine y_callVl (As := []) (q := q3) cv_RX12_233 dX12_say_23 k0 rfl (Nat.le_of_ble_eq_true rfl) (by omega) (S_X12_all hS k0 e3) ?_
    refine x_lcmp dX12_say_26 ?_
    refine x_if_eq 39 dX12_say_27 (by decide) (fun c => ?_) (fun c => ?_)
    · rw [if_pos c] at h
      refine x_aload_n dX12_say_39 1 rfl ?_
      refine y_geti fl_RX12_7 dX12_say_40 rfl k0 ?_
      obtain rfl := Option.some.inj h
      exact y_iret rfl dX12_say_43
    · rw [if_neg c] at h
      refine x_aload_n dX12_say_30 1 rfl ?_
      refine xbnd_e h (fun q4 e4 h => ?_)
      refine y_callVv (As := []) (q := q4) cv_RX12_258 dX12_say_31 k0 rfl (Nat.le_of_ble_eq_true rfl) (by omega) (S_X12_keep hS k0 e4) ?_
      refine x_aload_n dX12_say_34 1 rfl ?_
      refine x_lload_n dX12_say_35 0 rfl ?_
      refine xbnd_e h (fun q5 e5 h => ?_)
      refine y_callVv (As := [.long q2.1]) (q := q5) cv_RX12_261 dX12_say_36 k0 rfl (Nat.le_of_ble_eq_true rfl) (by omega) (S_X12_shrink hS k0 e5) ?_
      refine x_aload_n dX12_say_39 1 rfl ?_
      refine y_geti fl_RX12_7 dX12_say_40 rfl k0 ?_
      obtain rfl := Option.some.inj h
      exact y_iret rfl dX12_say_43
  · rw [if_pos c] at h
    refine x_iconst 0 dX12_say_19 (by decide) ?_
    obtain rfl := Option.some.inj h
    exact y_iret rfl dX12_say_20

theorem dX12_isEvent_0 : decode cX12_isEvent 0 = .ok (.iload_n 1, 1) := by decide +kernel
theorem dX12_isEvent_1 : decode cX12_isEvent 1 = .ok (.iconst 0, 1) := by decide +kernel
theorem dX12_isEvent_2 : decode cX12_isEvent 2 = .ok (.aload_n 0, 1) := by decide +kernel
theorem dX12_isEvent_3 : decode cX12_isEvent 3 = .ok (.getfield 265, 3) := by decide +kernel
theorem dX12_isEvent_6 : decode cX12_isEvent 6 = .ok (.iconst 1, 1) := by decide +kernel
theorem dX12_isEvent_7 : decode cX12_isEvent 7 = .ok (.isub, 1) := by decide +kernel
theorem dX12_isEvent_8 : decode cX12_isEvent 8 = .ok (.invokestatic 10, 3) := by decide +kernel
theorem dX12_isEvent_11 : decode cX12_isEvent 11 = .ok (.ireturn, 1) := by decide +kernel
def f_X12_isEvent (F P : Nat) (S : xSt) (v0 : Nat) (v1 : Int32) (D : xDt) : Option (Int32 × xDt) :=
  (f_X12_in F P S v1 0 ((D.1 v0 25) - 1) D).bind fun q1 => xgrd (xb q1.1) (some (q1.1, q1.2))
set_option maxHeartbeats 4000000 in
theorem S_X12_isEvent {F P : Nat} {S : xSt} (hS : xWF S) {v0 : Nat} {v1 : Int32} {D : xDt} {r : Int32 × xDt} (k0 : xK S v0 12) (h : f_X12_isEvent F P S v0 v1 D = some r) : xSp md_X12_isEvent (1, 0, 0) [.ref v0, .int v1] (S, D) (xQi S r) := by
  unfold f_X12_isEvent at h
  refine xEntry (by decide) (Nat.le_of_ble_eq_true rfl) ?_
  refine x_lv (lv' := [(0, .ref v0), (1, .int v1)]) [0, 1] rfl ?_
  refine x_iload_n dX12_isEvent_0 1 rfl ?_
  refine x_iconst 0 dX12_isEvent_1 (by decide) ?_
  refine x_aload_n dX12_isEvent_2 0 rfl ?_
  refine y_geti fl_RX12_265 dX12_isEvent_3 rfl k0 ?_
  refine x_iconst 1 dX12_isEvent_6 (by decide) ?_
  refine x_isub dX12_isEvent_7 ?_
  refine xbnd_e h (fun q1 e1 h => ?_)
  refine y_callSi (As := [.int v1, .int 0, .int ((D.1 v0 25) - 1)]) (q := q1) cs_RX12_10 dX12_isEvent_8 rfl (Nat.le_of_ble_eq_true rfl) (by omega) (S_X12_in hS e1) ?_
  refine xgrd_e h (fun g2 h => ?_)
  obtain rfl := Option.some.inj h
  exact y_zret rfl g2 dX12_isEvent_11

