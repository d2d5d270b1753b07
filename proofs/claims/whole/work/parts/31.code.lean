/-! printed by wip/whole/gen.py: the methods as plain functions, each proved to be what its bytecode does -/
theorem dX12_reduced_0 : decode cX12_reduced 0 = .ok (.aload_n 0, 1) := by decide +kernel
theorem dX12_reduced_1 : decode cX12_reduced 1 = .ok (.getfield 291, 3) := by decide +kernel
theorem dX12_reduced_4 : decode cX12_reduced 4 = .ok (.ifCond .eq 7, 3) := by decide +kernel
theorem dX12_reduced_7 : decode cX12_reduced 7 = .ok (.sipush 12800, 3) := by decide +kernel
theorem dX12_reduced_10 : decode cX12_reduced 10 = .ok (.ireturn, 1) := by decide +kernel
theorem dX12_reduced_11 : decode cX12_reduced 11 = .ok (.aload_n 0, 1) := by decide +kernel
theorem dX12_reduced_12 : decode cX12_reduced 12 = .ok (.getfield 72, 3) := by decide +kernel
theorem dX12_reduced_15 : decode cX12_reduced 15 = .ok (.iload_n 1, 1) := by decide +kernel
theorem dX12_reduced_16 : decode cX12_reduced 16 = .ok (.iaload, 1) := by decide +kernel
theorem dX12_reduced_17 : decode cX12_reduced 17 = .ok (.istore_n 2, 1) := by decide +kernel
theorem dX12_reduced_18 : decode cX12_reduced 18 = .ok (.iload_n 2, 1) := by decide +kernel
theorem dX12_reduced_19 : decode cX12_reduced 19 = .ok (.iconst 4, 1) := by decide +kernel
theorem dX12_reduced_20 : decode cX12_reduced 20 = .ok (.if_icmp .ge 19, 3) := by decide +kernel
theorem dX12_reduced_23 : decode cX12_reduced 23 = .ok (.aload_n 0, 1) := by decide +kernel
theorem dX12_reduced_24 : decode cX12_reduced 24 = .ok (.iload_n 2, 1) := by decide +kernel
theorem dX12_reduced_25 : decode cX12_reduced 25 = .ok (.bipush (-2), 2) := by decide +kernel
theorem dX12_reduced_27 : decode cX12_reduced 27 = .ok (.bipush (-2), 2) := by decide +kernel
theorem dX12_reduced_29 : decode cX12_reduced 29 = .ok (.aload_n 0, 1) := by decide +kernel
theorem dX12_reduced_30 : decode cX12_reduced 30 = .ok (.getfield 81, 3) := by decide +kernel
theorem dX12_reduced_33 : decode cX12_reduced 33 = .ok (.iload_n 1, 1) := by decide +kernel
theorem dX12_reduced_34 : decode cX12_reduced 34 = .ok (.iaload, 1) := by decide +kernel
theorem dX12_reduced_35 : decode cX12_reduced 35 = .ok (.invokevirtual 295, 3) := by decide +kernel
theorem dX12_reduced_38 : decode cX12_reduced 38 = .ok (.ireturn, 1) := by decide +kernel
theorem dX12_reduced_39 : decode cX12_reduced 39 = .ok (.aload_n 0, 1) := by decide +kernel
theorem dX12_reduced_40 : decode cX12_reduced 40 = .ok (.aload_n 0, 1) := by decide +kernel
theorem dX12_reduced_41 : decode cX12_reduced 41 = .ok (.getfield 75, 3) := by decide +kernel
theorem dX12_reduced_44 : decode cX12_reduced 44 = .ok (.iload_n 1, 1) := by decide +kernel
theorem dX12_reduced_45 : decode cX12_reduced 45 = .ok (.iaload, 1) := by decide +kernel
theorem dX12_reduced_46 : decode cX12_reduced 46 = .ok (.invokevirtual 298, 3) := by decide +kernel
theorem dX12_reduced_49 : decode cX12_reduced 49 = .ok (.istore_n 3, 1) := by decide +kernel
theorem dX12_reduced_50 : decode cX12_reduced 50 = .ok (.aload_n 0, 1) := by decide +kernel
theorem dX12_reduced_51 : decode cX12_reduced 51 = .ok (.getfield 78, 3) := by decide +kernel
theorem dX12_reduced_54 : decode cX12_reduced 54 = .ok (.iload_n 1, 1) := by decide +kernel
theorem dX12_reduced_55 : decode cX12_reduced 55 = .ok (.iaload, 1) := by decide +kernel
theorem dX12_reduced_56 : decode cX12_reduced 56 = .ok (.ifCond .lt 10, 3) := by decide +kernel
theorem dX12_reduced_59 : decode cX12_reduced 59 = .ok (.aload_n 0, 1) := by decide +kernel
theorem dX12_reduced_60 : decode cX12_reduced 60 = .ok (.getfield 291, 3) := by decide +kernel
theorem dX12_reduced_63 : decode cX12_reduced 63 = .ok (.ifCond .eq 8, 3) := by decide +kernel
theorem dX12_reduced_66 : decode cX12_reduced 66 = .ok (.bipush (-2), 2) := by decide +kernel
theorem dX12_reduced_68 : decode cX12_reduced 68 = .ok (.goto 13, 3) := by decide +kernel
theorem dX12_reduced_71 : decode cX12_reduced 71 = .ok (.aload_n 0, 1) := by decide +kernel
theorem dX12_reduced_72 : decode cX12_reduced 72 = .ok (.aload_n 0, 1) := by decide +kernel
theorem dX12_reduced_73 : decode cX12_reduced 73 = .ok (.getfield 78, 3) := by decide +kernel
theorem dX12_reduced_76 : decode cX12_reduced 76 = .ok (.iload_n 1, 1) := by decide +kernel
theorem dX12_reduced_77 : decode cX12_reduced 77 = .ok (.iaload, 1) := by decide +kernel
theorem dX12_reduced_78 : decode cX12_reduced 78 = .ok (.invokevirtual 298, 3) := by decide +kernel
theorem dX12_reduced_81 : decode cX12_reduced 81 = .ok (.istore 4, 2) := by decide +kernel
theorem dX12_reduced_83 : decode cX12_reduced 83 = .ok (.iload_n 2, 1) := by decide +kernel
theorem dX12_reduced_84 : decode cX12_reduced 84 = .ok (.bipush 14, 2) := by decide +kernel
theorem dX12_reduced_86 : decode cX12_reduced 86 = .ok (.if_icmp .ne 11, 3) := by decide +kernel
theorem dX12_reduced_89 : decode cX12_reduced 89 = .ok (.aload_n 0, 1) := by decide +kernel
theorem dX12_reduced_90 : decode cX12_reduced 90 = .ok (.iload_n 3, 1) := by decide +kernel
theorem dX12_reduced_91 : decode cX12_reduced 91 = .ok (.iload 4, 2) := by decide +kernel
theorem dX12_reduced_93 : decode cX12_reduced 93 = .ok (.invokevirtual 301, 3) := by decide +kernel
theorem dX12_reduced_96 : decode cX12_reduced 96 = .ok (.ireturn, 1) := by decide +kernel
theorem dX12_reduced_97 : decode cX12_reduced 97 = .ok (.iload_n 2, 1) := by decide +kernel
theorem dX12_reduced_98 : decode cX12_reduced 98 = .ok (.bipush 15, 2) := by decide +kernel
theorem dX12_reduced_100 : decode cX12_reduced 100 = .ok (.if_icmp .ne 35, 3) := by decide +kernel
theorem dX12_reduced_103 : decode cX12_reduced 103 = .ok (.aload_n 0, 1) := by decide +kernel
theorem dX12_reduced_104 : decode cX12_reduced 104 = .ok (.iconst 4, 1) := by decide +kernel
theorem dX12_reduced_105 : decode cX12_reduced 105 = .ok (.aload_n 0, 1) := by decide +kernel
theorem dX12_reduced_106 : decode cX12_reduced 106 = .ok (.bipush 11, 2) := by decide +kernel
theorem dX12_reduced_108 : decode cX12_reduced 108 = .ok (.iload_n 3, 1) := by decide +kernel
theorem dX12_reduced_109 : decode cX12_reduced 109 = .ok (.aload_n 0, 1) := by decide +kernel
theorem dX12_reduced_110 : decode cX12_reduced 110 = .ok (.iconst 4, 1) := by decide +kernel
theorem dX12_reduced_111 : decode cX12_reduced 111 = .ok (.aload_n 0, 1) := by decide +kernel
theorem dX12_reduced_112 : decode cX12_reduced 112 = .ok (.iload_n 3, 1) := by decide +kernel
theorem dX12_reduced_113 : decode cX12_reduced 113 = .ok (.iload 4, 2) := by decide +kernel
theorem dX12_reduced_115 : decode cX12_reduced 115 = .ok (.invokevirtual 301, 3) := by decide +kernel
theorem dX12_reduced_118 : decode cX12_reduced 118 = .ok (.bipush (-2), 2) := by decide +kernel
theorem dX12_reduced_120 : decode cX12_reduced 120 = .ok (.iconst 0, 1) := by decide +kernel
theorem dX12_reduced_121 : decode cX12_reduced 121 = .ok (.invokevirtual 295, 3) := by decide +kernel
theorem dX12_reduced_124 : decode cX12_reduced 124 = .ok (.iconst 0, 1) := by decide +kernel
theorem dX12_reduced_125 : decode cX12_reduced 125 = .ok (.invokevirtual 295, 3) := by decide +kernel
theorem dX12_reduced_128 : decode cX12_reduced 128 = .ok (.bipush (-2), 2) := by decide +kernel
theorem dX12_reduced_130 : decode cX12_reduced 130 = .ok (.iconst 0, 1) := by decide +kernel
theorem dX12_reduced_131 : decode cX12_reduced 131 = .ok (.invokevirtual 295, 3) := by decide +kernel
theorem dX12_reduced_134 : decode cX12_reduced 134 = .ok (.ireturn, 1) := by decide +kernel
theorem dX12_reduced_135 : decode cX12_reduced 135 = .ok (.aload_n 0, 1) := by decide +kernel
theorem dX12_reduced_136 : decode cX12_reduced 136 = .ok (.iload_n 2, 1) := by decide +kernel
theorem dX12_reduced_137 : decode cX12_reduced 137 = .ok (.iload_n 3, 1) := by decide +kernel
theorem dX12_reduced_138 : decode cX12_reduced 138 = .ok (.iload 4, 2) := by decide +kernel
theorem dX12_reduced_140 : decode cX12_reduced 140 = .ok (.aload_n 0, 1) := by decide +kernel
theorem dX12_reduced_141 : decode cX12_reduced 141 = .ok (.getfield 81, 3) := by decide +kernel
theorem dX12_reduced_144 : decode cX12_reduced 144 = .ok (.iload_n 1, 1) := by decide +kernel
theorem dX12_reduced_145 : decode cX12_reduced 145 = .ok (.iaload, 1) := by decide +kernel
theorem dX12_reduced_146 : decode cX12_reduced 146 = .ok (.invokevirtual 295, 3) := by decide +kernel
theorem dX12_reduced_149 : decode cX12_reduced 149 = .ok (.ireturn, 1) := by decide +kernel
theorem dX12_pushed_0 : decode cX12_pushed 0 = .ok (.aload_n 0, 1) := by decide +kernel
theorem dX12_pushed_1 : decode cX12_pushed 1 = .ok (.getfield 291, 3) := by decide +kernel
theorem dX12_pushed_4 : decode cX12_pushed 4 = .ok (.ifCond .eq 7, 3) := by decide +kernel
theorem dX12_pushed_7 : decode cX12_pushed 7 = .ok (.sipush 12800, 3) := by decide +kernel
theorem dX12_pushed_10 : decode cX12_pushed 10 = .ok (.ireturn, 1) := by decide +kernel
theorem dX12_pushed_11 : decode cX12_pushed 11 = .ok (.aload_n 0, 1) := by decide +kernel
theorem dX12_pushed_12 : decode cX12_pushed 12 = .ok (.getfield 72, 3) := by decide +kernel
theorem dX12_pushed_15 : decode cX12_pushed 15 = .ok (.iload_n 2, 1) := by decide +kernel
theorem dX12_pushed_16 : decode cX12_pushed 16 = .ok (.iaload, 1) := by decide +kernel
theorem dX12_pushed_17 : decode cX12_pushed 17 = .ok (.tableswitch 194 4 13 #[55, 83, 116, 194, 194, 194, 158, 158, 158, 158], 55) := by decide +kernel
theorem dX12_pushed_72 : decode cX12_pushed 72 = .ok (.aload_n 0, 1) := by decide +kernel
theorem dX12_pushed_73 : decode cX12_pushed 73 = .ok (.bipush 11, 2) := by decide +kernel
theorem dX12_pushed_75 : decode cX12_pushed 75 = .ok (.iload_n 1, 1) := by decide +kernel
theorem dX12_pushed_76 : decode cX12_pushed 76 = .ok (.aload_n 0, 1) := by decide +kernel
theorem dX12_pushed_77 : decode cX12_pushed 77 = .ok (.iconst 4, 1) := by decide +kernel
theorem dX12_pushed_78 : decode cX12_pushed 78 = .ok (.aload_n 0, 1) := by decide +kernel
theorem dX12_pushed_79 : decode cX12_pushed 79 = .ok (.iload_n 1, 1) := by decide +kernel
theorem dX12_pushed_80 : decode cX12_pushed 80 = .ok (.aload_n 0, 1) := by decide +kernel
theorem dX12_pushed_81 : decode cX12_pushed 81 = .ok (.getfield 75, 3) := by decide +kernel
theorem dX12_pushed_84 : decode cX12_pushed 84 = .ok (.iload_n 2, 1) := by decide +kernel
theorem dX12_pushed_85 : decode cX12_pushed 85 = .ok (.iaload, 1) := by decide +kernel
theorem dX12_pushed_86 : decode cX12_pushed 86 = .ok (.invokevirtual 301, 3) := by decide +kernel
theorem dX12_pushed_89 : decode cX12_pushed 89 = .ok (.bipush (-2), 2) := by decide +kernel
theorem dX12_pushed_91 : decode cX12_pushed 91 = .ok (.iconst 0, 1) := by decide +kernel
theorem dX12_pushed_92 : decode cX12_pushed 92 = .ok (.invokevirtual 295, 3) := by decide +kernel
theorem dX12_pushed_95 : decode cX12_pushed 95 = .ok (.iconst 0, 1) := by decide +kernel
theorem dX12_pushed_96 : decode cX12_pushed 96 = .ok (.invokevirtual 295, 3) := by decide +kernel
theorem dX12_pushed_99 : decode cX12_pushed 99 = .ok (.ireturn, 1) := by decide +kernel
theorem dX12_pushed_100 : decode cX12_pushed 100 = .ok (.aload_n 0, 1) := by decide +kernel
theorem dX12_pushed_101 : decode cX12_pushed 101 = .ok (.bipush 11, 2) := by decide +kernel
theorem dX12_pushed_103 : decode cX12_pushed 103 = .ok (.iload_n 1, 1) := by decide +kernel
theorem dX12_pushed_104 : decode cX12_pushed 104 = .ok (.aload_n 0, 1) := by decide +kernel
theorem dX12_pushed_105 : decode cX12_pushed 105 = .ok (.iconst 5, 1) := by decide +kernel
theorem dX12_pushed_106 : decode cX12_pushed 106 = .ok (.aload_n 0, 1) := by decide +kernel
theorem dX12_pushed_107 : decode cX12_pushed 107 = .ok (.iload_n 1, 1) := by decide +kernel
theorem dX12_pushed_108 : decode cX12_pushed 108 = .ok (.aload_n 0, 1) := by decide +kernel
theorem dX12_pushed_109 : decode cX12_pushed 109 = .ok (.getfield 75, 3) := by decide +kernel
theorem dX12_pushed_112 : decode cX12_pushed 112 = .ok (.iload_n 2, 1) := by decide +kernel
theorem dX12_pushed_113 : decode cX12_pushed 113 = .ok (.iaload, 1) := by decide +kernel
theorem dX12_pushed_114 : decode cX12_pushed 114 = .ok (.invokevirtual 301, 3) := by decide +kernel
theorem dX12_pushed_117 : decode cX12_pushed 117 = .ok (.bipush (-2), 2) := by decide +kernel
theorem dX12_pushed_119 : decode cX12_pushed 119 = .ok (.aload_n 0, 1) := by decide +kernel
theorem dX12_pushed_120 : decode cX12_pushed 120 = .ok (.getfield 81, 3) := by decide +kernel
theorem dX12_pushed_123 : decode cX12_pushed 123 = .ok (.iload_n 2, 1) := by decide +kernel
theorem dX12_pushed_124 : decode cX12_pushed 124 = .ok (.iaload, 1) := by decide +kernel
theorem dX12_pushed_125 : decode cX12_pushed 125 = .ok (.invokevirtual 295, 3) := by decide +kernel
theorem dX12_pushed_128 : decode cX12_pushed 128 = .ok (.iconst 0, 1) := by decide +kernel
theorem dX12_pushed_129 : decode cX12_pushed 129 = .ok (.invokevirtual 295, 3) := by decide +kernel
theorem dX12_pushed_132 : decode cX12_pushed 132 = .ok (.ireturn, 1) := by decide +kernel
theorem dX12_pushed_133 : decode cX12_pushed 133 = .ok (.aload_n 0, 1) := by decide +kernel
theorem dX12_pushed_134 : decode cX12_pushed 134 = .ok (.bipush 11, 2) := by decide +kernel
theorem dX12_pushed_136 : decode cX12_pushed 136 = .ok (.iload_n 1, 1) := by decide +kernel
theorem dX12_pushed_137 : decode cX12_pushed 137 = .ok (.aload_n 0, 1) := by decide +kernel
theorem dX12_pushed_138 : decode cX12_pushed 138 = .ok (.bipush 6, 2) := by decide +kernel
theorem dX12_pushed_140 : decode cX12_pushed 140 = .ok (.aload_n 0, 1) := by decide +kernel
theorem dX12_pushed_141 : decode cX12_pushed 141 = .ok (.bipush 13, 2) := by decide +kernel
theorem dX12_pushed_143 : decode cX12_pushed 143 = .ok (.iload_n 1, 1) := by decide +kernel
theorem dX12_pushed_144 : decode cX12_pushed 144 = .ok (.aload_n 0, 1) := by decide +kernel
theorem dX12_pushed_145 : decode cX12_pushed 145 = .ok (.iload_n 1, 1) := by decide +kernel
theorem dX12_pushed_146 : decode cX12_pushed 146 = .ok (.aload_n 0, 1) := by decide +kernel
theorem dX12_pushed_147 : decode cX12_pushed 147 = .ok (.getfield 75, 3) := by decide +kernel
theorem dX12_pushed_150 : decode cX12_pushed 150 = .ok (.iload_n 2, 1) := by decide +kernel
theorem dX12_pushed_151 : decode cX12_pushed 151 = .ok (.iaload, 1) := by decide +kernel
theorem dX12_pushed_152 : decode cX12_pushed 152 = .ok (.invokevirtual 301, 3) := by decide +kernel
theorem dX12_pushed_155 : decode cX12_pushed 155 = .ok (.iconst 0, 1) := by decide +kernel
theorem dX12_pushed_156 : decode cX12_pushed 156 = .ok (.invokevirtual 295, 3) := by decide +kernel
theorem dX12_pushed_159 : decode cX12_pushed 159 = .ok (.bipush (-2), 2) := by decide +kernel
theorem dX12_pushed_161 : decode cX12_pushed 161 = .ok (.aload_n 0, 1) := by decide +kernel
theorem dX12_pushed_162 : decode cX12_pushed 162 = .ok (.getfield 81, 3) := by decide +kernel
theorem dX12_pushed_165 : decode cX12_pushed 165 = .ok (.iload_n 2, 1) := by decide +kernel
theorem dX12_pushed_166 : decode cX12_pushed 166 = .ok (.iaload, 1) := by decide +kernel
theorem dX12_pushed_167 : decode cX12_pushed 167 = .ok (.invokevirtual 295, 3) := by decide +kernel
theorem dX12_pushed_170 : decode cX12_pushed 170 = .ok (.iconst 0, 1) := by decide +kernel
theorem dX12_pushed_171 : decode cX12_pushed 171 = .ok (.invokevirtual 295, 3) := by decide +kernel
theorem dX12_pushed_174 : decode cX12_pushed 174 = .ok (.ireturn, 1) := by decide +kernel
theorem dX12_pushed_175 : decode cX12_pushed 175 = .ok (.aload_n 0, 1) := by decide +kernel
theorem dX12_pushed_176 : decode cX12_pushed 176 = .ok (.iload_n 1, 1) := by decide +kernel
theorem dX12_pushed_177 : decode cX12_pushed 177 = .ok (.aload_n 0, 1) := by decide +kernel
theorem dX12_pushed_178 : decode cX12_pushed 178 = .ok (.getfield 75, 3) := by decide +kernel
theorem dX12_pushed_181 : decode cX12_pushed 181 = .ok (.iload_n 2, 1) := by decide +kernel
theorem dX12_pushed_182 : decode cX12_pushed 182 = .ok (.iaload, 1) := by decide +kernel
theorem dX12_pushed_183 : decode cX12_pushed 183 = .ok (.invokevirtual 301, 3) := by decide +kernel
theorem dX12_pushed_186 : decode cX12_pushed 186 = .ok (.istore_n 3, 1) := by decide +kernel
theorem dX12_pushed_187 : decode cX12_pushed 187 = .ok (.aload_n 0, 1) := by decide +kernel
theorem dX12_pushed_188 : decode cX12_pushed 188 = .ok (.aload_n 0, 1) := by decide +kernel
theorem dX12_pushed_189 : decode cX12_pushed 189 = .ok (.getfield 72, 3) := by decide +kernel
theorem dX12_pushed_192 : decode cX12_pushed 192 = .ok (.iload_n 2, 1) := by decide +kernel
theorem dX12_pushed_193 : decode cX12_pushed 193 = .ok (.iaload, 1) := by decide +kernel
theorem dX12_pushed_194 : decode cX12_pushed 194 = .ok (.iload_n 3, 1) := by decide +kernel
theorem dX12_pushed_195 : decode cX12_pushed 195 = .ok (.aload_n 0, 1) := by decide +kernel
theorem dX12_pushed_196 : decode cX12_pushed 196 = .ok (.iload_n 1, 1) := by decide +kernel
theorem dX12_pushed_197 : decode cX12_pushed 197 = .ok (.aload_n 0, 1) := by decide +kernel
theorem dX12_pushed_198 : decode cX12_pushed 198 = .ok (.getfield 78, 3) := by decide +kernel
theorem dX12_pushed_201 : decode cX12_pushed 201 = .ok (.iload_n 2, 1) := by decide +kernel
theorem dX12_pushed_202 : decode cX12_pushed 202 = .ok (.iaload, 1) := by decide +kernel
theorem dX12_pushed_203 : decode cX12_pushed 203 = .ok (.invokevirtual 301, 3) := by decide +kernel
theorem dX12_pushed_206 : decode cX12_pushed 206 = .ok (.iconst 0, 1) := by decide +kernel
theorem dX12_pushed_207 : decode cX12_pushed 207 = .ok (.invokevirtual 295, 3) := by decide +kernel
theorem dX12_pushed_210 : decode cX12_pushed 210 = .ok (.ireturn, 1) := by decide +kernel
theorem dX12_pushed_211 : decode cX12_pushed 211 = .ok (.aload_n 0, 1) := by decide +kernel
theorem dX12_pushed_212 : decode cX12_pushed 212 = .ok (.bipush 11, 2) := by decide +kernel
theorem dX12_pushed_214 : decode cX12_pushed 214 = .ok (.iload_n 1, 1) := by decide +kernel
theorem dX12_pushed_215 : decode cX12_pushed 215 = .ok (.iload_n 2, 1) := by decide +kernel
theorem dX12_pushed_216 : decode cX12_pushed 216 = .ok (.iconst 0, 1) := by decide +kernel
theorem dX12_pushed_217 : decode cX12_pushed 217 = .ok (.invokevirtual 295, 3) := by decide +kernel
theorem dX12_pushed_220 : decode cX12_pushed 220 = .ok (.ireturn, 1) := by decide +kernel
def f_X12_reduced_81 (F P : Nat) (S : xSt) (self_X12_reduced : Nat → Int32 → xDt → Option (Int32 × xDt)) (self_X12_pushed : Nat → Int32 → Int32 → xDt → Option (Int32 × xDt)) (v0 : Nat) (v1 : Int32) (v2 : Int32) (v3 : Int32) (s0 : Int32) (D : xDt) : Option (Int32 × xDt) :=
  if v2 = 14 then ((self_X12_pushed v0 v3 s0 D).bind fun q7 => some (q7.1, q7.2)) else (if v2 = 15 then ((self_X12_pushed v0 v3 s0 D).bind fun q3 => (f_X12_made F P S v0 4 q3.1 (-2) 0 q3.2).bind fun q4 => (f_X12_made F P S v0 11 v3 q4.1 0 q4.2).bind fun q5 => (f_X12_made F P S v0 4 q5.1 (-2) 0 q5.2).bind fun q6 => some (q6.1, q6.2)) else (xgrd (xin v1 (xl S (xr S v0 11))) ((f_X12_made F P S v0 v2 v3 s0 (D.1 (xr S v0 11) (v1).toNatClampNeg) D).bind fun q2 => some (q2.1, q2.2))))
set_option maxHeartbeats 4000000 in
theorem t_X12_reduced_81 {F P : Nat} {S : xSt} (hS : xWF S) {hh : Nat} (hhc : 2 ≤ hh) {self_X12_reduced : Nat → Int32 → xDt → Option (Int32 × xDt)} (hself_X12_reduced : ∀ {v0 : Nat} {v1 : Int32} {D : xDt} {r : Int32 × xDt}, xK S v0 12 → self_X12_reduced v0 v1 D = some r → xSp md_X12_reduced (hh, 0, 0) [.ref v0, .int v1] (S, D) (xQi S r)) {self_X12_pushed : Nat → Int32 → Int32 → xDt → Option (Int32 × xDt)} (hself_X12_pushed : ∀ {v0 : Nat} {v1 : Int32} {v2 : Int32} {D : xDt} {r : Int32 × xDt}, xK S v0 12 → self_X12_pushed v0 v1 v2 D = some r → xSp md_X12_pushed (hh, 0, 0) [.ref v0, .int v1, .int v2] (S, D) (xQi S r)) {v0 : Nat} {v1 : Int32} {v2 : Int32} {v3 : Int32} {s0 : Int32} {D : xDt} {r : Int32 × xDt} (k0 : xK S v0 12) (h : f_X12_reduced_81 F P S self_X12_reduced self_X12_pushed v0 v1 v2 v3 s0 D = some r) : yEx md_X12_reduced (hh + 1) 81 [(0, .ref v0), (1, .int v1), (2, .int v2), (3, .int v3)] [.int s0] S D (xQi S r) := by
  unfold f_X12_reduced_81 at h
  refine y_istore s0 rfl [(4, .int s0), (0, .ref v0), (1, .int v1), (2, .int v2), (3, .int v3)] dX12_reduced_81 (by show _ < 5; decide) rfl ?_
  refine x_iload_n dX12_reduced_83 3 rfl ?_
  refine x_bipush 14 dX12_reduced_84 (by decide) ?_
  refine x_icmp_ne 97 dX12_reduced_86 (by decide) (fun c => ?_) (fun c => ?_)
  · rw [if_neg c] at h
    refine x_iload_n dX12_reduced_97 3 rfl ?_
    refine x_bipush 15 dX12_reduced_98 (by decide) ?_
    refine x_icmp_ne 135 dX12_reduced_100 (by decide) (fun c => ?_) (fun c => ?_)
    · rw [if_neg c] at h
      refine x_aload_n dX12_reduced_135 1 rfl ?_
      refine x_iload_n dX12_reduced_136 3 rfl ?_
      refine x_iload_n dX12_reduced_137 4 rfl ?_
      refine x_iload dX12_reduced_138 0 rfl ?_
      refine x_aload_n dX12_reduced_140 1 rfl ?_
      refine y_getr (kd := 100) hS fl_RX12_81 dX12_reduced_141 rfl k0 ?_
      refine x_iload_n dX12_reduced_144 2 rfl ?_
      refine xgrd_e h (fun g1 h => ?_)
      refine y_iald dX12_reduced_145 ((hS.f k0 11 100 rfl).2) g1 ?_
      refine xbnd_e h (fun q2 e2 h => ?_)
      refine y_callVi (As := [.int v2, .int v3, .int s0, .int (D.1 (xr S v0 11) (v1).toNatClampNeg)]) (q := q2) cv_RX12_295 dX12_reduced_146 k0 rfl (Nat.le_of_ble_eq_true rfl) (by omega) (S_X12_made hS k0 e2) ?_
      obtain rfl := Option.some.inj h
      exact y_iret rfl dX12_reduced_149
    · rw [if_pos c] at h
      refine x_aload_n dX12_reduced_103 1 rfl ?_
      refine x_iconst 4 dX12_reduced_104 (by decide) ?_
      refine x_aload_n dX12_reduced_105 1 rfl ?_
      refine x_bipush 11 dX12_reduced_106 (by decide) ?_
      refine x_iload_n dX12_reduced_108 4 rfl ?_
      refine x_aload_n dX12_reduced_109 1 rfl ?_
      refine x_iconst 4 dX12_reduced_110 (by decide) ?_
      refine x_aload_n dX12_reduced_111 1 rfl ?_
      refine x_iload_n dX12_reduced_112 4 rfl ?_
      refine x_iload dX12_reduced_113 0 rfl ?_
      refine xbnd_e h (fun q3 e3 h => ?_)
      refine y_callVi (As := [.int v3, .int s0]) (q := q3) cv_RX12_301 dX12_reduced_115 k0 rfl (Nat.le_of_ble_eq_true rfl) (by omega) (hself_X12_pushed k0 e3) ?_
      refine x_bipush (-2) dX12_reduced_118 (by decide) ?_
      refine x_iconst 0 dX12_reduced_120 (by decide) ?_
      refine xbnd_e h (fun q4 e4 h => ?_)
      refine y_callVi (As := [.int 4, .int q3.1, .int (-2), .int 0]) (q := q4) cv_RX12_295 dX12_reduced_121 k0 rfl (Nat.le_of_ble_eq_true rfl) (by omega) (S_X12_made hS k0 e4) ?_
      refine x_iconst 0 dX12_reduced_124 (by decide) ?_
      refine xbnd_e h (fun q5 e5 h => ?_)
      refine y_callVi (As := [.int 11, .int v3, .int q4.1, .int 0]) (q := q5) cv_RX12_295 dX12_reduced_125 k0 rfl (Nat.le_of_ble_eq_true rfl) (by omega) (S_X12_made hS k0 e5) ?_
      refine x_bipush (-2) dX12_reduced_128 (by decide) ?_
      refine x_iconst 0 dX12_reduced_130 (by decide) ?_
      refine xbnd_e h (fun q6 e6 h => ?_)
      refine y_callVi (As := [.int 4, .int q5.1, .int (-2), .int 0]) (q := q6) cv_RX12_295 dX12_reduced_131 k0 rfl (Nat.le_of_ble_eq_true rfl) (by omega) (S_X12_made hS k0 e6) ?_
      obtain rfl := Option.some.inj h
      exact y_iret rfl dX12_reduced_134
  · rw [if_pos c] at h
    refine x_aload_n dX12_reduced_89 1 rfl ?_
    refine x_iload_n dX12_reduced_90 4 rfl ?_
    refine x_iload dX12_reduced_91 0 rfl ?_
    refine xbnd_e h (fun q7 e7 h => ?_)
    refine y_callVi (As := [.int v3, .int s0]) (q := q7) cv_RX12_301 dX12_reduced_93 k0 rfl (Nat.le_of_ble_eq_true rfl) (by omega) (hself_X12_pushed k0 e7) ?_
    obtain rfl := Option.some.inj h
    exact y_iret rfl dX12_reduced_96

def f_X12_reduced_66 (F P : Nat) (S : xSt) (self_X12_reduced : Nat → Int32 → xDt → Option (Int32 × xDt)) (self_X12_pushed : Nat → Int32 → Int32 → xDt → Option (Int32 × xDt)) (v0 : Nat) (v1 : Int32) (v2 : Int32) (v3 : Int32) (D : xDt) : Option (Int32 × xDt) :=
  f_X12_reduced_81 F P S self_X12_reduced self_X12_pushed v0 v1 v2 v3 (-2) D
set_option maxHeartbeats 4000000 in
theorem t_X12_reduced_66 {F P : Nat} {S : xSt} (hS : xWF S) {hh : Nat} (hhc : 2 ≤ hh) {self_X12_reduced : Nat → Int32 → xDt → Option (Int32 × xDt)} (hself_X12_reduced : ∀ {v0 : Nat} {v1 : Int32} {D : xDt} {r : Int32 × xDt}, xK S v0 12 → self_X12_reduced v0 v1 D = some r → xSp md_X12_reduced (hh, 0, 0) [.ref v0, .int v1] (S, D) (xQi S r)) {self_X12_pushed : Nat → Int32 → Int32 → xDt → Option (Int32 × xDt)} (hself_X12_pushed : ∀ {v0 : Nat} {v1 : Int32} {v2 : Int32} {D : xDt} {r : Int32 × xDt}, xK S v0 12 → self_X12_pushed v0 v1 v2 D = some r → xSp md_X12_pushed (hh, 0, 0) [.ref v0, .int v1, .int v2] (S, D) (xQi S r)) {v0 : Nat} {v1 : Int32} {v2 : Int32} {v3 : Int32} {D : xDt} {r : Int32 × xDt} (k0 : xK S v0 12) (h : f_X12_reduced_66 F P S self_X12_reduced self_X12_pushed v0 v1 v2 v3 D = some r) : yEx md_X12_reduced (hh + 1) 66 [(0, .ref v0), (1, .int v1), (2, .int v2), (3, .int v3)] [] S D (xQi S r) := by
  unfold f_X12_reduced_66 at h
  refine x_bipush (-2) dX12_reduced_66 (by decide) ?_
  refine x_goto 81 dX12_reduced_68 (by decide) ?_
  exact t_X12_reduced_81 hS hhc hself_X12_reduced hself_X12_pushed k0 h

def f_X12_reduced_o (F P : Nat) (S : xSt) (self_X12_reduced : Nat → Int32 → xDt → Option (Int32 × xDt)) (self_X12_pushed : Nat → Int32 → Int32 → xDt → Option (Int32 × xDt)) (v0 : Nat) (v1 : Int32) (D : xDt) : Option (Int32 × xDt) :=
  if (D.1 v0 36) = 0 then (xgrd (xin v1 (xl S (xr S v0 8))) (xlet (D.1 (xr S v0 8) (v1).toNatClampNeg) fun v2_2 => if 4 ≤ v2_2 then (xgrd (xin v1 (xl S (xr S v0 9))) ((self_X12_reduced v0 (D.1 (xr S v0 9) (v1).toNatClampNeg) D).bind fun q4 => xgrd (xin v1 (xl S (xr S v0 10))) (if (q4.2.1 (xr S v0 10) (v1).toNatClampNeg) < 0 then (f_X12_reduced_66 F P S self_X12_reduced self_X12_pushed v0 v1 v2_2 q4.1 q4.2) else (if (q4.2.1 v0 36) = 0 then (xgrd (xin v1 (xl S (xr S v0 10))) ((self_X12_reduced v0 (q4.2.1 (xr S v0 10) (v1).toNatClampNeg) q4.2).bind fun q7 => f_X12_reduced_81 F P S self_X12_reduced self_X12_pushed v0 v1 v2_2 q4.1 q7.1 q7.2)) else (f_X12_reduced_66 F P S self_X12_reduced self_X12_pushed v0 v1 v2_2 q4.1 q4.2))))) else (xgrd (xin v1 (xl S (xr S v0 11))) ((f_X12_made F P S v0 v2_2 (-2) (-2) (D.1 (xr S v0 11) (v1).toNatClampNeg) D).bind fun q9 => some (q9.1, q9.2))))) else (some (12800, D))
set_option maxHeartbeats 4000000 in
theorem S_X12_reduced_o {F P : Nat} {S : xSt} (hS : xWF S) {hh : Nat} (hhc : 2 ≤ hh) {self_X12_reduced : Nat → Int32 → xDt → Option (Int32 × xDt)} (hself_X12_reduced : ∀ {v0 : Nat} {v1 : Int32} {D : xDt} {r : Int32 × xDt}, xK S v0 12 → self_X12_reduced v0 v1 D = some r → xSp md_X12_reduced (hh, 0, 0) [.ref v0, .int v1] (S, D) (xQi S r)) {self_X12_pushed : Nat → Int32 → Int32 → xDt → Option (Int32 × xDt)} (hself_X12_pushed : ∀ {v0 : Nat} {v1 : Int32} {v2 : Int32} {D : xDt} {r : Int32 × xDt}, xK S v0 12 → self_X12_pushed v0 v1 v2 D = some r → xSp md_X12_pushed (hh, 0, 0) [.ref v0, .int v1, .int v2] (S, D) (xQi S r)) {v0 : Nat} {v1 : Int32} {D : xDt} {r : Int32 × xDt} (k0 : xK S v0 12) (h : f_X12_reduced_o F P S self_X12_reduced self_X12_pushed v0 v1 D = some r) : xSp md_X12_reduced ((hh + 1), 0, 0) [.ref v0, .int v1] (S, D) (xQi S r) := by
  unfold f_X12_reduced_o at h
  refine xEntry (by decide) (Nat.le_of_ble_eq_true rfl) ?_
  refine x_lv (lv' := [(0, .ref v0), (1, .int v1)]) [0, 1] rfl ?_
  refine x_aload_n dX12_reduced_0 0 rfl ?_
  refine y_geti fl_RX12_291 dX12_reduced_1 rfl k0 ?_
  refine x_if_eq 11 dX12_reduced_4 (by decide) (fun c => ?_) (fun c => ?_)
  · rw [if_pos c] at h
    refine x_aload_n dX12_reduced_11 0 rfl ?_
    refine y_getr (kd := 100) hS fl_RX12_72 dX12_reduced_12 rfl k0 ?_
    refine x_iload_n dX12_reduced_15 1 rfl ?_
    refine xgrd_e h (fun g1 h => ?_)
    refine y_iald dX12_reduced_16 ((hS.f k0 8 100 rfl).2) g1 ?_
    refine xlet_e h (fun v2_2 ev2_2 h => ?_)
    refine y_istore_n v2_2 ev2_2 [(2, .int v2_2), (0, .ref v0), (1, .int v1)] dX12_reduced_17 (by show _ < 5; decide) rfl ?_
    refine x_iload_n dX12_reduced_18 0 rfl ?_
    refine x_iconst 4 dX12_reduced_19 (by decide) ?_
    refine x_icmp_ge 39 dX12_reduced_20 (by decide) (fun c => ?_) (fun c => ?_)
    · rw [if_pos c] at h
      refine x_aload_n dX12_reduced_39 1 rfl ?_
      refine x_aload_n dX12_reduced_40 1 rfl ?_
      refine y_getr (kd := 100) hS fl_RX12_75 dX12_reduced_41 rfl k0 ?_
      refine x_iload_n dX12_reduced_44 2 rfl ?_
      refine xgrd_e h (fun g3 h => ?_)
      refine y_iald dX12_reduced_45 ((hS.f k0 9 100 rfl).2) g3 ?_
      refine xbnd_e h (fun q4 e4 h => ?_)
      refine y_callVi (As := [.int (D.1 (xr S v0 9) (v1).toNatClampNeg)]) (q := q4) cv_RX12_298 dX12_reduced_46 k0 rfl (Nat.le_of_ble_eq_true rfl) (by omega) (hself_X12_reduced k0 e4) ?_
      refine y_istore_n q4.1 rfl [(3, .int q4.1), (2, .int v2_2), (0, .ref v0), (1, .int v1)] dX12_reduced_49 (by show _ < 5; decide) rfl ?_
      refine x_aload_n dX12_reduced_50 2 rfl ?_
      refine y_getr (kd := 100) hS fl_RX12_78 dX12_reduced_51 rfl k0 ?_
      refine x_iload_n dX12_reduced_54 3 rfl ?_
      refine xgrd_e h (fun g5 h => ?_)
      refine y_iald dX12_reduced_55 ((hS.f k0 10 100 rfl).2) g5 ?_
      refine x_if_lt 66 dX12_reduced_56 (by decide) (fun c => ?_) (fun c => ?_)
      · rw [if_pos c] at h
        refine x_lv (lv' := [(0, .ref v0), (1, .int v1), (2, .int v2_2), (3, .int q4.1)]) [2, 3, 1, 0] rfl ?_
        exact t_X12_reduced_66 hS hhc hself_X12_reduced hself_X12_pushed k0 h
      · rw [if_neg c] at h
        refine x_aload_n dX12_reduced_59 2 rfl ?_
        refine y_geti fl_RX12_291 dX12_reduced_60 rfl k0 ?_
        refine x_if_eq 71 dX12_reduced_63 (by decide) (fun c => ?_) (fun c => ?_)
        · rw [if_pos c] at h
          refine x_aload_n dX12_reduced_71 2 rfl ?_
          refine x_aload_n dX12_reduced_72 2 rfl ?_
          refine y_getr (kd := 100) hS fl_RX12_78 dX12_reduced_73 rfl k0 ?_
          refine x_iload_n dX12_reduced_76 3 rfl ?_
          refine xgrd_e h (fun g6 h => ?_)
          refine y_iald dX12_reduced_77 ((hS.f k0 10 100 rfl).2) g6 ?_
          refine xbnd_e h (fun q7 e7 h => ?_)
          refine y_callVi (As := [.int (q4.2.1 (xr S v0 10) (v1).toNatClampNeg)]) (q := q7) cv_RX12_298 dX12_reduced_78 k0 rfl (Nat.le_of_ble_eq_true rfl) (by omega) (hself_X12_reduced k0 e7) ?_
          refine x_lv (lv' := [(0, .ref v0), (1, .int v1), (2, .int v2_2), (3, .int q4.1)]) [2, 3, 1, 0] rfl ?_
          exact t_X12_reduced_81 hS hhc hself_X12_reduced hself_X12_pushed k0 h
        · rw [if_neg c] at h
          refine x_lv (lv' := [(0, .ref v0), (1, .int v1), (2, .int v2_2), (3, .int q4.1)]) [2, 3, 1, 0] rfl ?_
          exact t_X12_reduced_66 hS hhc hself_X12_reduced hself_X12_pushed k0 h
    · rw [if_neg c] at h
      refine x_aload_n dX12_reduced_23 1 rfl ?_
      refine x_iload_n dX12_reduced_24 0 rfl ?_
      refine x_bipush (-2) dX12_reduced_25 (by decide) ?_
      refine x_bipush (-2) dX12_reduced_27 (by decide) ?_
      refine x_aload_n dX12_reduced_29 1 rfl ?_
      refine y_getr (kd := 100) hS fl_RX12_81 dX12_reduced_30 rfl k0 ?_
      refine x_iload_n dX12_reduced_33 2 rfl ?_
      refine xgrd_e h (fun g8 h => ?_)
      refine y_iald dX12_reduced_34 ((hS.f k0 11 100 rfl).2) g8 ?_
      refine xbnd_e h (fun q9 e9 h => ?_)
      refine y_callVi (As := [.int v2_2, .int (-2), .int (-2), .int (D.1 (xr S v0 11) (v1).toNatClampNeg)]) (q := q9) cv_RX12_295 dX12_reduced_35 k0 rfl (Nat.le_of_ble_eq_true rfl) (by omega) (S_X12_made hS k0 e9) ?_
      obtain rfl := Option.some.inj h
      exact y_iret rfl dX12_reduced_38
  · rw [if_neg c] at h
    refine x_sipush 12800 dX12_reduced_7 (by decide) ?_
    obtain rfl := Option.some.inj h
    exact y_iret rfl dX12_reduced_10

def f_X12_pushed_o (F P : Nat) (S : xSt) (self_X12_pushed : Nat → Int32 → Int32 → xDt → Option (Int32 × xDt)) (v0 : Nat) (v1 : Int32) (v2 : Int32) (D : xDt) : Option (Int32 × xDt) :=
  if (D.1 v0 36) = 0 then (xgrd (xin v2 (xl S (xr S v0 8))) (if (D.1 (xr S v0 8) (v2).toNatClampNeg) = 4 then (xgrd (xin v2 (xl S (xr S v0 9))) ((self_X12_pushed v0 v1 (D.1 (xr S v0 9) (v2).toNatClampNeg) D).bind fun q3 => (f_X12_made F P S v0 4 q3.1 (-2) 0 q3.2).bind fun q4 => (f_X12_made F P S v0 11 v1 q4.1 0 q4.2).bind fun q5 => some (q5.1, q5.2))) else (if (D.1 (xr S v0 8) (v2).toNatClampNeg) = 5 then (xgrd (xin v2 (xl S (xr S v0 9))) ((self_X12_pushed v0 v1 (D.1 (xr S v0 9) (v2).toNatClampNeg) D).bind fun q7 => xgrd (xin v2 (xl S (xr S v0 11))) ((f_X12_made F P S v0 5 q7.1 (-2) (q7.2.1 (xr S v0 11) (v2).toNatClampNeg) q7.2).bind fun q9 => (f_X12_made F P S v0 11 v1 q9.1 0 q9.2).bind fun q10 => some (q10.1, q10.2)))) else (if (D.1 (xr S v0 8) (v2).toNatClampNeg) = 6 then (xgrd (xin v2 (xl S (xr S v0 9))) ((self_X12_pushed v0 v1 (D.1 (xr S v0 9) (v2).toNatClampNeg) D).bind fun q12 => (f_X12_made F P S v0 13 v1 q12.1 0 q12.2).bind fun q13 => xgrd (xin v2 (xl S (xr S v0 11))) ((f_X12_made F P S v0 6 q13.1 (-2) (q13.2.1 (xr S v0 11) (v2).toNatClampNeg) q13.2).bind fun q15 => (f_X12_made F P S v0 11 v1 q15.1 0 q15.2).bind fun q16 => some (q16.1, q16.2)))) else (if (D.1 (xr S v0 8) (v2).toNatClampNeg) = 7 then ((f_X12_made F P S v0 11 v1 v2 0 D).bind fun q17 => some (q17.1, q17.2)) else (if (D.1 (xr S v0 8) (v2).toNatClampNeg) = 8 then ((f_X12_made F P S v0 11 v1 v2 0 D).bind fun q18 => some (q18.1, q18.2)) else (if (D.1 (xr S v0 8) (v2).toNatClampNeg) = 9 then ((f_X12_made F P S v0 11 v1 v2 0 D).bind fun q19 => some (q19.1, q19.2)) else (if (D.1 (xr S v0 8) (v2).toNatClampNeg) = 10 then (xgrd (xin v2 (xl S (xr S v0 9))) ((self_X12_pushed v0 v1 (D.1 (xr S v0 9) (v2).toNatClampNeg) D).bind fun q21 => xgrd (xin v2 (xl S (xr S v0 8))) (xgrd (xin v2 (xl S (xr S v0 10))) ((self_X12_pushed v0 v1 (q21.2.1 (xr S v0 10) (v2).toNatClampNeg) q21.2).bind fun q24 => (f_X12_made F P S v0 (q21.2.1 (xr S v0 8) (v2).toNatClampNeg) q21.1 q24.1 0 q24.2).bind fun q25 => some (q25.1, q25.2))))) else (if (D.1 (xr S v0 8) (v2).toNatClampNeg) = 11 then (xgrd (xin v2 (xl S (xr S v0 9))) ((self_X12_pushed v0 v1 (D.1 (xr S v0 9) (v2).toNatClampNeg) D).bind fun q27 => xgrd (xin v2 (xl S (xr S v0 8))) (xgrd (xin v2 (xl S (xr S v0 10))) ((self_X12_pushed v0 v1 (q27.2.1 (xr S v0 10) (v2).toNatClampNeg) q27.2).bind fun q30 => (f_X12_made F P S v0 (q27.2.1 (xr S v0 8) (v2).toNatClampNeg) q27.1 q30.1 0 q30.2).bind fun q31 => some (q31.1, q31.2))))) else (if (D.1 (xr S v0 8) (v2).toNatClampNeg) = 12 then (xgrd (xin v2 (xl S (xr S v0 9))) ((self_X12_pushed v0 v1 (D.1 (xr S v0 9) (v2).toNatClampNeg) D).bind fun q33 => xgrd (xin v2 (xl S (xr S v0 8))) (xgrd (xin v2 (xl S (xr S v0 10))) ((self_X12_pushed v0 v1 (q33.2.1 (xr S v0 10) (v2).toNatClampNeg) q33.2).bind fun q36 => (f_X12_made F P S v0 (q33.2.1 (xr S v0 8) (v2).toNatClampNeg) q33.1 q36.1 0 q36.2).bind fun q37 => some (q37.1, q37.2))))) else (if (D.1 (xr S v0 8) (v2).toNatClampNeg) = 13 then (xgrd (xin v2 (xl S (xr S v0 9))) ((self_X12_pushed v0 v1 (D.1 (xr S v0 9) (v2).toNatClampNeg) D).bind fun q39 => xgrd (xin v2 (xl S (xr S v0 8))) (xgrd (xin v2 (xl S (xr S v0 10))) ((self_X12_pushed v0 v1 (q39.2.1 (xr S v0 10) (v2).toNatClampNeg) q39.2).bind fun q42 => (f_X12_made F P S v0 (q39.2.1 (xr S v0 8) (v2).toNatClampNeg) q39.1 q42.1 0 q42.2).bind fun q43 => some (q43.1, q43.2))))) else ((f_X12_made F P S v0 11 v1 v2 0 D).bind fun q44 => some (q44.1, q44.2))))))))))))) else (some (12800, D))
set_option maxHeartbeats 4000000 in
theorem S_X12_pushed_o {F P : Nat} {S : xSt} (hS : xWF S) {hh : Nat} (hhc : 2 ≤ hh) {self_X12_pushed : Nat → Int32 → Int32 → xDt → Option (Int32 × xDt)} (hself_X12_pushed : ∀ {v0 : Nat} {v1 : Int32} {v2 : Int32} {D : xDt} {r : Int32 × xDt}, xK S v0 12 → self_X12_pushed v0 v1 v2 D = some r → xSp md_X12_pushed (hh, 0, 0) [.ref v0, .int v1, .int v2] (S, D) (xQi S r)) {v0 : Nat} {v1 : Int32} {v2 : Int32} {D : xDt} {r : Int32 × xDt} (k0 : xK S v0 12) (h : f_X12_pushed_o F P S self_X12_pushed v0 v1 v2 D = some r) : xSp md_X12_pushed ((hh + 1), 0, 0) [.ref v0, .int v1, .int v2] (S, D) (xQi S r) := by
  unfold f_X12_pushed_o at h
  refine xEntry (by decide) (Nat.le_of_ble_eq_true rfl) ?_
  refine x_lv (lv' := [(0, .ref v0), (1, .int v1), (2, .int v2)]) [0, 1, 2] rfl ?_
  refine x_aload_n dX12_pushed_0 0 rfl ?_
  refine y_geti fl_RX12_291 dX12_pushed_1 rfl k0 ?_
  refine x_if_eq 11 dX12_pushed_4 (by decide) (fun c => ?_) (fun c => ?_)
  · rw [if_pos c] at h
    refine x_aload_n dX12_pushed_11 0 rfl ?_
    refine y_getr (kd := 100) hS fl_RX12_72 dX12_pushed_12 rfl k0 ?_
    refine x_iload_n dX12_pushed_15 2 rfl ?_
    refine xgrd_e h (fun g1 h => ?_)
    refine y_iald dX12_pushed_16 ((hS.f k0 8 100 rfl).2) g1 ?_
    by_cases c0 : (D.1 (xr S v0 8) (v2).toNatClampNeg) = 4
    · rw [if_pos c0] at h
      refine x_tsIn 4 72 c0 dX12_pushed_17 (by decide) (by decide) rfl (by decide) ?_
      refine x_aload_n dX12_pushed_72 0 rfl ?_
      refine x_bipush 11 dX12_pushed_73 (by decide) ?_
      refine x_iload_n dX12_pushed_75 1 rfl ?_
      refine x_aload_n dX12_pushed_76 0 rfl ?_
      refine x_iconst 4 dX12_pushed_77 (by decide) ?_
      refine x_aload_n dX12_pushed_78 0 rfl ?_
      refine x_iload_n dX12_pushed_79 1 rfl ?_
      refine x_aload_n dX12_pushed_80 0 rfl ?_
      refine y_getr (kd := 100) hS fl_RX12_75 dX12_pushed_81 rfl k0 ?_
      refine x_iload_n dX12_pushed_84 2 rfl ?_
      refine xgrd_e h (fun g2 h => ?_)
      refine y_iald dX12_pushed_85 ((hS.f k0 9 100 rfl).2) g2 ?_
      refine xbnd_e h (fun q3 e3 h => ?_)
      refine y_callVi (As := [.int v1, .int (D.1 (xr S v0 9) (v2).toNatClampNeg)]) (q := q3) cv_RX12_301 dX12_pushed_86 k0 rfl (Nat.le_of_ble_eq_true rfl) (by omega) (hself_X12_pushed k0 e3) ?_
      refine x_bipush (-2) dX12_pushed_89 (by decide) ?_
      refine x_iconst 0 dX12_pushed_91 (by decide) ?_
      refine xbnd_e h (fun q4 e4 h => ?_)
      refine y_callVi (As := [.int 4, .int q3.1, .int (-2), .int 0]) (q := q4) cv_RX12_295 dX12_pushed_92 k0 rfl (Nat.le_of_ble_eq_true rfl) (by omega) (S_X12_made hS k0 e4) ?_
      refine x_iconst 0 dX12_pushed_95 (by decide) ?_
      refine xbnd_e h (fun q5 e5 h => ?_)
      refine y_callVi (As := [.int 11, .int v1, .int q4.1, .int 0]) (q := q5) cv_RX12_295 dX12_pushed_96 k0 rfl (Nat.le_of_ble_eq_true rfl) (by omega) (S_X12_made hS k0 e5) ?_
      obtain rfl := Option.some.inj h
      exact y_iret rfl dX12_pushed_99
    · rw [if_neg c0] at h
      by_cases c1 : (D.1 (xr S v0 8) (v2).toNatClampNeg) = 5
      · rw [if_pos c1] at h
        refine x_tsIn 5 100 c1 dX12_pushed_17 (by decide) (by decide) rfl (by decide) ?_
        refine x_aload_n dX12_pushed_100 0 rfl ?_
        refine x_bipush 11 dX12_pushed_101 (by decide) ?_
        refine x_iload_n dX12_pushed_103 1 rfl ?_
        refine x_aload_n dX12_pushed_104 0 rfl ?_
        refine x_iconst 5 dX12_pushed_105 (by decide) ?_
        refine x_aload_n dX12_pushed_106 0 rfl ?_
        refine x_iload_n dX12_pushed_107 1 rfl ?_
        refine x_aload_n dX12_pushed_108 0 rfl ?_
        refine y_getr (kd := 100) hS fl_RX12_75 dX12_pushed_109 rfl k0 ?_
        refine x_iload_n dX12_pushed_112 2 rfl ?_
        refine xgrd_e h (fun g6 h => ?_)
        refine y_iald dX12_pushed_113 ((hS.f k0 9 100 rfl).2) g6 ?_
        refine xbnd_e h (fun q7 e7 h => ?_)
        refine y_callVi (As := [.int v1, .int (D.1 (xr S v0 9) (v2).toNatClampNeg)]) (q := q7) cv_RX12_301 dX12_pushed_114 k0 rfl (Nat.le_of_ble_eq_true rfl) (by omega) (hself_X12_pushed k0 e7) ?_
        refine x_bipush (-2) dX12_pushed_117 (by decide) ?_
        refine x_aload_n dX12_pushed_119 0 rfl ?_
        refine y_getr (kd := 100) hS fl_RX12_81 dX12_pushed_120 rfl k0 ?_
        refine x_iload_n dX12_pushed_123 2 rfl ?_
        refine xgrd_e h (fun g8 h => ?_)
        refine y_iald dX12_pushed_124 ((hS.f k0 11 100 rfl).2) g8 ?_
        refine xbnd_e h (fun q9 e9 h => ?_)
        refine y_callVi (As := [.int 5, .int q7.1, .int (-2), .int (q7.2.1 (xr S v0 11) (v2).toNatClampNeg)]) (q := q9) cv_RX12_295 dX12_pushed_125 k0 rfl (Nat.le_of_ble_eq_true rfl) (by omega) (S_X12_made hS k0 e9) ?_
        refine x_iconst 0 dX12_pushed_128 (by decide) ?_
        refine xbnd_e h (fun q10 e10 h => ?_)
        refine y_callVi (As := [.int 11, .int v1, .int q9.1, .int 0]) (q := q10) cv_RX12_295 dX12_pushed_129 k0 rfl (Nat.le_of_ble_eq_true rfl) (by omega) (S_X12_made hS k0 e10) ?_
        obtain rfl := Option.some.inj h
        exact y_iret rfl dX12_pushed_132
      · rw [if_neg c1] at h
        by_cases c2 : (D.1 (xr S v0 8) (v2).toNatClampNeg) = 6
        · rw [if_pos c2] at h
          refine x_tsIn 6 133 c2 dX12_pushed_17 (by decide) (by decide) rfl (by decide) ?_
          refine x_aload_n dX12_pushed_133 0 rfl ?_
          refine x_bipush 11 dX12_pushed_134 (by decide) ?_
          refine x_iload_n dX12_pushed_136 1 rfl ?_
          refine x_aload_n dX12_pushed_137 0 rfl ?_
          refine x_bipush 6 dX12_pushed_138 (by decide) ?_
          refine x_aload_n dX12_pushed_140 0 rfl ?_
          refine x_bipush 13 dX12_pushed_141 (by decide) ?_
          refine x_iload_n dX12_pushed_143 1 rfl ?_
          refine x_aload_n dX12_pushed_144 0 rfl ?_
          refine x_iload_n dX12_pushed_145 1 rfl ?_
          refine x_aload_n dX12_pushed_146 0 rfl ?_
          refine y_getr (kd := 100) hS fl_RX12_75 dX12_pushed_147 rfl k0 ?_
          refine x_iload_n dX12_pushed_150 2 rfl ?_
          refine xgrd_e h (fun g11 h => ?_)
          refine y_iald dX12_pushed_151 ((hS.f k0 9 100 rfl).2) g11 ?_
          refine xbnd_e h (fun q12 e12 h => ?_)
          refine y_callVi (As := [.int v1, .int (D.1 (xr S v0 9) (v2).toNatClampNeg)]) (q := q12) cv_RX12_301 dX12_pushed_152 k0 rfl (Nat.le_of_ble_eq_true rfl) (by omega) (hself_X12_pushed k0 e12) ?_
          refine x_iconst 0 dX12_pushed_155 (by decide) ?_
          refine xbnd_e h (fun q13 e13 h => ?_)
          refine y_callVi (As := [.int 13, .int v1, .int q12.1, .int 0]) (q := q13) cv_RX12_295 dX12_pushed_156 k0 rfl (Nat.le_of_ble_eq_true rfl) (by omega) (S_X12_made hS k0 e13) ?_
          refine x_bipush (-2) dX12_pushed_159 (by decide) ?_
          refine x_aload_n dX12_pushed_161 0 rfl ?_
          refine y_getr (kd := 100) hS fl_RX12_81 dX12_pushed_162 rfl k0 ?_
          refine x_iload_n dX12_pushed_165 2 rfl ?_
          refine xgrd_e h (fun g14 h => ?_)
          refine y_iald dX12_pushed_166 ((hS.f k0 11 100 rfl).2) g14 ?_
          refine xbnd_e h (fun q15 e15 h => ?_)
          refine y_callVi (As := [.int 6, .int q13.1, .int (-2), .int (q13.2.1 (xr S v0 11) (v2).toNatClampNeg)]) (q := q15) cv_RX12_295 dX12_pushed_167 k0 rfl (Nat.le_of_ble_eq_true rfl) (by omega) (S_X12_made hS k0 e15) ?_
          refine x_iconst 0 dX12_pushed_170 (by decide) ?_
          refine xbnd_e h (fun q16 e16 h => ?_)
          refine y_callVi (As := [.int 11, .int v1, .int q15.1, .int 0]) (q := q16) cv_RX12_295 dX12_pushed_171 k0 rfl (Nat.le_of_ble_eq_true rfl) (by omega) (S_X12_made hS k0 e16) ?_
          obtain rfl := Option.some.inj h
          exact y_iret rfl dX12_pushed_174
        · rw [if_neg c2] at h
          by_cases c3 : (D.1 (xr S v0 8) (v2).toNatClampNeg) = 7
          · rw [if_pos c3] at h
            refine x_tsIn 7 211 c3 dX12_pushed_17 (by decide) (by decide) rfl (by decide) ?_
            refine x_aload_n dX12_pushed_211 0 rfl ?_
            refine x_bipush 11 dX12_pushed_212 (by decide) ?_
            refine x_iload_n dX12_pushed_214 1 rfl ?_
            refine x_iload_n dX12_pushed_215 2 rfl ?_
            refine x_iconst 0 dX12_pushed_216 (by decide) ?_
            refine xbnd_e h (fun q17 e17 h => ?_)
            refine y_callVi (As := [.int 11, .int v1, .int v2, .int 0]) (q := q17) cv_RX12_295 dX12_pushed_217 k0 rfl (Nat.le_of_ble_eq_true rfl) (by omega) (S_X12_made hS k0 e17) ?_
            obtain rfl := Option.some.inj h
            exact y_iret rfl dX12_pushed_220
          · rw [if_neg c3] at h
            by_cases c4 : (D.1 (xr S v0 8) (v2).toNatClampNeg) = 8
            · rw [if_pos c4] at h
              refine x_tsIn 8 211 c4 dX12_pushed_17 (by decide) (by decide) rfl (by decide) ?_
              refine x_aload_n dX12_pushed_211 0 rfl ?_
              refine x_bipush 11 dX12_pushed_212 (by decide) ?_
              refine x_iload_n dX12_pushed_214 1 rfl ?_
              refine x_iload_n dX12_pushed_215 2 rfl ?_
              refine x_iconst 0 dX12_pushed_216 (by decide) ?_
              refine xbnd_e h (fun q18 e18 h => ?_)
              refine y_callVi (As := [.int 11, .int v1, .int v2, .int 0]) (q := q18) cv_RX12_295 dX12_pushed_217 k0 rfl (Nat.le_of_ble_eq_true rfl) (by omega) (S_X12_made hS k0 e18) ?_
              obtain rfl := Option.some.inj h
              exact y_iret rfl dX12_pushed_220
            · rw [if_neg c4] at h
              by_cases c5 : (D.1 (xr S v0 8) (v2).toNatClampNeg) = 9
              · rw [if_pos c5] at h
                refine x_tsIn 9 211 c5 dX12_pushed_17 (by decide) (by decide) rfl (by decide) ?_
                refine x_aload_n dX12_pushed_211 0 rfl ?_
                refine x_bipush 11 dX12_pushed_212 (by decide) ?_
                refine x_iload_n dX12_pushed_214 1 rfl ?_
                refine x_iload_n dX12_pushed_215 2 rfl ?_
                refine x_iconst 0 dX12_pushed_216 (by decide) ?_
                refine xbnd_e h (fun q19 e19 h => ?_)
                refine y_callVi (As := [.int 11, .int v1, .int v2, .int 0]) (q := q19) cv_RX12_295 dX12_pushed_217 k0 rfl (Nat.le_of_ble_eq_true rfl) (by omega) (S_X12_made hS k0 e19) ?_
                obtain rfl := Option.some.inj h
                exact y_iret rfl dX12_pushed_220
              · rw [if_neg c5] at h
                by_cases c6 : (D.1 (xr S v0 8) (v2).toNatClampNeg) = 10
                · rw [if_pos c6] at h
                  refine x_tsIn 10 175 c6 dX12_pushed_17 (by decide) (by decide) rfl (by decide) ?_
                  refine x_aload_n dX12_pushed_175 0 rfl ?_
                  refine x_iload_n dX12_pushed_176 1 rfl ?_
                  refine x_aload_n dX12_pushed_177 0 rfl ?_
                  refine y_getr (kd := 100) hS fl_RX12_75 dX12_pushed_178 rfl k0 ?_
                  refine x_iload_n dX12_pushed_181 2 rfl ?_
                  refine xgrd_e h (fun g20 h => ?_)
                  refine y_iald dX12_pushed_182 ((hS.f k0 9 100 rfl).2) g20 ?_
                  refine xbnd_e h (fun q21 e21 h => ?_)
                  refine y_callVi (As := [.int v1, .int (D.1 (xr S v0 9) (v2).toNatClampNeg)]) (q := q21) cv_RX12_301 dX12_pushed_183 k0 rfl (Nat.le_of_ble_eq_true rfl) (by omega) (hself_X12_pushed k0 e21) ?_
                  refine y_istore_n q21.1 rfl [(3, .int q21.1), (0, .ref v0), (1, .int v1), (2, .int v2)] dX12_pushed_186 (by show _ < 4; decide) rfl ?_
                  refine x_aload_n dX12_pushed_187 1 rfl ?_
                  refine x_aload_n dX12_pushed_188 1 rfl ?_
                  refine y_getr (kd := 100) hS fl_RX12_72 dX12_pushed_189 rfl k0 ?_
                  refine x_iload_n dX12_pushed_192 3 rfl ?_
                  refine xgrd_e h (fun g22 h => ?_)
                  refine y_iald dX12_pushed_193 ((hS.f k0 8 100 rfl).2) g22 ?_
                  refine x_iload_n dX12_pushed_194 0 rfl ?_
                  refine x_aload_n dX12_pushed_195 1 rfl ?_
                  refine x_iload_n dX12_pushed_196 2 rfl ?_
                  refine x_aload_n dX12_pushed_197 1 rfl ?_
                  refine y_getr (kd := 100) hS fl_RX12_78 dX12_pushed_198 rfl k0 ?_
                  refine x_iload_n dX12_pushed_201 3 rfl ?_
                  refine xgrd_e h (fun g23 h => ?_)
                  refine y_iald dX12_pushed_202 ((hS.f k0 10 100 rfl).2) g23 ?_
                  refine xbnd_e h (fun q24 e24 h => ?_)
                  refine y_callVi (As := [.int v1, .int (q21.2.1 (xr S v0 10) (v2).toNatClampNeg)]) (q := q24) cv_RX12_301 dX12_pushed_203 k0 rfl (Nat.le_of_ble_eq_true rfl) (by omega) (hself_X12_pushed k0 e24) ?_
                  refine x_iconst 0 dX12_pushed_206 (by decide) ?_
                  refine xbnd_e h (fun q25 e25 h => ?_)
                  refine y_callVi (As := [.int (q21.2.1 (xr S v0 8) (v2).toNatClampNeg), .int q21.1, .int q24.1, .int 0]) (q := q25) cv_RX12_295 dX12_pushed_207 k0 rfl (Nat.le_of_ble_eq_true rfl) (by omega) (S_X12_made hS k0 e25) ?_
                  obtain rfl := Option.some.inj h
                  exact y_iret rfl dX12_pushed_210
                · rw [if_neg c6] at h
                  by_cases c7 : (D.1 (xr S v0 8) (v2).toNatClampNeg) = 11
                  · rw [if_pos c7] at h
                    refine x_tsIn 11 175 c7 dX12_pushed_17 (by decide) (by decide) rfl (by decide) ?_
                    refine x_aload_n dX12_pushed_175 0 rfl ?_
                    refine x_iload_n dX12_pushed_176 1 rfl ?_
                    refine x_aload_n dX12_pushed_177 0 rfl ?_
                    refine y_getr (kd := 100) hS fl_RX12_75 dX12_pushed_178 rfl k0 ?_
                    refine x_iload_n dX12_pushed_181 2 rfl ?_
                    refine xgrd_e h (fun g26 h => ?_)
                    refine y_iald dX12_pushed_182 ((hS.f k0 9 100 rfl).2) g26 ?_
                    refine xbnd_e h (fun q27 e27 h => ?_)
                    refine y_callVi (As := [.int v1, .int (D.1 (xr S v0 9) (v2).toNatClampNeg)]) (q := q27) cv_RX12_301 dX12_pushed_183 k0 rfl (Nat.le_of_ble_eq_true rfl) (by omega) (hself_X12_pushed k0 e27) ?_
                    refine y_istore_n q27.1 rfl [(3, .int q27.1), (0, .ref v0), (1, .int v1), (2, .int v2)] dX12_pushed_186 (by show _ < 4; decide) rfl ?_
                    refine x_aload_n dX12_pushed_187 1 rfl ?_
                    refine x_aload_n dX12_pushed_188 1 rfl ?_
                    refine y_getr (kd := 100) hS fl_RX12_72 dX12_pushed_189 rfl k0 ?_
                    refine x_iload_n dX12_pushed_192 3 rfl ?_
                    refine xgrd_e h (fun g28 h => ?_)
                    refine y_iald dX12_pushed_193 ((hS.f k0 8 100 rfl).2) g28 ?_
                    refine x_iload_n dX12_pushed_194 0 rfl ?_
                    refine x_aload_n dX12_pushed_195 1 rfl ?_
                    refine x_iload_n dX12_pushed_196 2 rfl ?_
                    refine x_aload_n dX12_pushed_197 1 rfl ?_
                    refine y_getr (kd := 100) hS fl_RX12_78 dX12_pushed_198 rfl k0 ?_
                    refine x_iload_n dX12_pushed_201 3 rfl ?_
                    refine xgrd_e h (fun g29 h => ?_)
                    refine y_iald dX12_pushed_202 ((hS.f k0 10 100 rfl).2) g29 ?_
                    refine xbnd_e h (fun q30 e30 h => ?_)
                    refine y_callVi (As := [.int v1, .int (q27.2.1 (xr S v0 10) (v2).toNatClampNeg)]) (q := q30) cv_RX12_301 dX12_pushed_203 k0 rfl (Nat.le_of_ble_eq_true rfl) (by omega) (hself_X12_pushed k0 e30) ?_
                    refine x_iconst 0 dX12_pushed_206 (by decide) ?_
                    refine xbnd_e h (fun q31 e31 h => ?_)
                    refine y_callVi (As := [.int (q27.2.1 (xr S v0 8) (v2).toNatClampNeg), .int q27.1, .int q30.1, .int 0]) (q := q31) cv_RX12_295 dX12_pushed_207 k0 rfl (Nat.le_of_ble_eq_true rfl) (by omega) (S_X12_made hS k0 e31) ?_
                    obtain rfl := Option.some.inj h
                    exact y_iret rfl dX12_pushed_210
                  · rw [if_neg c7] at h
                    by_cases c8 : (D.1 (xr S v0 8) (v2).toNatClampNeg) = 12
                    · rw [if_pos c8] at h
                      refine x_tsIn 12 175 c8 dX12_pushed_17 (by decide) (by decide) rfl (by decide) ?_
                      refine x_aload_n dX12_pushed_175 0 rfl ?_
                      refine x_iload_n dX12_pushed_176 1 rfl ?_
                      refine x_aload_n dX12_pushed_177 0 rfl ?_
                      refine y_getr (kd := 100) hS fl_RX12_75 dX12_pushed_178 rfl k0 ?_
                      refine x_iload_n dX12_pushed_181 2 rfl ?_
                      refine xgrd_e h (fun g32 h => ?_)
                      refine y_iald dX12_pushed_182 ((hS.f k0 9 100 rfl).2) g32 ?_
                      refine xbnd_e h (fun q33 e33 h => ?_)
                      refine y_callVi (As := [.int v1, .int (D.1 (xr S v0 9) (v2).toNatClampNeg)]) (q := q33) cv_RX12_301 dX12_pushed_183 k0 rfl (Nat.le_of_ble_eq_true rfl) (by omega) (hself_X12_pushed k0 e33) ?_
                      refine y_istore_n q33.1 rfl [(3, .int q33.1), (0, .ref v0), (1, .int v1), (2, .int v2)] dX12_pushed_186 (by show _ < 4; decide) rfl ?_
                      refine x_aload_n dX12_pushed_187 1 rfl ?_
                      refine x_aload_n dX12_pushed_188 1 rfl ?_
                      refine y_getr (kd := 100) hS fl_RX12_72 dX12_pushed_189 rfl k0 ?_
                      refine x_iload_n dX12_pushed_192 3 rfl ?_
                      refine xgrd_e h (fun g34 h => ?_)
                      refine y_iald dX12_pushed_193 ((hS.f k0 8 100 rfl).2) g34 ?_
                      refine x_iload_n dX12_pushed_194 0 rfl ?_
                      refine x_aload_n dX12_pushed_195 1 rfl ?_
                      refine x_iload_n dX12_pushed_196 2 rfl ?_
                      refine x_aload_n dX12_pushed_197 1 rfl ?_
                      refine y_getr (kd := 100) hS fl_RX12_78 dX12_pushed_198 rfl k0 ?_
                      refine x_iload_n dX12_pushed_201 3 rfl ?_
                      refine xgrd_e h (fun g35 h => ?_)
                      refine y_iald dX12_pushed_202 ((hS.f k0 10 100 rfl).2) g35 ?_
                      refine xbnd_e h (fun q36 e36 h => ?_)
                      refine y_callVi (As := [.int v1, .int (q33.2.1 (xr S v0 10) (v2).toNatClampNeg)]) (q := q36) cv_RX12_301 dX12_pushed_203 k0 rfl (Nat.le_of_ble_eq_true rfl) (by omega) (hself_X12_pushed k0 e36) ?_
                      refine x_iconst 0 dX12_pushed_206 (by decide) ?_
                      refine xbnd_e h (fun q37 e37 h => ?_)
                      refine y_callVi (As := [.int (q33.2.1 (xr S v0 8) (v2).toNatClampNeg), .int q33.1, .int q36.1, .int 0]) (q := q37) cv_RX12_295 dX12_pushed_207 k0 rfl (Nat.le_of_ble_eq_true rfl) (by omega) (S_X12_made hS k0 e37) ?_
                      obtain rfl := Option.some.inj h
                      exact y_iret rfl dX12_pushed_210
                    · rw [if_neg c8] at h
                      by_cases c9 : (D.1 (xr S v0 8) (v2).toNatClampNeg) = 13
                      · rw [if_pos c9] at h
                        refine x_tsIn 13 175 c9 dX12_pushed_17 (by decide) (by decide) rfl (by decide) ?_
                        refine x_aload_n dX12_pushed_175 0 rfl ?_
                        refine x_iload_n dX12_pushed_176 1 rfl ?_
                        refine x_aload_n dX12_pushed_177 0 rfl ?_
                        refine y_getr (kd := 100) hS fl_RX12_75 dX12_pushed_178 rfl k0 ?_
                        refine x_iload_n dX12_pushed_181 2 rfl ?_
                        refine xgrd_e h (fun g38 h => ?_)
                        refine y_iald dX12_pushed_182 ((hS.f k0 9 100 rfl).2) g38 ?_
                        refine xbnd_e h (fun q39 e39 h => ?_)
                        refine y_callVi (As := [.int v1, .int (D.1 (xr S v0 9) (v2).toNatClampNeg)]) (q := q39) cv_RX12_301 dX12_pushed_183 k0 rfl (Nat.le_of_ble_eq_true rfl) (by omega) (hself_X12_pushed k0 e39) ?_
                        refine y_istore_n q39.1 rfl [(3, .int q39.1), (0, .ref v0), (1, .int v1), (2, .int v2)] dX12_pushed_186 (by show _ < 4; decide) rfl ?_
                        refine x_aload_n dX12_pushed_187 1 rfl ?_
                        refine x_aload_n dX12_pushed_188 1 rfl ?_
                        refine y_getr (kd := 100) hS fl_RX12_72 dX12_pushed_189 rfl k0 ?_
                        refine x_iload_n dX12_pushed_192 3 rfl ?_
                        refine xgrd_e h (fun g40 h => ?_)
                        refine y_iald dX12_pushed_193 ((hS.f k0 8 100 rfl).2) g40 ?_
                        refine x_iload_n dX12_pushed_194 0 rfl ?_
                        refine x_aload_n dX12_pushed_195 1 rfl ?_
                        refine x_iload_n dX12_pushed_196 2 rfl ?_
                        refine x_aload_n dX12_pushed_197 1 rfl ?_
                        refine y_getr (kd := 100) hS fl_RX12_78 dX12_pushed_198 rfl k0 ?_
                        refine x_iload_n dX12_pushed_201 3 rfl ?_
                        refine xgrd_e h (fun g41 h => ?_)
                        refine y_iald dX12_pushed_202 ((hS.f k0 10 100 rfl).2) g41 ?_
                        refine xbnd_e h (fun q42 e42 h => ?_)
                        refine y_callVi (As := [.int v1, .int (q39.2.1 (xr S v0 10) (v2).toNatClampNeg)]) (q := q42) cv_RX12_301 dX12_pushed_203 k0 rfl (Nat.le_of_ble_eq_true rfl) (by omega) (hself_X12_pushed k0 e42) ?_
                        refine x_iconst 0 dX12_pushed_206 (by decide) ?_
                        refine xbnd_e h (fun q43 e43 h => ?_)
                        refine y_callVi (As := [.int (q39.2.1 (xr S v0 8) (v2).toNatClampNeg), .int q39.1, .int q42.1, .int 0]) (q := q43) cv_RX12_295 dX12_pushed_207 k0 rfl (Nat.le_of_ble_eq_true rfl) (by omega) (S_X12_made hS k0 e43) ?_
                        obtain rfl := Option.some.inj h
                        exact y_iret rfl dX12_pushed_210
                      · rw [if_neg c9] at h
                        refine x_tsOut 211 dX12_pushed_17 (by have := lv_neT c0 (a := 4) (by decide); have := lv_neT c1 (a := 5) (by decide); have := lv_neT c2 (a := 6) (by decide); have := lv_neT c3 (a := 7) (by decide); have := lv_neT c4 (a := 8) (by decide); have := lv_neT c5 (a := 9) (by decide); have := lv_neT c6 (a := 10) (by decide); have := lv_neT c7 (a := 11) (by decide); have := lv_neT c8 (a := 12) (by decide); have := lv_neT c9 (a := 13) (by decide); omega) (by decide) ?_
                        refine x_aload_n dX12_pushed_211 0 rfl ?_
                        refine x_bipush 11 dX12_pushed_212 (by decide) ?_
                        refine x_iload_n dX12_pushed_214 1 rfl ?_
                        refine x_iload_n dX12_pushed_215 2 rfl ?_
                        refine x_iconst 0 dX12_pushed_216 (by decide) ?_
                        refine xbnd_e h (fun q44 e44 h => ?_)
                        refine y_callVi (As := [.int 11, .int v1, .int v2, .int 0]) (q := q44) cv_RX12_295 dX12_pushed_217 k0 rfl (Nat.le_of_ble_eq_true rfl) (by omega) (S_X12_made hS k0 e44) ?_
                        obtain rfl := Option.some.inj h
                        exact y_iret rfl dX12_pushed_220
  · rw [if_neg c] at h
    refine x_sipush 12800 dX12_pushed_7 (by decide) ?_
    obtain rfl := Option.some.inj h
    exact y_iret rfl dX12_pushed_10

def f_X12_reduced_all (F P : Nat) (S : xSt) : Nat → (Nat → Int32 → xDt → Option (Int32 × xDt)) × (Nat → Int32 → Int32 → xDt → Option (Int32 × xDt))
  | 0 => (fun _ _ _ => none, fun _ _ _ _ => none)
  | n + 1 => (f_X12_reduced_o F P S (f_X12_reduced_all F P S n).1 (f_X12_reduced_all F P S n).2, f_X12_pushed_o F P S (f_X12_reduced_all F P S n).2)
def f_X12_reduced (F P : Nat) (S : xSt) (n : Nat) : Nat → Int32 → xDt → Option (Int32 × xDt) := (f_X12_reduced_all F P S n).1
def f_X12_pushed (F P : Nat) (S : xSt) (n : Nat) : Nat → Int32 → Int32 → xDt → Option (Int32 × xDt) := (f_X12_reduced_all F P S n).2
theorem S_X12_reduced_all {F P : Nat} {S : xSt} (hS : xWF S) : ∀ (n : Nat), (∀ {v0 : Nat} {v1 : Int32} {D : xDt} {r : Int32 × xDt}, xK S v0 12 → f_X12_reduced F P S n v0 v1 D = some r → xSp md_X12_reduced (n + 2, 0, 0) [.ref v0, .int v1] (S, D) (xQi S r)) ∧ (∀ {v0 : Nat} {v1 : Int32} {v2 : Int32} {D : xDt} {r : Int32 × xDt}, xK S v0 12 → f_X12_pushed F P S n v0 v1 v2 D = some r → xSp md_X12_pushed (n + 2, 0, 0) [.ref v0, .int v1, .int v2] (S, D) (xQi S r)) := by
  intro n
  induction n with
  | zero => exact ⟨(by intros; rename_i h; cases h), (by intros; rename_i h; cases h)⟩
  | succ n ih =>
    obtain ⟨ih_X12_reduced, ih_X12_pushed⟩ := ih
    rw [show n + 1 + 2 = n + 2 + 1 by omega]
    exact ⟨fun k0 h => S_X12_reduced_o hS (hh := n + 2) (by omega) (fun k0 h => ih_X12_reduced k0 h) (fun k0 h => ih_X12_pushed k0 h) k0 h, fun k0 h => S_X12_pushed_o hS (hh := n + 2) (by omega) (fun k0 h => ih_X12_pushed k0 h) k0 h⟩
theorem S_X12_reduced {F P : Nat} {S : xSt} (hS : xWF S) (n : Nat) {v0 : Nat} {v1 : Int32} {D : xDt} {r : Int32 × xDt} (k0 : xK S v0 12) (h : f_X12_reduced F P S n v0 v1 D = some r) : xSp md_X12_reduced (n + 2, 0, 0) [.ref v0, .int v1] (S, D) (xQi S r) := (S_X12_reduced_all hS n).1 k0 h
theorem S_X12_pushed {F P : Nat} {S : xSt} (hS : xWF S) (n : Nat) {v0 : Nat} {v1 : Int32} {v2 : Int32} {D : xDt} {r : Int32 × xDt} (k0 : xK S v0 12) (h : f_X12_pushed F P S n v0 v1 v2 D = some r) : xSp md_X12_pushed (n + 2, 0, 0) [.ref v0, .int v1, .int v2] (S, D) (xQi S r) := (S_X12_reduced_all hS n).2 k0 h

theorem dX12_reduce_0 : decode cX12_reduce 0 = .ok (.aload_n 0, 1) := by decide +kernel
theorem dX12_reduce_1 : decode cX12_reduce 1 = .ok (.aload_n 0, 1) := by decide +kernel
theorem dX12_reduce_2 : decode cX12_reduce 2 = .ok (.getfield 160, 3) := by decide +kernel
theorem dX12_reduce_5 : decode cX12_reduce 5 = .ok (.sipush 896, 3) := by decide +kernel
theorem dX12_reduce_8 : decode cX12_reduce 8 = .ok (.invokevirtual 288, 3) := by decide +kernel
theorem dX12_reduce_11 : decode cX12_reduce 11 = .ok (.ifCond .eq 5, 3) := by decide +kernel
theorem dX12_reduce_14 : decode cX12_reduce 14 = .ok (.iconst (-1), 1) := by decide +kernel
theorem dX12_reduce_15 : decode cX12_reduce 15 = .ok (.ireturn, 1) := by decide +kernel
theorem dX12_reduce_16 : decode cX12_reduce 16 = .ok (.aload_n 0, 1) := by decide +kernel
theorem dX12_reduce_17 : decode cX12_reduce 17 = .ok (.sipush 12800, 3) := by decide +kernel
theorem dX12_reduce_20 : decode cX12_reduce 20 = .ok (.putfield 153, 3) := by decide +kernel
theorem dX12_reduce_23 : decode cX12_reduce 23 = .ok (.aload_n 0, 1) := by decide +kernel
theorem dX12_reduce_24 : decode cX12_reduce 24 = .ok (.iconst 0, 1) := by decide +kernel
theorem dX12_reduce_25 : decode cX12_reduce 25 = .ok (.putfield 291, 3) := by decide +kernel
theorem dX12_reduce_28 : decode cX12_reduce 28 = .ok (.aload_n 0, 1) := by decide +kernel
theorem dX12_reduce_29 : decode cX12_reduce 29 = .ok (.aload_n 0, 1) := by decide +kernel
theorem dX12_reduce_30 : decode cX12_reduce 30 = .ok (.getfield 160, 3) := by decide +kernel
theorem dX12_reduce_33 : decode cX12_reduce 33 = .ok (.invokevirtual 298, 3) := by decide +kernel
theorem dX12_reduce_36 : decode cX12_reduce 36 = .ok (.istore_n 1, 1) := by decide +kernel
theorem dX12_reduce_37 : decode cX12_reduce 37 = .ok (.aload_n 0, 1) := by decide +kernel
theorem dX12_reduce_38 : decode cX12_reduce 38 = .ok (.getfield 291, 3) := by decide +kernel
theorem dX12_reduce_41 : decode cX12_reduce 41 = .ok (.ifCond .ne 15, 3) := by decide +kernel
theorem dX12_reduce_44 : decode cX12_reduce 44 = .ok (.aload_n 0, 1) := by decide +kernel
theorem dX12_reduce_45 : decode cX12_reduce 45 = .ok (.getfield 84, 3) := by decide +kernel
theorem dX12_reduce_48 : decode cX12_reduce 48 = .ok (.iload_n 1, 1) := by decide +kernel
theorem dX12_reduce_49 : decode cX12_reduce 49 = .ok (.iaload, 1) := by decide +kernel
theorem dX12_reduce_50 : decode cX12_reduce 50 = .ok (.sipush 2000, 3) := by decide +kernel
theorem dX12_reduce_53 : decode cX12_reduce 53 = .ok (.if_icmp .le 6, 3) := by decide +kernel
theorem dX12_reduce_56 : decode cX12_reduce 56 = .ok (.bipush (-3), 2) := by decide +kernel
theorem dX12_reduce_58 : decode cX12_reduce 58 = .ok (.ireturn, 1) := by decide +kernel
theorem dX12_reduce_59 : decode cX12_reduce 59 = .ok (.aload_n 0, 1) := by decide +kernel
theorem dX12_reduce_60 : decode cX12_reduce 60 = .ok (.getfield 153, 3) := by decide +kernel
theorem dX12_reduce_63 : decode cX12_reduce 63 = .ok (.istore_n 2, 1) := by decide +kernel
theorem dX12_reduce_64 : decode cX12_reduce 64 = .ok (.aload_n 0, 1) := by decide +kernel
theorem dX12_reduce_65 : decode cX12_reduce 65 = .ok (.getfield 84, 3) := by decide +kernel
theorem dX12_reduce_68 : decode cX12_reduce 68 = .ok (.iload_n 1, 1) := by decide +kernel
theorem dX12_reduce_69 : decode cX12_reduce 69 = .ok (.iaload, 1) := by decide +kernel
theorem dX12_reduce_70 : decode cX12_reduce 70 = .ok (.istore_n 3, 1) := by decide +kernel
theorem dX12_reduce_71 : decode cX12_reduce 71 = .ok (.aload_n 0, 1) := by decide +kernel
theorem dX12_reduce_72 : decode cX12_reduce 72 = .ok (.aload_n 0, 1) := by decide +kernel
theorem dX12_reduce_73 : decode cX12_reduce 73 = .ok (.iload_n 1, 1) := by decide +kernel
theorem dX12_reduce_74 : decode cX12_reduce 74 = .ok (.iload_n 2, 1) := by decide +kernel
theorem dX12_reduce_75 : decode cX12_reduce 75 = .ok (.iload_n 3, 1) := by decide +kernel
theorem dX12_reduce_76 : decode cX12_reduce 76 = .ok (.invokevirtual 213, 3) := by decide +kernel
theorem dX12_reduce_79 : decode cX12_reduce 79 = .ok (.putfield 160, 3) := by decide +kernel
theorem dX12_reduce_82 : decode cX12_reduce 82 = .ok (.iload_n 3, 1) := by decide +kernel
theorem dX12_reduce_83 : decode cX12_reduce 83 = .ok (.ireturn, 1) := by decide +kernel
def f_X12_reduce (F P : Nat) (S : xSt) (v0 : Nat) (D : xDt) : Option (Int32 × xDt) :=
  (f_X12_has F P S P v0 (D.1 v0 14) 896 D).bind fun q1 => if q1.1 = 0 then (xlet (xup q1.2.1 v0 13 12800, q1.2.2) fun D2 => xlet (xup D2.1 v0 36 0, D2.2) fun D3 => (f_X12_reduced F P S P v0 (D3.1 v0 14) D3).bind fun q4 => if (q4.2.1 v0 36) = 0 then (xgrd (xin q4.1 (xl S (xr S v0 12))) (if (q4.2.1 (xr S v0 12) (q4.1).toNatClampNeg) ≤ 2000 then (xlet (q4.2.1 v0 13) fun v2_6 => xgrd (xin q4.1 (xl S (xr S v0 12))) (xlet (q4.2.1 (xr S v0 12) (q4.1).toNatClampNeg) fun v3_8 => (f_X12_moved F P S v0 q4.1 v2_6 v3_8 q4.2).bind fun q9 => xlet (xup q9.2.1 v0 14 q9.1, q9.2.2) fun D10 => some (v3_8, D10))) else (some ((-3), q4.2)))) else (some ((-3), q4.2))) else (some ((-1), q1.2))
set_option maxHeartbeats 4000000 in
theorem S_X12_reduce {F P : Nat} {S : xSt} (hS : xWF S) {v0 : Nat} {D : xDt} {r : Int32 × xDt} (k0 : xK S v0 12) (h : f_X12_reduce F P S v0 D = some r) : xSp md_X12_reduce ((P + 3), 0, 0) [.ref v0] (S, D) (xQi S r) := by
  unfold f_X12_reduce at h
  refine xEntry (by decide) (Nat.le_of_ble_eq_true rfl) ?_
  refine x_lv (lv' := [(0, .ref v0)]) [0] rfl ?_
  refine x_aload_n dX12_reduce_0 0 rfl ?_
  refine x_aload_n dX12_reduce_1 0 rfl ?_
  refine y_geti fl_RX12_160 dX12_reduce_2 rfl k0 ?_
  refine x_sipush 896 dX12_reduce_5 (by decide) ?_
  refine xbnd_e h (fun q1 e1 h => ?_)
  refine y_callVi (As := [.int (D.1 v0 14), .int 896]) (q := q1) cv_RX12_288 dX12_reduce_8 k0 rfl (Nat.le_of_ble_eq_true rfl) (by omega) (S_X12_has hS P k0 e1) ?_
  refine x_if_eq 16 dX12_reduce_11 (by decide) (fun c => ?_) (fun c => ?_)
  · rw [if_pos c] at h
    refine x_aload_n dX12_reduce_16 0 rfl ?_
    refine x_sipush 12800 dX12_reduce_17 (by decide) ?_
    refine xlet_e h (fun D2 eD2 h => ?_)
    refine y_puti fp_RX12_153 dX12_reduce_20 rfl k0 eD2 ?_
    refine x_aload_n dX12_reduce_23 0 rfl ?_
    refine x_iconst 0 dX12_reduce_24 (by decide) ?_
    refine xlet_e h (fun D3 eD3 h => ?_)
    refine y_putz rfl fp_RX12_291 dX12_reduce_25 rfl k0 eD3 ?_
    refine x_aload_n dX12_reduce_28 0 rfl ?_
    refine x_aload_n dX12_reduce_29 0 rfl ?_
    refine y_geti fl_RX12_160 dX12_reduce_30 rfl k0 ?_
    refine xbnd_e h (fun q4 e4 h => ?_)
    refine y_callVi (As := [.int (D3.1 v0 14)]) (q := q4) cv_RX12_298 dX12_reduce_33 k0 rfl (Nat.le_of_ble_eq_true rfl) (by omega) (S_X12_reduced hS P k0 e4) ?_
    refine y_istore_n q4.1 rfl [(1, .int q4.1), (0, .ref v0)] dX12_reduce_36 (by show _ < 4; decide) rfl ?_
    refine x_aload_n dX12_reduce_37 1 rfl ?_
    refine y_geti fl_RX12_291 dX12_reduce_38 rfl k0 ?_
    refine x_if_ne 56 dX12_reduce_41 (by decide) (fun c => ?_) (fun c => ?_)
    · rw [if_neg c] at h
      refine x_bipush (-3) dX12_reduce_56 (by decide) ?_
      obtain rfl := Option.some.inj h
      exact y_iret rfl dX12_reduce_58
    · rw [if_pos c] at h
      refine x_aload_n dX12_reduce_44 1 rfl ?_
      refine y_getr (kd := 100) hS fl_RX12_84 dX12_reduce_45 rfl k0 ?_
      refine x_iload_n dX12_reduce_48 0 rfl ?_
      refine xgrd_e h (fun g5 h => ?_)
      refine y_iald dX12_reduce_49 ((hS.f k0 12 100 rfl).2) g5 ?_
      refine x_sipush 2000 dX12_reduce_50 (by decide) ?_
      refine x_icmp_le 59 dX12_reduce_53 (by decide) (fun c => ?_) (fun c => ?_)
      · rw [if_pos c] at h
        refine x_aload_n dX12_reduce_59 1 rfl ?_
        refine y_geti fl_RX12_153 dX12_reduce_60 rfl k0 ?_
        refine xlet_e h (fun v2_6 ev2_6 h => ?_)
        refine y_istore_n v2_6 ev2_6 [(2, .int v2_6), (1, .int q4.1), (0, .ref v0)] dX12_reduce_63 (by show _ < 4; decide) rfl ?_
        refine x_aload_n dX12_reduce_64 2 rfl ?_
        refine y_getr (kd := 100) hS fl_RX12_84 dX12_reduce_65 rfl k0 ?_
        refine x_iload_n dX12_reduce_68 1 rfl ?_
        refine xgrd_e h (fun g7 h => ?_)
        refine y_iald dX12_reduce_69 ((hS.f k0 12 100 rfl).2) g7 ?_
        refine xlet_e h (fun v3_8 ev3_8 h => ?_)
        refine y_istore_n v3_8 ev3_8 [(3, .int v3_8), (2, .int v2_6), (1, .int q4.1), (0, .ref v0)] dX12_reduce_70 (by show _ < 4; decide) rfl ?_
        refine x_aload_n dX12_reduce_71 3 rfl ?_
        refine x_aload_n dX12_reduce_72 3 rfl ?_
        refine x_iload_n dX12_reduce_73 2 rfl ?_
        refine x_iload_n dX12_reduce_74 1 rfl ?_
        refine x_iload_n dX12_reduce_75 0 rfl ?_
        refine xbnd_e h (fun q9 e9 h => ?_)
        refine y_callVi (As := [.int q4.1, .int v2_6, .int v3_8]) (q := q9) cv_RX12_213 dX12_reduce_76 k0 rfl (Nat.le_of_ble_eq_true rfl) (by omega) (S_X12_moved hS k0 e9) ?_
        refine xlet_e h (fun D10 eD10 h => ?_)
        refine y_puti fp_RX12_160 dX12_reduce_79 rfl k0 eD10 ?_
        refine x_iload_n dX12_reduce_82 0 rfl ?_
        obtain rfl := Option.some.inj h
        exact y_iret rfl dX12_reduce_83
      · rw [if_neg c] at h
        refine x_bipush (-3) dX12_reduce_56 (by decide) ?_
        obtain rfl := Option.some.inj h
        exact y_iret rfl dX12_reduce_58
  · rw [if_neg c] at h
    refine x_iconst (-1) dX12_reduce_14 (by decide) ?_
    obtain rfl := Option.some.inj h
    exact y_iret rfl dX12_reduce_15

theorem dX12_shared_0 : decode cX12_shared 0 = .ok (.sipush 12800, 3) := by decide +kernel
theorem dX12_shared_3 : decode cX12_shared 3 = .ok (.istore 5, 2) := by decide +kernel
theorem dX12_shared_5 : decode cX12_shared 5 = .ok (.iload 5, 2) := by decide +kernel
theorem dX12_shared_7 : decode cX12_shared 7 = .ok (.aload_n 0, 1) := by decide +kernel
theorem dX12_shared_8 : decode cX12_shared 8 = .ok (.getfield 153, 3) := by decide +kernel
theorem dX12_shared_11 : decode cX12_shared 11 = .ok (.if_icmp .ge 57, 3) := by decide +kernel
theorem dX12_shared_14 : decode cX12_shared 14 = .ok (.aload_n 0, 1) := by decide +kernel
theorem dX12_shared_15 : decode cX12_shared 15 = .ok (.getfield 72, 3) := by decide +kernel
theorem dX12_shared_18 : decode cX12_shared 18 = .ok (.iload 5, 2) := by decide +kernel
theorem dX12_shared_20 : decode cX12_shared 20 = .ok (.iaload, 1) := by decide +kernel
theorem dX12_shared_21 : decode cX12_shared 21 = .ok (.iload_n 1, 1) := by decide +kernel
theorem dX12_shared_22 : decode cX12_shared 22 = .ok (.if_icmp .ne 40, 3) := by decide +kernel
theorem dX12_shared_25 : decode cX12_shared 25 = .ok (.aload_n 0, 1) := by decide +kernel
theorem dX12_shared_26 : decode cX12_shared 26 = .ok (.getfield 75, 3) := by decide +kernel
theorem dX12_shared_29 : decode cX12_shared 29 = .ok (.iload 5, 2) := by decide +kernel
theorem dX12_shared_31 : decode cX12_shared 31 = .ok (.iaload, 1) := by decide +kernel
theorem dX12_shared_32 : decode cX12_shared 32 = .ok (.iload_n 2, 1) := by decide +kernel
theorem dX12_shared_33 : decode cX12_shared 33 = .ok (.if_icmp .ne 29, 3) := by decide +kernel
theorem dX12_shared_36 : decode cX12_shared 36 = .ok (.aload_n 0, 1) := by decide +kernel
theorem dX12_shared_37 : decode cX12_shared 37 = .ok (.getfield 78, 3) := by decide +kernel
theorem dX12_shared_40 : decode cX12_shared 40 = .ok (.iload 5, 2) := by decide +kernel
theorem dX12_shared_42 : decode cX12_shared 42 = .ok (.iaload, 1) := by decide +kernel
theorem dX12_shared_43 : decode cX12_shared 43 = .ok (.iload_n 3, 1) := by decide +kernel
theorem dX12_shared_44 : decode cX12_shared 44 = .ok (.if_icmp .ne 18, 3) := by decide +kernel
theorem dX12_shared_47 : decode cX12_shared 47 = .ok (.aload_n 0, 1) := by decide +kernel
theorem dX12_shared_48 : decode cX12_shared 48 = .ok (.getfield 81, 3) := by decide +kernel
theorem dX12_shared_51 : decode cX12_shared 51 = .ok (.iload 5, 2) := by decide +kernel
theorem dX12_shared_53 : decode cX12_shared 53 = .ok (.iaload, 1) := by decide +kernel
theorem dX12_shared_54 : decode cX12_shared 54 = .ok (.iload 4, 2) := by decide +kernel
theorem dX12_shared_56 : decode cX12_shared 56 = .ok (.if_icmp .ne 6, 3) := by decide +kernel
theorem dX12_shared_59 : decode cX12_shared 59 = .ok (.iload 5, 2) := by decide +kernel
theorem dX12_shared_61 : decode cX12_shared 61 = .ok (.ireturn, 1) := by decide +kernel
theorem dX12_shared_62 : decode cX12_shared 62 = .ok (.iinc 5 1, 3) := by decide +kernel
theorem dX12_shared_65 : decode cX12_shared 65 = .ok (.goto (-60), 3) := by decide +kernel
theorem dX12_shared_68 : decode cX12_shared 68 = .ok (.aload_n 0, 1) := by decide +kernel
theorem dX12_shared_69 : decode cX12_shared 69 = .ok (.iload_n 1, 1) := by decide +kernel
theorem dX12_shared_70 : decode cX12_shared 70 = .ok (.iload_n 2, 1) := by decide +kernel
theorem dX12_shared_71 : decode cX12_shared 71 = .ok (.iload_n 3, 1) := by decide +kernel
theorem dX12_shared_72 : decode cX12_shared 72 = .ok (.iload 4, 2) := by decide +kernel
theorem dX12_shared_74 : decode cX12_shared 74 = .ok (.invokevirtual 156, 3) := by decide +kernel
theorem dX12_shared_77 : decode cX12_shared 77 = .ok (.ireturn, 1) := by decide +kernel
def f_X12_shared_62 (F P : Nat) (S : xSt) (rec_5 : Nat → Int32 → Int32 → Int32 → Int32 → Int32 → xDt → Option (Int32 × xDt)) (v0 : Nat) (v1 : Int32) (v2 : Int32) (v3 : Int32) (v4 : Int32) (v5 : Int32) (D : xDt) : Option (Int32 × xDt) :=
  xlet (v5 + 1) fun v5_1 => rec_5 v0 v1 v2 v3 v4 v5_1 D
set_option maxHeartbeats 4000000 in
theorem t_X12_shared_62 {F P : Nat} {S : xSt} (hS : xWF S) {rec_5 : Nat → Int32 → Int32 → Int32 → Int32 → Int32 → xDt → Option (Int32 × xDt)} (hrec_5 : ∀ {v0 : Nat} {v1 : Int32} {v2 : Int32} {v3 : Int32} {v4 : Int32} {v5 : Int32} {D : xDt} {r : Int32 × xDt}, xK S v0 12 → rec_5 v0 v1 v2 v3 v4 v5 D = some r → yEx md_X12_shared 1 5 [(0, .ref v0), (1, .int v1), (2, .int v2), (3, .int v3), (4, .int v4), (5, .int v5)] [] S D (xQi S r)) {v0 : Nat} {v1 : Int32} {v2 : Int32} {v3 : Int32} {v4 : Int32} {v5 : Int32} {D : xDt} {r : Int32 × xDt} (k0 : xK S v0 12) (h : f_X12_shared_62 F P S rec_5 v0 v1 v2 v3 v4 v5 D = some r) : yEx md_X12_shared 1 62 [(0, .ref v0), (1, .int v1), (2, .int v2), (3, .int v3), (4, .int v4), (5, .int v5)] [] S D (xQi S r) := by
  unfold f_X12_shared_62 at h
  refine xlet_e h (fun v5_1 ev5_1 h => ?_)
  refine y_iinc v5_1 ev5_1 (by decide) [(5, .int v5_1), (0, .ref v0), (1, .int v1), (2, .int v2), (3, .int v3), (4, .int v4)] dX12_shared_62 5 rfl (by show _ < 6; decide) rfl ?_
  refine x_goto 5 dX12_shared_65 (by decide) ?_
  refine x_lv (lv' := [(0, .ref v0), (1, .int v1), (2, .int v2), (3, .int v3), (4, .int v4), (5, .int v5_1)]) [1, 2, 3, 4, 5, 0] rfl ?_
  exact hrec_5 k0 h

def f_X12_shared_5s (F P : Nat) (S : xSt) (rec_5 : Nat → Int32 → Int32 → Int32 → Int32 → Int32 → xDt → Option (Int32 × xDt)) (v0 : Nat) (v1 : Int32) (v2 : Int32) (v3 : Int32) (v4 : Int32) (v5 : Int32) (D : xDt) : Option (Int32 × xDt) :=
  if (D.1 v0 13) ≤ v5 then ((f_X12_node F P S v0 v1 v2 v3 v4 D).bind fun q1 => some (q1.1, q1.2)) else (xgrd (xin v5 (xl S (xr S v0 8))) (if (D.1 (xr S v0 8) (v5).toNatClampNeg) = v1 then (xgrd (xin v5 (xl S (xr S v0 9))) (if (D.1 (xr S v0 9) (v5).toNatClampNeg) = v2 then (xgrd (xin v5 (xl S (xr S v0 10))) (if (D.1 (xr S v0 10) (v5).toNatClampNeg) = v3 then (xgrd (xin v5 (xl S (xr S v0 11))) (if (D.1 (xr S v0 11) (v5).toNatClampNeg) = v4 then (some (v5, D)) else (f_X12_shared_62 F P S rec_5 v0 v1 v2 v3 v4 v5 D))) else (f_X12_shared_62 F P S rec_5 v0 v1 v2 v3 v4 v5 D))) else (f_X12_shared_62 F P S rec_5 v0 v1 v2 v3 v4 v5 D))) else (f_X12_shared_62 F P S rec_5 v0 v1 v2 v3 v4 v5 D)))
def f_X12_shared_5 (F P : Nat) (S : xSt) : Nat → Nat → Int32 → Int32 → Int32 → Int32 → Int32 → xDt → Option (Int32 × xDt)
  | 0 => fun _ _ _ _ _ _ _ => none
  | n + 1 => f_X12_shared_5s F P S (f_X12_shared_5 F P S n)
set_option maxHeartbeats 4000000 in
theorem t_X12_shared_5s {F P : Nat} {S : xSt} (hS : xWF S) {rec_5 : Nat → Int32 → Int32 → Int32 → Int32 → Int32 → xDt → Option (Int32 × xDt)} (hrec_5 : ∀ {v0 : Nat} {v1 : Int32} {v2 : Int32} {v3 : Int32} {v4 : Int32} {v5 : Int32} {D : xDt} {r : Int32 × xDt}, xK S v0 12 → rec_5 v0 v1 v2 v3 v4 v5 D = some r → yEx md_X12_shared 1 5 [(0, .ref v0), (1, .int v1), (2, .int v2), (3, .int v3), (4, .int v4), (5, .int v5)] [] S D (xQi S r)) {v0 : Nat} {v1 : Int32} {v2 : Int32} {v3 : Int32} {v4 : Int32} {v5 : Int32} {D : xDt} {r : Int32 × xDt} (k0 : xK S v0 12) (h : f_X12_shared_5s F P S rec_5 v0 v1 v2 v3 v4 v5 D = some r) : yEx md_X12_shared 1 5 [(0, .ref v0), (1, .int v1), (2, .int v2), (3, .int v3), (4, .int v4), (5, .int v5)] [] S D (xQi S r) := by
  unfold f_X12_shared_5s at h
  refine x_iload dX12_shared_5 5 rfl ?_
  refine x_aload_n dX12_shared_7 0 rfl ?_
  refine y_geti fl_RX12_153 dX12_shared_8 rfl k0 ?_
  refine x_icmp_ge 68 dX12_shared_11 (by decide) (fun c => ?_) (fun c => ?_)
  · rw [if_pos c] at h
    refine x_aload_n dX12_shared_68 0 rfl ?_
    refine x_iload_n dX12_shared_69 1 rfl ?_
    refine x_iload_n dX12_shared_70 2 rfl ?_
    refine x_iload_n dX12_shared_71 3 rfl ?_
    refine x_iload dX12_shared_72 4 rfl ?_
    refine xbnd_e h (fun q1 e1 h => ?_)
    refine y_callVi (As := [.int v1, .int v2, .int v3, .int v4]) (q := q1) cv_RX12_156 dX12_shared_74 k0 rfl (Nat.le_of_ble_eq_true rfl) (by omega) (S_X12_node hS k0 e1) ?_
    obtain rfl := Option.some.inj h
    exact y_iret rfl dX12_shared_77
  · rw [if_neg c] at h
    refine x_aload_n dX12_shared_14 0 rfl ?_
    refine y_getr (kd := 100) hS fl_RX12_72 dX12_shared_15 rfl k0 ?_
    refine x_iload dX12_shared_18 5 rfl ?_
    refine xgrd_e h (fun g2 h => ?_)
    refine y_iald dX12_shared_20 ((hS.f k0 8 100 rfl).2) g2 ?_
    refine x_iload_n dX12_shared_21 1 rfl ?_
    refine x_icmp_ne 62 dX12_shared_22 (by decide) (fun c => ?_) (fun c => ?_)
    · rw [if_neg c] at h
      exact t_X12_shared_62 hS hrec_5 k0 h
    · rw [if_pos c] at h
      refine x_aload_n dX12_shared_25 0 rfl ?_
      refine y_getr (kd := 100) hS fl_RX12_75 dX12_shared_26 rfl k0 ?_
      refine x_iload dX12_shared_29 5 rfl ?_
      refine xgrd_e h (fun g3 h => ?_)
      refine y_iald dX12_shared_31 ((hS.f k0 9 100 rfl).2) g3 ?_
      refine x_iload_n dX12_shared_32 2 rfl ?_
      refine x_icmp_ne 62 dX12_shared_33 (by decide) (fun c => ?_) (fun c => ?_)
      · rw [if_neg c] at h
        exact t_X12_shared_62 hS hrec_5 k0 h
      · rw [if_pos c] at h
        refine x_aload_n dX12_shared_36 0 rfl ?_
        refine y_getr (kd := 100) hS fl_RX12_78 dX12_shared_37 rfl k0 ?_
        refine x_iload dX12_shared_40 5 rfl ?_
        refine xgrd_e h (fun g4 h => ?_)
        refine y_iald dX12_shared_42 ((hS.f k0 10 100 rfl).2) g4 ?_
        refine x_iload_n dX12_shared_43 3 rfl ?_
        refine x_icmp_ne 62 dX12_shared_44 (by decide) (fun c => ?_) (fun c => ?_)
        · rw [if_neg c] at h
          exact t_X12_shared_62 hS hrec_5 k0 h
        · rw [if_pos c] at h
          refine x_aload_n dX12_shared_47 0 rfl ?_
          refine y_getr (kd := 100) hS fl_RX12_81 dX12_shared_48 rfl k0 ?_
          refine x_iload dX12_shared_51 5 rfl ?_
          refine xgrd_e h (fun g5 h => ?_)
          refine y_iald dX12_shared_53 ((hS.f k0 11 100 rfl).2) g5 ?_
          refine x_iload dX12_shared_54 4 rfl ?_
          refine x_icmp_ne 62 dX12_shared_56 (by decide) (fun c => ?_) (fun c => ?_)
          · rw [if_neg c] at h
            exact t_X12_shared_62 hS hrec_5 k0 h
          · rw [if_pos c] at h
            refine x_iload dX12_shared_59 5 rfl ?_
            obtain rfl := Option.some.inj h
            exact y_iret rfl dX12_shared_61
theorem t_X12_shared_5 {F P : Nat} {S : xSt} (hS : xWF S) : ∀ (n : Nat) {v0 : Nat} {v1 : Int32} {v2 : Int32} {v3 : Int32} {v4 : Int32} {v5 : Int32} {D : xDt} {r : Int32 × xDt}, xK S v0 12 → f_X12_shared_5 F P S n v0 v1 v2 v3 v4 v5 D = some r → yEx md_X12_shared 1 5 [(0, .ref v0), (1, .int v1), (2, .int v2), (3, .int v3), (4, .int v4), (5, .int v5)] [] S D (xQi S r) := by
  intro n
  induction n with
  | zero => intros; rename_i h; cases h
  | succ n ih =>
    intro v0 v1 v2 v3 v4 v5 D r k0 h
    exact t_X12_shared_5s hS (fun k0 h => ih k0 h) k0 h

def f_X12_shared (F P : Nat) (S : xSt) (v0 : Nat) (v1 : Int32) (v2 : Int32) (v3 : Int32) (v4 : Int32) (D : xDt) : Option (Int32 × xDt) :=
  f_X12_shared_5 F P S F v0 v1 v2 v3 v4 12800 D
set_option maxHeartbeats 4000000 in
theorem S_X12_shared {F P : Nat} {S : xSt} (hS : xWF S) {v0 : Nat} {v1 : Int32} {v2 : Int32} {v3 : Int32} {v4 : Int32} {D : xDt} {r : Int32 × xDt} (k0 : xK S v0 12) (h : f_X12_shared F P S v0 v1 v2 v3 v4 D = some r) : xSp md_X12_shared (1, 0, 0) [.ref v0, .int v1, .int v2, .int v3, .int v4] (S, D) (xQi S r) := by
  unfold f_X12_shared at h
  refine xEntry (by decide) (Nat.le_of_ble_eq_true rfl) ?_
  refine x_lv (lv' := [(0, .ref v0), (1, .int v1), (2, .int v2), (3, .int v3), (4, .int v4)]) [0, 1, 2, 3, 4] rfl ?_
  refine x_sipush 12800 dX12_shared_0 (by decide) ?_
  refine y_istore 12800 rfl [(5, .int 12800), (0, .ref v0), (1, .int v1), (2, .int v2), (3, .int v3), (4, .int v4)] dX12_shared_3 (by show _ < 6; decide) rfl ?_
  refine x_lv (lv' := [(0, .ref v0), (1, .int v1), (2, .int v2), (3, .int v3), (4, .int v4), (5, .int 12800)]) [1, 2, 3, 4, 5, 0] rfl ?_
  exact t_X12_shared_5 hS F k0 h

theorem dX12_plain_0 : decode cX12_plain 0 = .ok (.aload_n 0, 1) := by decide +kernel
theorem dX12_plain_1 : decode cX12_plain 1 = .ok (.getfield 72, 3) := by decide +kernel
theorem dX12_plain_4 : decode cX12_plain 4 = .ok (.iload_n 1, 1) := by decide +kernel
theorem dX12_plain_5 : decode cX12_plain 5 = .ok (.iaload, 1) := by decide +kernel
theorem dX12_plain_6 : decode cX12_plain 6 = .ok (.istore_n 2, 1) := by decide +kernel
theorem dX12_plain_7 : decode cX12_plain 7 = .ok (.aload_n 0, 1) := by decide +kernel
theorem dX12_plain_8 : decode cX12_plain 8 = .ok (.getfield 75, 3) := by decide +kernel
theorem dX12_plain_11 : decode cX12_plain 11 = .ok (.iload_n 1, 1) := by decide +kernel
theorem dX12_plain_12 : decode cX12_plain 12 = .ok (.iaload, 1) := by decide +kernel
theorem dX12_plain_13 : decode cX12_plain 13 = .ok (.ifCond .ge 8, 3) := by decide +kernel
theorem dX12_plain_16 : decode cX12_plain 16 = .ok (.bipush (-2), 2) := by decide +kernel
theorem dX12_plain_18 : decode cX12_plain 18 = .ok (.goto 13, 3) := by decide +kernel
theorem dX12_plain_21 : decode cX12_plain 21 = .ok (.aload_n 0, 1) := by decide +kernel
theorem dX12_plain_22 : decode cX12_plain 22 = .ok (.aload_n 0, 1) := by decide +kernel
theorem dX12_plain_23 : decode cX12_plain 23 = .ok (.getfield 75, 3) := by decide +kernel
theorem dX12_plain_26 : decode cX12_plain 26 = .ok (.iload_n 1, 1) := by decide +kernel
theorem dX12_plain_27 : decode cX12_plain 27 = .ok (.iaload, 1) := by decide +kernel
theorem dX12_plain_28 : decode cX12_plain 28 = .ok (.invokevirtual 304, 3) := by decide +kernel
theorem dX12_plain_31 : decode cX12_plain 31 = .ok (.istore_n 3, 1) := by decide +kernel
theorem dX12_plain_32 : decode cX12_plain 32 = .ok (.aload_n 0, 1) := by decide +kernel
theorem dX12_plain_33 : decode cX12_plain 33 = .ok (.getfield 78, 3) := by decide +kernel
theorem dX12_plain_36 : decode cX12_plain 36 = .ok (.iload_n 1, 1) := by decide +kernel
theorem dX12_plain_37 : decode cX12_plain 37 = .ok (.iaload, 1) := by decide +kernel
theorem dX12_plain_38 : decode cX12_plain 38 = .ok (.ifCond .ge 8, 3) := by decide +kernel
theorem dX12_plain_41 : decode cX12_plain 41 = .ok (.bipush (-2), 2) := by decide +kernel
theorem dX12_plain_43 : decode cX12_plain 43 = .ok (.goto 13, 3) := by decide +kernel
theorem dX12_plain_46 : decode cX12_plain 46 = .ok (.aload_n 0, 1) := by decide +kernel
theorem dX12_plain_47 : decode cX12_plain 47 = .ok (.aload_n 0, 1) := by decide +kernel
theorem dX12_plain_48 : decode cX12_plain 48 = .ok (.getfield 78, 3) := by decide +kernel
theorem dX12_plain_51 : decode cX12_plain 51 = .ok (.iload_n 1, 1) := by decide +kernel
theorem dX12_plain_52 : decode cX12_plain 52 = .ok (.iaload, 1) := by decide +kernel
theorem dX12_plain_53 : decode cX12_plain 53 = .ok (.invokevirtual 304, 3) := by decide +kernel
theorem dX12_plain_56 : decode cX12_plain 56 = .ok (.istore 4, 2) := by decide +kernel
theorem dX12_plain_58 : decode cX12_plain 58 = .ok (.iload_n 2, 1) := by decide +kernel
theorem dX12_plain_59 : decode cX12_plain 59 = .ok (.bipush 6, 2) := by decide +kernel
theorem dX12_plain_61 : decode cX12_plain 61 = .ok (.if_icmp .ne 34, 3) := by decide +kernel
theorem dX12_plain_64 : decode cX12_plain 64 = .ok (.aload_n 0, 1) := by decide +kernel
theorem dX12_plain_65 : decode cX12_plain 65 = .ok (.iconst 4, 1) := by decide +kernel
theorem dX12_plain_66 : decode cX12_plain 66 = .ok (.aload_n 0, 1) := by decide +kernel
theorem dX12_plain_67 : decode cX12_plain 67 = .ok (.iconst 5, 1) := by decide +kernel
theorem dX12_plain_68 : decode cX12_plain 68 = .ok (.aload_n 0, 1) := by decide +kernel
theorem dX12_plain_69 : decode cX12_plain 69 = .ok (.iconst 4, 1) := by decide +kernel
theorem dX12_plain_70 : decode cX12_plain 70 = .ok (.iload_n 3, 1) := by decide +kernel
theorem dX12_plain_71 : decode cX12_plain 71 = .ok (.bipush (-2), 2) := by decide +kernel
theorem dX12_plain_73 : decode cX12_plain 73 = .ok (.iconst 0, 1) := by decide +kernel
theorem dX12_plain_74 : decode cX12_plain 74 = .ok (.invokevirtual 307, 3) := by decide +kernel
theorem dX12_plain_77 : decode cX12_plain 77 = .ok (.bipush (-2), 2) := by decide +kernel
theorem dX12_plain_79 : decode cX12_plain 79 = .ok (.aload_n 0, 1) := by decide +kernel
theorem dX12_plain_80 : decode cX12_plain 80 = .ok (.getfield 81, 3) := by decide +kernel
theorem dX12_plain_83 : decode cX12_plain 83 = .ok (.iload_n 1, 1) := by decide +kernel
theorem dX12_plain_84 : decode cX12_plain 84 = .ok (.iaload, 1) := by decide +kernel
theorem dX12_plain_85 : decode cX12_plain 85 = .ok (.invokevirtual 307, 3) := by decide +kernel
theorem dX12_plain_88 : decode cX12_plain 88 = .ok (.bipush (-2), 2) := by decide +kernel
theorem dX12_plain_90 : decode cX12_plain 90 = .ok (.iconst 0, 1) := by decide +kernel
theorem dX12_plain_91 : decode cX12_plain 91 = .ok (.invokevirtual 307, 3) := by decide +kernel
theorem dX12_plain_94 : decode cX12_plain 94 = .ok (.ireturn, 1) := by decide +kernel
theorem dX12_plain_95 : decode cX12_plain 95 = .ok (.iload_n 2, 1) := by decide +kernel
theorem dX12_plain_96 : decode cX12_plain 96 = .ok (.bipush 7, 2) := by decide +kernel
theorem dX12_plain_98 : decode cX12_plain 98 = .ok (.if_icmp .eq 18, 3) := by decide +kernel
theorem dX12_plain_101 : decode cX12_plain 101 = .ok (.aload_n 0, 1) := by decide +kernel
theorem dX12_plain_102 : decode cX12_plain 102 = .ok (.iload_n 2, 1) := by decide +kernel
theorem dX12_plain_103 : decode cX12_plain 103 = .ok (.iload_n 3, 1) := by decide +kernel
theorem dX12_plain_104 : decode cX12_plain 104 = .ok (.iload 4, 2) := by decide +kernel
theorem dX12_plain_106 : decode cX12_plain 106 = .ok (.aload_n 0, 1) := by decide +kernel
theorem dX12_plain_107 : decode cX12_plain 107 = .ok (.getfield 81, 3) := by decide +kernel
theorem dX12_plain_110 : decode cX12_plain 110 = .ok (.iload_n 1, 1) := by decide +kernel
theorem dX12_plain_111 : decode cX12_plain 111 = .ok (.iaload, 1) := by decide +kernel
theorem dX12_plain_112 : decode cX12_plain 112 = .ok (.invokevirtual 307, 3) := by decide +kernel
theorem dX12_plain_115 : decode cX12_plain 115 = .ok (.ireturn, 1) := by decide +kernel
theorem dX12_plain_116 : decode cX12_plain 116 = .ok (.bipush (-2), 2) := by decide +kernel
theorem dX12_plain_118 : decode cX12_plain 118 = .ok (.istore 5, 2) := by decide +kernel
theorem dX12_plain_120 : decode cX12_plain 120 = .ok (.iconst 0, 1) := by decide +kernel
theorem dX12_plain_121 : decode cX12_plain 121 = .ok (.istore 6, 2) := by decide +kernel
theorem dX12_plain_123 : decode cX12_plain 123 = .ok (.iload 6, 2) := by decide +kernel
theorem dX12_plain_125 : decode cX12_plain 125 = .ok (.iconst 4, 1) := by decide +kernel
theorem dX12_plain_126 : decode cX12_plain 126 = .ok (.if_icmp .ge 61, 3) := by decide +kernel
theorem dX12_plain_129 : decode cX12_plain 129 = .ok (.aload_n 0, 1) := by decide +kernel
theorem dX12_plain_130 : decode cX12_plain 130 = .ok (.getfield 81, 3) := by decide +kernel
theorem dX12_plain_133 : decode cX12_plain 133 = .ok (.iload_n 1, 1) := by decide +kernel
theorem dX12_plain_134 : decode cX12_plain 134 = .ok (.iaload, 1) := by decide +kernel
theorem dX12_plain_135 : decode cX12_plain 135 = .ok (.iload 6, 2) := by decide +kernel
theorem dX12_plain_137 : decode cX12_plain 137 = .ok (.ishr, 1) := by decide +kernel
theorem dX12_plain_138 : decode cX12_plain 138 = .ok (.iconst 1, 1) := by decide +kernel
theorem dX12_plain_139 : decode cX12_plain 139 = .ok (.iand, 1) := by decide +kernel
theorem dX12_plain_140 : decode cX12_plain 140 = .ok (.iconst 1, 1) := by decide +kernel
theorem dX12_plain_141 : decode cX12_plain 141 = .ok (.if_icmp .ne 40, 3) := by decide +kernel
theorem dX12_plain_144 : decode cX12_plain 144 = .ok (.aload_n 0, 1) := by decide +kernel
theorem dX12_plain_145 : decode cX12_plain 145 = .ok (.iconst 5, 1) := by decide +kernel
theorem dX12_plain_146 : decode cX12_plain 146 = .ok (.iload_n 3, 1) := by decide +kernel
theorem dX12_plain_147 : decode cX12_plain 147 = .ok (.bipush (-2), 2) := by decide +kernel
theorem dX12_plain_149 : decode cX12_plain 149 = .ok (.iconst 1, 1) := by decide +kernel
theorem dX12_plain_150 : decode cX12_plain 150 = .ok (.iload 6, 2) := by decide +kernel
theorem dX12_plain_152 : decode cX12_plain 152 = .ok (.ishl, 1) := by decide +kernel
theorem dX12_plain_153 : decode cX12_plain 153 = .ok (.invokevirtual 307, 3) := by decide +kernel
theorem dX12_plain_156 : decode cX12_plain 156 = .ok (.istore 7, 2) := by decide +kernel
theorem dX12_plain_158 : decode cX12_plain 158 = .ok (.iload 5, 2) := by decide +kernel
theorem dX12_plain_160 : decode cX12_plain 160 = .ok (.ifCond .ge 8, 3) := by decide +kernel
theorem dX12_plain_163 : decode cX12_plain 163 = .ok (.iload 7, 2) := by decide +kernel
theorem dX12_plain_165 : decode cX12_plain 165 = .ok (.goto 14, 3) := by decide +kernel
theorem dX12_plain_168 : decode cX12_plain 168 = .ok (.aload_n 0, 1) := by decide +kernel
theorem dX12_plain_169 : decode cX12_plain 169 = .ok (.bipush 13, 2) := by decide +kernel
theorem dX12_plain_171 : decode cX12_plain 171 = .ok (.iload 5, 2) := by decide +kernel
theorem dX12_plain_173 : decode cX12_plain 173 = .ok (.iload 7, 2) := by decide +kernel
theorem dX12_plain_175 : decode cX12_plain 175 = .ok (.iconst 0, 1) := by decide +kernel
theorem dX12_plain_176 : decode cX12_plain 176 = .ok (.invokevirtual 307, 3) := by decide +kernel
theorem dX12_plain_179 : decode cX12_plain 179 = .ok (.istore 5, 2) := by decide +kernel
theorem dX12_plain_181 : decode cX12_plain 181 = .ok (.iinc 6 1, 3) := by decide +kernel
theorem dX12_plain_184 : decode cX12_plain 184 = .ok (.goto (-61), 3) := by decide +kernel
theorem dX12_plain_187 : decode cX12_plain 187 = .ok (.iload 5, 2) := by decide +kernel
theorem dX12_plain_189 : decode cX12_plain 189 = .ok (.ireturn, 1) := by decide +kernel
def f_X12_plain_181 (F P : Nat) (S : xSt) (self_X12_plain : Nat → Int32 → xDt → Option (Int32 × xDt)) (rec_123 : Nat → Int32 → Int32 → Int32 → Int32 → xDt → Option (Int32 × xDt)) (v0 : Nat) (v1 : Int32) (v3 : Int32) (v5 : Int32) (v6 : Int32) (D : xDt) : Option (Int32 × xDt) :=
  xlet (v6 + 1) fun v6_1 => rec_123 v0 v1 v3 v5 v6_1 D
set_option maxHeartbeats 4000000 in
theorem t_X12_plain_181 {F P : Nat} {S : xSt} (hS : xWF S) {hh : Nat} (hhc : 2 ≤ hh) {self_X12_plain : Nat → Int32 → xDt → Option (Int32 × xDt)} (hself_X12_plain : ∀ {v0 : Nat} {v1 : Int32} {D : xDt} {r : Int32 × xDt}, xK S v0 12 → self_X12_plain v0 v1 D = some r → xSp md_X12_plain (hh, 0, 0) [.ref v0, .int v1] (S, D) (xQi S r)) {rec_123 : Nat → Int32 → Int32 → Int32 → Int32 → xDt → Option (Int32 × xDt)} (hrec_123 : ∀ {v0 : Nat} {v1 : Int32} {v3 : Int32} {v5 : Int32} {v6 : Int32} {D : xDt} {r : Int32 × xDt}, xK S v0 12 → rec_123 v0 v1 v3 v5 v6 D = some r → yEx md_X12_plain (hh + 1) 123 [(0, .ref v0), (1, .int v1), (3, .int v3), (5, .int v5), (6, .int v6)] [] S D (xQi S r)) {v0 : Nat} {v1 : Int32} {v3 : Int32} {v5 : Int32} {v6 : Int32} {D : xDt} {r : Int32 × xDt} (k0 : xK S v0 12) (h : f_X12_plain_181 F P S self_X12_plain rec_123 v0 v1 v3 v5 v6 D = some r) : yEx md_X12_plain (hh + 1) 181 [(0, .ref v0), (1, .int v1), (3, .int v3), (5, .int v5), (6, .int v6)] [] S D (xQi S r) := by
  unfold f_X12_plain_181 at h
  refine xlet_e h (fun v6_1 ev6_1 h => ?_)
  refine y_iinc v6_1 ev6_1 (by decide) [(6, .int v6_1), (0, .ref v0), (1, .int v1), (3, .int v3), (5, .int v5)] dX12_plain_181 4 rfl (by show _ < 8; decide) rfl ?_
  refine x_goto 123 dX12_plain_184 (by decide) ?_
  refine x_lv (lv' := [(0, .ref v0), (1, .int v1), (3, .int v3), (5, .int v5), (6, .int v6_1)]) [1, 2, 3, 4, 0] rfl ?_
  exact hrec_123 k0 h

def f_X12_plain_179 (F P : Nat) (S : xSt) (self_X12_plain : Nat → Int32 → xDt → Option (Int32 × xDt)) (rec_123 : Nat → Int32 → Int32 → Int32 → Int32 → xDt → Option (Int32 × xDt)) (v0 : Nat) (v1 : Int32) (v3 : Int32) (v6 : Int32) (s0 : Int32) (D : xDt) : Option (Int32 × xDt) :=
  f_X12_plain_181 F P S self_X12_plain rec_123 v0 v1 v3 s0 v6 D
set_option maxHeartbeats 4000000 in
theorem t_X12_plain_179 {F P : Nat} {S : xSt} (hS : xWF S) {hh : Nat} (hhc : 2 ≤ hh) {self_X12_plain : Nat → Int32 → xDt → Option (Int32 × xDt)} (hself_X12_plain : ∀ {v0 : Nat} {v1 : Int32} {D : xDt} {r : Int32 × xDt}, xK S v0 12 → self_X12_plain v0 v1 D = some r → xSp md_X12_plain (hh, 0, 0) [.ref v0, .int v1] (S, D) (xQi S r)) {rec_123 : Nat → Int32 → Int32 → Int32 → Int32 → xDt → Option (Int32 × xDt)} (hrec_123 : ∀ {v0 : Nat} {v1 : Int32} {v3 : Int32} {v5 : Int32} {v6 : Int32} {D : xDt} {r : Int32 × xDt}, xK S v0 12 → rec_123 v0 v1 v3 v5 v6 D = some r → yEx md_X12_plain (hh + 1) 123 [(0, .ref v0), (1, .int v1), (3, .int v3), (5, .int v5), (6, .int v6)] [] S D (xQi S r)) {v0 : Nat} {v1 : Int32} {v3 : Int32} {v6 : Int32} {s0 : Int32} {D : xDt} {r : Int32 × xDt} (k0 : xK S v0 12) (h : f_X12_plain_179 F P S self_X12_plain rec_123 v0 v1 v3 v6 s0 D = some r) : yEx md_X12_plain (hh + 1) 179 [(0, .ref v0), (1, .int v1), (3, .int v3), (6, .int v6)] [.int s0] S D (xQi S r) := by
  unfold f_X12_plain_179 at h
  refine y_istore s0 rfl [(5, .int s0), (0, .ref v0), (1, .int v1), (3, .int v3), (6, .int v6)] dX12_plain_179 (by show _ < 8; decide) rfl ?_
  refine x_lv (lv' := [(0, .ref v0), (1, .int v1), (3, .int v3), (5, .int s0), (6, .int v6)]) [1, 2, 3, 0, 4] rfl ?_
  exact t_X12_plain_181 hS hhc hself_X12_plain hrec_123 k0 h

def f_X12_plain_123s (F P : Nat) (S : xSt) (self_X12_plain : Nat → Int32 → xDt → Option (Int32 × xDt)) (rec_123 : Nat → Int32 → Int32 → Int32 → Int32 → xDt → Option (Int32 × xDt)) (v0 : Nat) (v1 : Int32) (v3 : Int32) (v5 : Int32) (v6 : Int32) (D : xDt) : Option (Int32 × xDt) :=
  if 4 ≤ v6 then (some (v5, D)) else (xgrd (xin v1 (xl S (xr S v0 11))) (if ((jishr (D.1 (xr S v0 11) (v1).toNatClampNeg) v6) &&& 1) = 1 then ((f_X12_shared F P S v0 5 v3 (-2) (jishl 1 v6) D).bind fun q2 => if 0 ≤ v5 then ((f_X12_shared F P S v0 13 v5 q2.1 0 q2.2).bind fun q3 => f_X12_plain_179 F P S self_X12_plain rec_123 v0 v1 v3 v6 q3.1 q3.2) else (f_X12_plain_179 F P S self_X12_plain rec_123 v0 v1 v3 v6 q2.1 q2.2)) else (f_X12_plain_181 F P S self_X12_plain rec_123 v0 v1 v3 v5 v6 D)))
def f_X12_plain_123 (F P : Nat) (S : xSt) (self_X12_plain : Nat → Int32 → xDt → Option (Int32 × xDt)) : Nat → Nat → Int32 → Int32 → Int32 → Int32 → xDt → Option (Int32 × xDt)
  | 0 => fun _ _ _ _ _ _ => none
  | n + 1 => f_X12_plain_123s F P S self_X12_plain (f_X12_plain_123 F P S self_X12_plain n)
set_option maxHeartbeats 4000000 in
theorem t_X12_plain_123s {F P : Nat} {S : xSt} (hS : xWF S) {hh : Nat} (hhc : 2 ≤ hh) {self_X12_plain : Nat → Int32 → xDt → Option (Int32 × xDt)} (hself_X12_plain : ∀ {v0 : Nat} {v1 : Int32} {D : xDt} {r : Int32 × xDt}, xK S v0 12 → self_X12_plain v0 v1 D = some r → xSp md_X12_plain (hh, 0, 0) [.ref v0, .int v1] (S, D) (xQi S r)) {rec_123 : Nat → Int32 → Int32 → Int32 → Int32 → xDt → Option (Int32 × xDt)} (hrec_123 : ∀ {v0 : Nat} {v1 : Int32} {v3 : Int32} {v5 : Int32} {v6 : Int32} {D : xDt} {r : Int32 × xDt}, xK S v0 12 → rec_123 v0 v1 v3 v5 v6 D = some r → yEx md_X12_plain (hh + 1) 123 [(0, .ref v0), (1, .int v1), (3, .int v3), (5, .int v5), (6, .int v6)] [] S D (xQi S r)) {v0 : Nat} {v1 : Int32} {v3 : Int32} {v5 : Int32} {v6 : Int32} {D : xDt} {r : Int32 × xDt} (k0 : xK S v0 12) (h : f_X12_plain_123s F P S self_X12_plain rec_123 v0 v1 v3 v5 v6 D = some r) : yEx md_X12_plain (hh + 1) 123 [(0, .ref v0), (1, .int v1), (3, .int v3), (5, .int v5), (6, .int v6)] [] S D (xQi S r) := by
  unfold f_X12_plain_123s at h
  refine x_iload dX12_plain_123 4 rfl ?_
  refine x_iconst 4 dX12_plain_125 (by decide) ?_
  refine x_icmp_ge 187 dX12_plain_126 (by decide) (fun c => ?_) (fun c => ?_)
  · rw [if_pos c] at h
    refine x_iload dX12_plain_187 3 rfl ?_
    obtain rfl := Option.some.inj h
    exact y_iret rfl dX12_plain_189
  · rw [if_neg c] at h
    refine x_aload_n dX12_plain_129 0 rfl ?_
    refine y_getr (kd := 100) hS fl_RX12_81 dX12_plain_130 rfl k0 ?_
    refine x_iload_n dX12_plain_133 1 rfl ?_
    refine xgrd_e h (fun g1 h => ?_)
    refine y_iald dX12_plain_134 ((hS.f k0 11 100 rfl).2) g1 ?_
    refine x_iload dX12_plain_135 4 rfl ?_
    refine x_ishr dX12_plain_137 ?_
    refine x_iconst 1 dX12_plain_138 (by decide) ?_
    refine x_iand dX12_plain_139 ?_
    refine x_iconst 1 dX12_plain_140 (by decide) ?_
    refine x_icmp_ne 181 dX12_plain_141 (by decide) (fun c => ?_) (fun c => ?_)
    · rw [if_neg c] at h
      exact t_X12_plain_181 hS hhc hself_X12_plain hrec_123 k0 h
    · rw [if_pos c] at h
      refine x_aload_n dX12_plain_144 0 rfl ?_
      refine x_iconst 5 dX12_plain_145 (by decide) ?_
      refine x_iload_n dX12_plain_146 2 rfl ?_
      refine x_bipush (-2) dX12_plain_147 (by decide) ?_
      refine x_iconst 1 dX12_plain_149 (by decide) ?_
      refine x_iload dX12_plain_150 4 rfl ?_
      refine x_ishl dX12_plain_152 ?_
      refine xbnd_e h (fun q2 e2 h => ?_)
      refine y_callVi (As := [.int 5, .int v3, .int (-2), .int (jishl 1 v6)]) (q := q2) cv_RX12_307 dX12_plain_153 k0 rfl (Nat.le_of_ble_eq_true rfl) (by omega) (S_X12_shared hS k0 e2) ?_
      refine y_istore q2.1 rfl [(7, .int q2.1), (0, .ref v0), (1, .int v1), (3, .int v3), (5, .int v5), (6, .int v6)] dX12_plain_156 (by show _ < 8; decide) rfl ?_
      refine x_iload dX12_plain_158 4 rfl ?_
      refine x_if_ge 168 dX12_plain_160 (by decide) (fun c => ?_) (fun c => ?_)
      · rw [if_pos c] at h
        refine x_aload_n dX12_plain_168 1 rfl ?_
        refine x_bipush 13 dX12_plain_169 (by decide) ?_
        refine x_iload dX12_plain_171 4 rfl ?_
        refine x_iload dX12_plain_173 0 rfl ?_
        refine x_iconst 0 dX12_plain_175 (by decide) ?_
        refine xbnd_e h (fun q3 e3 h => ?_)
        refine y_callVi (As := [.int 13, .int v5, .int q2.1, .int 0]) (q := q3) cv_RX12_307 dX12_plain_176 k0 rfl (Nat.le_of_ble_eq_true rfl) (by omega) (S_X12_shared hS k0 e3) ?_
        refine x_lv (lv' := [(0, .ref v0), (1, .int v1), (3, .int v3), (6, .int v6)]) [1, 2, 3, 5] rfl ?_
        exact t_X12_plain_179 hS hhc hself_X12_plain hrec_123 k0 h
      · rw [if_neg c] at h
        refine x_iload dX12_plain_163 0 rfl ?_
        refine x_goto 179 dX12_plain_165 (by decide) ?_
        refine x_lv (lv' := [(0, .ref v0), (1, .int v1), (3, .int v3), (6, .int v6)]) [1, 2, 3, 5] rfl ?_
        exact t_X12_plain_179 hS hhc hself_X12_plain hrec_123 k0 h
theorem t_X12_plain_123 {F P : Nat} {S : xSt} (hS : xWF S) {hh : Nat} (hhc : 2 ≤ hh) {self_X12_plain : Nat → Int32 → xDt → Option (Int32 × xDt)} (hself_X12_plain : ∀ {v0 : Nat} {v1 : Int32} {D : xDt} {r : Int32 × xDt}, xK S v0 12 → self_X12_plain v0 v1 D = some r → xSp md_X12_plain (hh, 0, 0) [.ref v0, .int v1] (S, D) (xQi S r)) : ∀ (n : Nat) {v0 : Nat} {v1 : Int32} {v3 : Int32} {v5 : Int32} {v6 : Int32} {D : xDt} {r : Int32 × xDt}, xK S v0 12 → f_X12_plain_123 F P S self_X12_plain n v0 v1 v3 v5 v6 D = some r → yEx md_X12_plain (hh + 1) 123 [(0, .ref v0), (1, .int v1), (3, .int v3), (5, .int v5), (6, .int v6)] [] S D (xQi S r) := by
  intro n
  induction n with
  | zero => intros; rename_i h; cases h
  | succ n ih =>
    intro v0 v1 v3 v5 v6 D r k0 h
    exact t_X12_plain_123s hS hhc hself_X12_plain (fun k0 h => ih k0 h) k0 h

def f_X12_plain_56 (F P : Nat) (S : xSt) (self_X12_plain : Nat → Int32 → xDt → Option (Int32 × xDt)) (v0 : Nat) (v1 : Int32) (v2 : Int32) (v3 : Int32) (s0 : Int32) (D : xDt) : Option (Int32 × xDt) :=
  if v2 = 6 then ((f_X12_shared F P S v0 4 v3 (-2) 0 D).bind fun q3 => xgrd (xin v1 (xl S (xr S v0 11))) ((f_X12_shared F P S v0 5 q3.1 (-2) (q3.2.1 (xr S v0 11) (v1).toNatClampNeg) q3.2).bind fun q5 => (f_X12_shared F P S v0 4 q5.1 (-2) 0 q5.2).bind fun q6 => some (q6.1, q6.2))) else (if v2 = 7 then (f_X12_plain_123 F P S self_X12_plain F v0 v1 v3 (-2) 0 D) else (xgrd (xin v1 (xl S (xr S v0 11))) ((f_X12_shared F P S v0 v2 v3 s0 (D.1 (xr S v0 11) (v1).toNatClampNeg) D).bind fun q2 => some (q2.1, q2.2))))
set_option maxHeartbeats 4000000 in
theorem t_X12_plain_56 {F P : Nat} {S : xSt} (hS : xWF S) {hh : Nat} (hhc : 2 ≤ hh) {self_X12_plain : Nat → Int32 → xDt → Option (Int32 × xDt)} (hself_X12_plain : ∀ {v0 : Nat} {v1 : Int32} {D : xDt} {r : Int32 × xDt}, xK S v0 12 → self_X12_plain v0 v1 D = some r → xSp md_X12_plain (hh, 0, 0) [.ref v0, .int v1] (S, D) (xQi S r)) {v0 : Nat} {v1 : Int32} {v2 : Int32} {v3 : Int32} {s0 : Int32} {D : xDt} {r : Int32 × xDt} (k0 : xK S v0 12) (h : f_X12_plain_56 F P S self_X12_plain v0 v1 v2 v3 s0 D = some r) : yEx md_X12_plain (hh + 1) 56 [(0, .ref v0), (1, .int v1), (2, .int v2), (3, .int v3)] [.int s0] S D (xQi S r) := by
  unfold f_X12_plain_56 at h
  refine y_istore s0 rfl [(4, .int s0), (0, .ref v0), (1, .int v1), (2, .int v2), (3, .int v3)] dX12_plain_56 (by show _ < 8; decide) rfl ?_
  refine x_iload_n dX12_plain_58 3 rfl ?_
  refine x_bipush 6 dX12_plain_59 (by decide) ?_
  refine x_icmp_ne 95 dX12_plain_61 (by decide) (fun c => ?_) (fun c => ?_)
  · rw [if_neg c] at h
    refine x_iload_n dX12_plain_95 3 rfl ?_
    refine x_bipush 7 dX12_plain_96 (by decide) ?_
    refine x_icmp_eq 116 dX12_plain_98 (by decide) (fun c => ?_) (fun c => ?_)
    · rw [if_pos c] at h
      refine x_bipush (-2) dX12_plain_116 (by decide) ?_
      refine y_istore (-2) rfl [(5, .int (-2)), (4, .int s0), (0, .ref v0), (1, .int v1), (2, .int v2), (3, .int v3)] dX12_plain_118 (by show _ < 8; decide) rfl ?_
      refine x_iconst 0 dX12_plain_120 (by decide) ?_
      refine y_istore 0 rfl [(6, .int 0), (5, .int (-2)), (4, .int s0), (0, .ref v0), (1, .int v1), (2, .int v2), (3, .int v3)] dX12_plain_121 (by show _ < 8; decide) rfl ?_
      refine x_lv (lv' := [(0, .ref v0), (1, .int v1), (3, .int v3), (5, .int (-2)), (6, .int 0)]) [3, 4, 6, 1, 0] rfl ?_
      exact t_X12_plain_123 hS hhc hself_X12_plain F k0 h
    · rw [if_neg c] at h
      refine x_aload_n dX12_plain_101 1 rfl ?_
      refine x_iload_n dX12_plain_102 3 rfl ?_
      refine x_iload_n dX12_plain_103 4 rfl ?_
      refine x_iload dX12_plain_104 0 rfl ?_
      refine x_aload_n dX12_plain_106 1 rfl ?_
      refine y_getr (kd := 100) hS fl_RX12_81 dX12_plain_107 rfl k0 ?_
      refine x_iload_n dX12_plain_110 2 rfl ?_
      refine xgrd_e h (fun g1 h => ?_)
      refine y_iald dX12_plain_111 ((hS.f k0 11 100 rfl).2) g1 ?_
      refine xbnd_e h (fun q2 e2 h => ?_)
      refine y_callVi (As := [.int v2, .int v3, .int s0, .int (D.1 (xr S v0 11) (v1).toNatClampNeg)]) (q := q2) cv_RX12_307 dX12_plain_112 k0 rfl (Nat.le_of_ble_eq_true rfl) (by omega) (S_X12_shared hS k0 e2) ?_
      obtain rfl := Option.some.inj h
      exact y_iret rfl dX12_plain_115
  · rw [if_pos c] at h
    refine x_aload_n dX12_plain_64 1 rfl ?_
    refine x_iconst 4 dX12_plain_65 (by decide) ?_
    refine x_aload_n dX12_plain_66 1 rfl ?_
    refine x_iconst 5 dX12_plain_67 (by decide) ?_
    refine x_aload_n dX12_plain_68 1 rfl ?_
    refine x_iconst 4 dX12_plain_69 (by decide) ?_
    refine x_iload_n dX12_plain_70 4 rfl ?_
    refine x_bipush (-2) dX12_plain_71 (by decide) ?_
    refine x_iconst 0 dX12_plain_73 (by decide) ?_
    refine xbnd_e h (fun q3 e3 h => ?_)
    refine y_callVi (As := [.int 4, .int v3, .int (-2), .int 0]) (q := q3) cv_RX12_307 dX12_plain_74 k0 rfl (Nat.le_of_ble_eq_true rfl) (by omega) (S_X12_shared hS k0 e3) ?_
    refine x_bipush (-2) dX12_plain_77 (by decide) ?_
    refine x_aload_n dX12_plain_79 1 rfl ?_
    refine y_getr (kd := 100) hS fl_RX12_81 dX12_plain_80 rfl k0 ?_
    refine x_iload_n dX12_plain_83 2 rfl ?_
    refine xgrd_e h (fun g4 h => ?_)
    refine y_iald dX12_plain_84 ((hS.f k0 11 100 rfl).2) g4 ?_
    refine xbnd_e h (fun q5 e5 h => ?_)
    refine y_callVi (As := [.int 5, .int q3.1, .int (-2), .int (q3.2.1 (xr S v0 11) (v1).toNatClampNeg)]) (q := q5) cv_RX12_307 dX12_plain_85 k0 rfl (Nat.le_of_ble_eq_true rfl) (by omega) (S_X12_shared hS k0 e5) ?_
    refine x_bipush (-2) dX12_plain_88 (by decide) ?_
    refine x_iconst 0 dX12_plain_90 (by decide) ?_
    refine xbnd_e h (fun q6 e6 h => ?_)
    refine y_callVi (As := [.int 4, .int q5.1, .int (-2), .int 0]) (q := q6) cv_RX12_307 dX12_plain_91 k0 rfl (Nat.le_of_ble_eq_true rfl) (by omega) (S_X12_shared hS k0 e6) ?_
    obtain rfl := Option.some.inj h
    exact y_iret rfl dX12_plain_94

def f_X12_plain_31 (F P : Nat) (S : xSt) (self_X12_plain : Nat → Int32 → xDt → Option (Int32 × xDt)) (v0 : Nat) (v1 : Int32) (v2 : Int32) (s0 : Int32) (D : xDt) : Option (Int32 × xDt) :=
  xgrd (xin v1 (xl S (xr S v0 10))) (if 0 ≤ (D.1 (xr S v0 10) (v1).toNatClampNeg) then (xgrd (xin v1 (xl S (xr S v0 10))) ((self_X12_plain v0 (D.1 (xr S v0 10) (v1).toNatClampNeg) D).bind fun q3 => f_X12_plain_56 F P S self_X12_plain v0 v1 v2 s0 q3.1 q3.2)) else (f_X12_plain_56 F P S self_X12_plain v0 v1 v2 s0 (-2) D))
set_option maxHeartbeats 4000000 in
theorem t_X12_plain_31 {F P : Nat} {S : xSt} (hS : xWF S) {hh : Nat} (hhc : 2 ≤ hh) {self_X12_plain : Nat → Int32 → xDt → Option (Int32 × xDt)} (hself_X12_plain : ∀ {v0 : Nat} {v1 : Int32} {D : xDt} {r : Int32 × xDt}, xK S v0 12 → self_X12_plain v0 v1 D = some r → xSp md_X12_plain (hh, 0, 0) [.ref v0, .int v1] (S, D) (xQi S r)) {v0 : Nat} {v1 : Int32} {v2 : Int32} {s0 : Int32} {D : xDt} {r : Int32 × xDt} (k0 : xK S v0 12) (h : f_X12_plain_31 F P S self_X12_plain v0 v1 v2 s0 D = some r) : yEx md_X12_plain (hh + 1) 31 [(0, .ref v0), (1, .int v1), (2, .int v2)] [.int s0] S D (xQi S r) := by
  unfold f_X12_plain_31 at h
  refine y_istore_n s0 rfl [(3, .int s0), (0, .ref v0), (1, .int v1), (2, .int v2)] dX12_plain_31 (by show _ < 8; decide) rfl ?_
  refine x_aload_n dX12_plain_32 1 rfl ?_
  refine y_getr (kd := 100) hS fl_RX12_78 dX12_plain_33 rfl k0 ?_
  refine x_iload_n dX12_plain_36 2 rfl ?_
  refine xgrd_e h (fun g1 h => ?_)
  refine y_iald dX12_plain_37 ((hS.f k0 10 100 rfl).2) g1 ?_
  refine x_if_ge 46 dX12_plain_38 (by decide) (fun c => ?_) (fun c => ?_)
  · rw [if_pos c] at h
    refine x_aload_n dX12_plain_46 1 rfl ?_
    refine x_aload_n dX12_plain_47 1 rfl ?_
    refine y_getr (kd := 100) hS fl_RX12_78 dX12_plain_48 rfl k0 ?_
    refine x_iload_n dX12_plain_51 2 rfl ?_
    refine xgrd_e h (fun g2 h => ?_)
    refine y_iald dX12_plain_52 ((hS.f k0 10 100 rfl).2) g2 ?_
    refine xbnd_e h (fun q3 e3 h => ?_)
    refine y_callVi (As := [.int (D.1 (xr S v0 10) (v1).toNatClampNeg)]) (q := q3) cv_RX12_304 dX12_plain_53 k0 rfl (Nat.le_of_ble_eq_true rfl) (by omega) (hself_X12_plain k0 e3) ?_
    refine x_lv (lv' := [(0, .ref v0), (1, .int v1), (2, .int v2), (3, .int s0)]) [1, 2, 3, 0] rfl ?_
    exact t_X12_plain_56 hS hhc hself_X12_plain k0 h
  · rw [if_neg c] at h
    refine x_bipush (-2) dX12_plain_41 (by decide) ?_
    refine x_goto 56 dX12_plain_43 (by decide) ?_
    refine x_lv (lv' := [(0, .ref v0), (1, .int v1), (2, .int v2), (3, .int s0)]) [1, 2, 3, 0] rfl ?_
    exact t_X12_plain_56 hS hhc hself_X12_plain k0 h

def f_X12_plain_o (F P : Nat) (S : xSt) (self_X12_plain : Nat → Int32 → xDt → Option (Int32 × xDt)) (v0 : Nat) (v1 : Int32) (D : xDt) : Option (Int32 × xDt) :=
  xgrd (xin v1 (xl S (xr S v0 8))) (xlet (D.1 (xr S v0 8) (v1).toNatClampNeg) fun v2_2 => xgrd (xin v1 (xl S (xr S v0 9))) (if 0 ≤ (D.1 (xr S v0 9) (v1).toNatClampNeg) then (xgrd (xin v1 (xl S (xr S v0 9))) ((self_X12_plain v0 (D.1 (xr S v0 9) (v1).toNatClampNeg) D).bind fun q5 => f_X12_plain_31 F P S self_X12_plain v0 v1 v2_2 q5.1 q5.2)) else (f_X12_plain_31 F P S self_X12_plain v0 v1 v2_2 (-2) D)))
set_option maxHeartbeats 4000000 in
theorem S_X12_plain_o {F P : Nat} {S : xSt} (hS : xWF S) {hh : Nat} (hhc : 2 ≤ hh) {self_X12_plain : Nat → Int32 → xDt → Option (Int32 × xDt)} (hself_X12_plain : ∀ {v0 : Nat} {v1 : Int32} {D : xDt} {r : Int32 × xDt}, xK S v0 12 → self_X12_plain v0 v1 D = some r → xSp md_X12_plain (hh, 0, 0) [.ref v0, .int v1] (S, D) (xQi S r)) {v0 : Nat} {v1 : Int32} {D : xDt} {r : Int32 × xDt} (k0 : xK S v0 12) (h : f_X12_plain_o F P S self_X12_plain v0 v1 D = some r) : xSp md_X12_plain ((hh + 1), 0, 0) [.ref v0, .int v1] (S, D) (xQi S r) := by
  unfold f_X12_plain_o at h
  refine xEntry (by decide) (Nat.le_of_ble_eq_true rfl) ?_
  refine x_lv (lv' := [(0, .ref v0), (1, .int v1)]) [0, 1] rfl ?_
  refine x_aload_n dX12_plain_0 0 rfl ?_
  refine y_getr (kd := 100) hS fl_RX12_72 dX12_plain_1 rfl k0 ?_
  refine x_iload_n dX12_plain_4 1 rfl ?_
  refine xgrd_e h (fun g1 h => ?_)
  refine y_iald dX12_plain_5 ((hS.f k0 8 100 rfl).2) g1 ?_
  refine xlet_e h (fun v2_2 ev2_2 h => ?_)
  refine y_istore_n v2_2 ev2_2 [(2, .int v2_2), (0, .ref v0), (1, .int v1)] dX12_plain_6 (by show _ < 8; decide) rfl ?_
  refine x_aload_n dX12_plain_7 1 rfl ?_
  refine y_getr (kd := 100) hS fl_RX12_75 dX12_plain_8 rfl k0 ?_
  refine x_iload_n dX12_plain_11 2 rfl ?_
  refine xgrd_e h (fun g3 h => ?_)
  refine y_iald dX12_plain_12 ((hS.f k0 9 100 rfl).2) g3 ?_
  refine x_if_ge 21 dX12_plain_13 (by decide) (fun c => ?_) (fun c => ?_)
  · rw [if_pos c] at h
    refine x_aload_n dX12_plain_21 1 rfl ?_
    refine x_aload_n dX12_plain_22 1 rfl ?_
    refine y_getr (kd := 100) hS fl_RX12_75 dX12_plain_23 rfl k0 ?_
    refine x_iload_n dX12_plain_26 2 rfl ?_
    refine xgrd_e h (fun g4 h => ?_)
    refine y_iald dX12_plain_27 ((hS.f k0 9 100 rfl).2) g4 ?_
    refine xbnd_e h (fun q5 e5 h => ?_)
    refine y_callVi (As := [.int (D.1 (xr S v0 9) (v1).toNatClampNeg)]) (q := q5) cv_RX12_304 dX12_plain_28 k0 rfl (Nat.le_of_ble_eq_true rfl) (by omega) (hself_X12_plain k0 e5) ?_
    refine x_lv (lv' := [(0, .ref v0), (1, .int v1), (2, .int v2_2)]) [1, 2, 0] rfl ?_
    exact t_X12_plain_31 hS hhc hself_X12_plain k0 h
  · rw [if_neg c] at h
    refine x_bipush (-2) dX12_plain_16 (by decide) ?_
    refine x_goto 31 dX12_plain_18 (by decide) ?_
    refine x_lv (lv' := [(0, .ref v0), (1, .int v1), (2, .int v2_2)]) [1, 2, 0] rfl ?_
    exact t_X12_plain_31 hS hhc hself_X12_plain k0 h

def f_X12_plain (F P : Nat) (S : xSt) : Nat → Nat → Int32 → xDt → Option (Int32 × xDt)
  | 0 => fun _ _ _ => none
  | n + 1 => f_X12_plain_o F P S (f_X12_plain F P S n)
theorem S_X12_plain {F P : Nat} {S : xSt} (hS : xWF S) : ∀ (n : Nat) {v0 : Nat} {v1 : Int32} {D : xDt} {r : Int32 × xDt}, xK S v0 12 → f_X12_plain F P S n v0 v1 D = some r → xSp md_X12_plain (n + 2, 0, 0) [.ref v0, .int v1] (S, D) (xQi S r) := by
  intro n
  induction n with
  | zero => intros; rename_i h; cases h
  | succ n ih =>
    intro v0 v1 D r k0 h
    have := S_X12_plain_o hS (hh := n + 2) (by omega) (fun k0 h => ih k0 h) k0 h
    rw [show n + 1 + 2 = n + 2 + 1 by omega]
    exact this

theorem dX12_inBase_0 : decode cX12_inBase 0 = .ok (.iconst 0, 1) := by decide +kernel
theorem dX12_inBase_1 : decode cX12_inBase 1 = .ok (.istore_n 2, 1) := by decide +kernel
theorem dX12_inBase_2 : decode cX12_inBase 2 = .ok (.iload_n 2, 1) := by decide +kernel
theorem dX12_inBase_3 : decode cX12_inBase 3 = .ok (.aload_n 0, 1) := by decide +kernel
theorem dX12_inBase_4 : decode cX12_inBase 4 = .ok (.getfield 310, 3) := by decide +kernel
theorem dX12_inBase_7 : decode cX12_inBase 7 = .ok (.if_icmp .ge 20, 3) := by decide +kernel
theorem dX12_inBase_10 : decode cX12_inBase 10 = .ok (.aload_n 0, 1) := by decide +kernel
theorem dX12_inBase_11 : decode cX12_inBase 11 = .ok (.getfield 134, 3) := by decide +kernel
theorem dX12_inBase_14 : decode cX12_inBase 14 = .ok (.iload_n 2, 1) := by decide +kernel
theorem dX12_inBase_15 : decode cX12_inBase 15 = .ok (.iaload, 1) := by decide +kernel
theorem dX12_inBase_16 : decode cX12_inBase 16 = .ok (.iload_n 1, 1) := by decide +kernel
theorem dX12_inBase_17 : decode cX12_inBase 17 = .ok (.if_icmp .ne 4, 3) := by decide +kernel
theorem dX12_inBase_20 : decode cX12_inBase 20 = .ok (.return_, 1) := by decide +kernel
theorem dX12_inBase_21 : decode cX12_inBase 21 = .ok (.iinc 2 1, 3) := by decide +kernel
theorem dX12_inBase_24 : decode cX12_inBase 24 = .ok (.goto (-22), 3) := by decide +kernel
theorem dX12_inBase_27 : decode cX12_inBase 27 = .ok (.aload_n 0, 1) := by decide +kernel
theorem dX12_inBase_28 : decode cX12_inBase 28 = .ok (.getfield 134, 3) := by decide +kernel
theorem dX12_inBase_31 : decode cX12_inBase 31 = .ok (.aload_n 0, 1) := by decide +kernel
theorem dX12_inBase_32 : decode cX12_inBase 32 = .ok (.getfield 310, 3) := by decide +kernel
theorem dX12_inBase_35 : decode cX12_inBase 35 = .ok (.iload_n 1, 1) := by decide +kernel
theorem dX12_inBase_36 : decode cX12_inBase 36 = .ok (.iastore, 1) := by decide +kernel
theorem dX12_inBase_37 : decode cX12_inBase 37 = .ok (.aload_n 0, 1) := by decide +kernel
theorem dX12_inBase_38 : decode cX12_inBase 38 = .ok (.dup, 1) := by decide +kernel
theorem dX12_inBase_39 : decode cX12_inBase 39 = .ok (.getfield 310, 3) := by decide +kernel
theorem dX12_inBase_42 : decode cX12_inBase 42 = .ok (.iconst 1, 1) := by decide +kernel
theorem dX12_inBase_43 : decode cX12_inBase 43 = .ok (.iadd, 1) := by decide +kernel
theorem dX12_inBase_44 : decode cX12_inBase 44 = .ok (.putfield 310, 3) := by decide +kernel
theorem dX12_inBase_47 : decode cX12_inBase 47 = .ok (.return_, 1) := by decide +kernel
def f_X12_inBase_2s (F P : Nat) (S : xSt) (rec_2 : Nat → Int32 → Int32 → xDt → Option (xDt)) (v0 : Nat) (v1 : Int32) (v2 : Int32) (D : xDt) : Option (xDt) :=
  if (D.1 v0 38) ≤ v2 then (xgrd (xin (D.1 v0 38) (xl S (xr S v0 37))) (xlet (xup D.1 (xr S v0 37) (D.1 v0 38).toNatClampNeg v1, D.2) fun D2 => xlet (xup D2.1 v0 38 ((D2.1 v0 38) + 1), D2.2) fun D3 => some D3)) else (xgrd (xin v2 (xl S (xr S v0 37))) (if (D.1 (xr S v0 37) (v2).toNatClampNeg) = v1 then (some D) else (xlet (v2 + 1) fun v2_5 => rec_2 v0 v1 v2_5 D)))
def f_X12_inBase_2 (F P : Nat) (S : xSt) : Nat → Nat → Int32 → Int32 → xDt → Option (xDt)
  | 0 => fun _ _ _ _ => none
  | n + 1 => f_X12_inBase_2s F P S (f_X12_inBase_2 F P S n)
set_option maxHeartbeats 4000000 in
theorem t_X12_inBase_2s {F P : Nat} {S : xSt} (hS : xWF S) {rec_2 : Nat → Int32 → Int32 → xDt → Option (xDt)} (hrec_2 : ∀ {v0 : Nat} {v1 : Int32} {v2 : Int32} {D : xDt} {r : xDt}, xK S v0 12 → rec_2 v0 v1 v2 D = some r → yEx md_X12_inBase 0 2 [(0, .ref v0), (1, .int v1), (2, .int v2)] [] S D (xQv S r)) {v0 : Nat} {v1 : Int32} {v2 : Int32} {D : xDt} {r : xDt} (k0 : xK S v0 12) (h : f_X12_inBase_2s F P S rec_2 v0 v1 v2 D = some r) : yEx md_X12_inBase 0 2 [(0, .ref v0), (1, .int v1), (2, .int v2)] [] S D (xQv S r) := by
  unfold f_X12_inBase_2s at h
  refine x_iload_n dX12_inBase_2 2 rfl ?_
  refine x_aload_n dX12_inBase_3 0 rfl ?_
  refine y_geti fl_RX12_310 dX12_inBase_4 rfl k0 ?_
  refine x_icmp_ge 27 dX12_inBase_7 (by decide) (fun c => ?_) (fun c => ?_)
  · rw [if_pos c] at h
    refine x_aload_n dX12_inBase_27 0 rfl ?_
    refine y_getr (kd := 100) hS fl_RX12_134 dX12_inBase_28 rfl k0 ?_
    refine x_aload_n dX12_inBase_31 0 rfl ?_
    refine y_geti fl_RX12_310 dX12_inBase_32 rfl k0 ?_
    refine x_iload_n dX12_inBase_35 1 rfl ?_
    refine xgrd_e h (fun g1 h => ?_)
    refine xlet_e h (fun D2 eD2 h => ?_)
    refine y_iast dX12_inBase_36 ((hS.f k0 37 100 rfl).2) g1 eD2 ?_
    refine x_aload_n dX12_inBase_37 0 rfl ?_
    refine x_dup dX12_inBase_38 rfl ?_
    refine y_geti fl_RX12_310 dX12_inBase_39 rfl k0 ?_
    refine x_iconst 1 dX12_inBase_42 (by decide) ?_
    refine x_iadd dX12_inBase_43 ?_
    refine xlet_e h (fun D3 eD3 h => ?_)
    refine y_puti fp_RX12_310 dX12_inBase_44 rfl k0 eD3 ?_
    obtain rfl := Option.some.inj h
    exact y_vret rfl dX12_inBase_47
  · rw [if_neg c] at h
    refine x_aload_n dX12_inBase_10 0 rfl ?_
    refine y_getr (kd := 100) hS fl_RX12_134 dX12_inBase_11 rfl k0 ?_
    refine x_iload_n dX12_inBase_14 2 rfl ?_
    refine xgrd_e h (fun g4 h => ?_)
    refine y_iald dX12_inBase_15 ((hS.f k0 37 100 rfl).2) g4 ?_
    refine x_iload_n dX12_inBase_16 1 rfl ?_
    refine x_icmp_ne 21 dX12_inBase_17 (by decide) (fun c => ?_) (fun c => ?_)
    · rw [if_neg c] at h
      refine xlet_e h (fun v2_5 ev2_5 h => ?_)
      refine y_iinc v2_5 ev2_5 (by decide) [(2, .int v2_5), (0, .ref v0), (1, .int v1)] dX12_inBase_21 2 rfl (by show _ < 3; decide) rfl ?_
      refine x_goto 2 dX12_inBase_24 (by decide) ?_
      refine x_lv (lv' := [(0, .ref v0), (1, .int v1), (2, .int v2_5)]) [1, 2, 0] rfl ?_
      exact hrec_2 k0 h
    · rw [if_pos c] at h
      obtain rfl := Option.some.inj h
      exact y_vret rfl dX12_inBase_20
theorem t_X12_inBase_2 {F P : Nat} {S : xSt} (hS : xWF S) : ∀ (n : Nat) {v0 : Nat} {v1 : Int32} {v2 : Int32} {D : xDt} {r : xDt}, xK S v0 12 → f_X12_inBase_2 F P S n v0 v1 v2 D = some r → yEx md_X12_inBase 0 2 [(0, .ref v0), (1, .int v1), (2, .int v2)] [] S D (xQv S r) := by
  intro n
  induction n with
  | zero => intros; rename_i h; cases h
  | succ n ih =>
    intro v0 v1 v2 D r k0 h
    exact t_X12_inBase_2s hS (fun k0 h => ih k0 h) k0 h

def f_X12_inBase (F P : Nat) (S : xSt) (v0 : Nat) (v1 : Int32) (D : xDt) : Option (xDt) :=
  f_X12_inBase_2 F P S F v0 v1 0 D
set_option maxHeartbeats 4000000 in
theorem S_X12_inBase {F P : Nat} {S : xSt} (hS : xWF S) {v0 : Nat} {v1 : Int32} {D : xDt} {r : xDt} (k0 : xK S v0 12) (h : f_X12_inBase F P S v0 v1 D = some r) : xSp md_X12_inBase (0, 0, 0) [.ref v0, .int v1] (S, D) (xQv S r) := by
  unfold f_X12_inBase at h
  refine xEntry (by decide) (Nat.le_of_ble_eq_true rfl) ?_
  refine x_lv (lv' := [(0, .ref v0), (1, .int v1)]) [0, 1] rfl ?_
  refine x_iconst 0 dX12_inBase_0 (by decide) ?_
  refine y_istore_n 0 rfl [(2, .int 0), (0, .ref v0), (1, .int v1)] dX12_inBase_1 (by show _ < 3; decide) rfl ?_
  refine x_lv (lv' := [(0, .ref v0), (1, .int v1), (2, .int 0)]) [1, 2, 0] rfl ?_
  exact t_X12_inBase_2 hS F k0 h

theorem dX12_placeInBase_0 : decode cX12_placeInBase 0 = .ok (.bipush (-2), 2) := by decide +kernel
theorem dX12_placeInBase_2 : decode cX12_placeInBase 2 = .ok (.istore_n 2, 1) := by decide +kernel
theorem dX12_placeInBase_3 : decode cX12_placeInBase 3 = .ok (.iconst 0, 1) := by decide +kernel
theorem dX12_placeInBase_4 : decode cX12_placeInBase 4 = .ok (.istore_n 3, 1) := by decide +kernel
theorem dX12_placeInBase_5 : decode cX12_placeInBase 5 = .ok (.iload_n 3, 1) := by decide +kernel
theorem dX12_placeInBase_6 : decode cX12_placeInBase 6 = .ok (.aload_n 0, 1) := by decide +kernel
theorem dX12_placeInBase_7 : decode cX12_placeInBase 7 = .ok (.getfield 310, 3) := by decide +kernel
theorem dX12_placeInBase_10 : decode cX12_placeInBase 10 = .ok (.if_icmp .ge 25, 3) := by decide +kernel
theorem dX12_placeInBase_13 : decode cX12_placeInBase 13 = .ok (.aload_n 0, 1) := by decide +kernel
theorem dX12_placeInBase_14 : decode cX12_placeInBase 14 = .ok (.getfield 134, 3) := by decide +kernel
theorem dX12_placeInBase_17 : decode cX12_placeInBase 17 = .ok (.iload_n 3, 1) := by decide +kernel
theorem dX12_placeInBase_18 : decode cX12_placeInBase 18 = .ok (.iaload, 1) := by decide +kernel
theorem dX12_placeInBase_19 : decode cX12_placeInBase 19 = .ok (.iload_n 1, 1) := by decide +kernel
theorem dX12_placeInBase_20 : decode cX12_placeInBase 20 = .ok (.if_icmp .ne 7, 3) := by decide +kernel
theorem dX12_placeInBase_23 : decode cX12_placeInBase 23 = .ok (.iload_n 3, 1) := by decide +kernel
theorem dX12_placeInBase_24 : decode cX12_placeInBase 24 = .ok (.goto 4, 3) := by decide +kernel
theorem dX12_placeInBase_27 : decode cX12_placeInBase 27 = .ok (.iload_n 2, 1) := by decide +kernel
theorem dX12_placeInBase_28 : decode cX12_placeInBase 28 = .ok (.istore_n 2, 1) := by decide +kernel
theorem dX12_placeInBase_29 : decode cX12_placeInBase 29 = .ok (.iinc 3 1, 3) := by decide +kernel
theorem dX12_placeInBase_32 : decode cX12_placeInBase 32 = .ok (.goto (-27), 3) := by decide +kernel
theorem dX12_placeInBase_35 : decode cX12_placeInBase 35 = .ok (.iload_n 2, 1) := by decide +kernel
theorem dX12_placeInBase_36 : decode cX12_placeInBase 36 = .ok (.ireturn, 1) := by decide +kernel
def f_X12_placeInBase_28 (F P : Nat) (S : xSt) (rec_5 : Nat → Int32 → Int32 → Int32 → xDt → Option (Int32 × xDt)) (v0 : Nat) (v1 : Int32) (v3 : Int32) (s0 : Int32) (D : xDt) : Option (Int32 × xDt) :=
  xlet (v3 + 1) fun v3_1 => rec_5 v0 v1 s0 v3_1 D
set_option maxHeartbeats 4000000 in
theorem t_X12_placeInBase_28 {F P : Nat} {S : xSt} (hS : xWF S) {rec_5 : Nat → Int32 → Int32 → Int32 → xDt → Option (Int32 × xDt)} (hrec_5 : ∀ {v0 : Nat} {v1 : Int32} {v2 : Int32} {v3 : Int32} {D : xDt} {r : Int32 × xDt}, xK S v0 12 → rec_5 v0 v1 v2 v3 D = some r → yEx md_X12_placeInBase 0 5 [(0, .ref v0), (1, .int v1), (2, .int v2), (3, .int v3)] [] S D (xQi S r)) {v0 : Nat} {v1 : Int32} {v3 : Int32} {s0 : Int32} {D : xDt} {r : Int32 × xDt} (k0 : xK S v0 12) (h : f_X12_placeInBase_28 F P S rec_5 v0 v1 v3 s0 D = some r) : yEx md_X12_placeInBase 0 28 [(0, .ref v0), (1, .int v1), (3, .int v3)] [.int s0] S D (xQi S r) := by
  unfold f_X12_placeInBase_28 at h
  refine y_istore_n s0 rfl [(2, .int s0), (0, .ref v0), (1, .int v1), (3, .int v3)] dX12_placeInBase_28 (by show _ < 4; decide) rfl ?_
  refine xlet_e h (fun v3_1 ev3_1 h => ?_)
  refine y_iinc v3_1 ev3_1 (by decide) [(3, .int v3_1), (2, .int s0), (0, .ref v0), (1, .int v1)] dX12_placeInBase_29 3 rfl (by show _ < 4; decide) rfl ?_
  refine x_goto 5 dX12_placeInBase_32 (by decide) ?_
  refine x_lv (lv' := [(0, .ref v0), (1, .int v1), (2, .int s0), (3, .int v3_1)]) [2, 3, 1, 0] rfl ?_
  exact hrec_5 k0 h

def f_X12_placeInBase_5s (F P : Nat) (S : xSt) (rec_5 : Nat → Int32 → Int32 → Int32 → xDt → Option (Int32 × xDt)) (v0 : Nat) (v1 : Int32) (v2 : Int32) (v3 : Int32) (D : xDt) : Option (Int32 × xDt) :=
  if (D.1 v0 38) ≤ v3 then (some (v2, D)) else (xgrd (xin v3 (xl S (xr S v0 37))) (if (D.1 (xr S v0 37) (v3).toNatClampNeg) = v1 then (f_X12_placeInBase_28 F P S rec_5 v0 v1 v3 v3 D) else (f_X12_placeInBase_28 F P S rec_5 v0 v1 v3 v2 D)))
def f_X12_placeInBase_5 (F P : Nat) (S : xSt) : Nat → Nat → Int32 → Int32 → Int32 → xDt → Option (Int32 × xDt)
  | 0 => fun _ _ _ _ _ => none
  | n + 1 => f_X12_placeInBase_5s F P S (f_X12_placeInBase_5 F P S n)
set_option maxHeartbeats 4000000 in
theorem t_X12_placeInBase_5s {F P : Nat} {S : xSt} (hS : xWF S) {rec_5 : Nat → Int32 → Int32 → Int32 → xDt → Option (Int32 × xDt)} (hrec_5 : ∀ {v0 : Nat} {v1 : Int32} {v2 : Int32} {v3 : Int32} {D : xDt} {r : Int32 × xDt}, xK S v0 12 → rec_5 v0 v1 v2 v3 D = some r → yEx md_X12_placeInBase 0 5 [(0, .ref v0), (1, .int v1), (2, .int v2), (3, .int v3)] [] S D (xQi S r)) {v0 : Nat} {v1 : Int32} {v2 : Int32} {v3 : Int32} {D : xDt} {r : Int32 × xDt} (k0 : xK S v0 12) (h : f_X12_placeInBase_5s F P S rec_5 v0 v1 v2 v3 D = some r) : yEx md_X12_placeInBase 0 5 [(0, .ref v0), (1, .int v1), (2, .int v2), (3, .int v3)] [] S D (xQi S r) := by
  unfold f_X12_placeInBase_5s at h
  refine x_iload_n dX12_placeInBase_5 3 rfl ?_
  refine x_aload_n dX12_placeInBase_6 0 rfl ?_
  refine y_geti fl_RX12_310 dX12_placeInBase_7 rfl k0 ?_
  refine x_icmp_ge 35 dX12_placeInBase_10 (by decide) (fun c => ?_) (fun c => ?_)
  · rw [if_pos c] at h
    refine x_iload_n dX12_placeInBase_35 2 rfl ?_
    obtain rfl := Option.some.inj h
    exact y_iret rfl dX12_placeInBase_36
  · rw [if_neg c] at h
    refine x_aload_n dX12_placeInBase_13 0 rfl ?_
    refine y_getr (kd := 100) hS fl_RX12_134 dX12_placeInBase_14 rfl k0 ?_
    refine x_iload_n dX12_placeInBase_17 3 rfl ?_
    refine xgrd_e h (fun g1 h => ?_)
    refine y_iald dX12_placeInBase_18 ((hS.f k0 37 100 rfl).2) g1 ?_
    refine x_iload_n dX12_placeInBase_19 1 rfl ?_
    refine x_icmp_ne 27 dX12_placeInBase_20 (by decide) (fun c => ?_) (fun c => ?_)
    · rw [if_neg c] at h
      refine x_iload_n dX12_placeInBase_27 2 rfl ?_
      refine x_lv (lv' := [(0, .ref v0), (1, .int v1), (3, .int v3)]) [0, 1, 3] rfl ?_
      exact t_X12_placeInBase_28 hS hrec_5 k0 h
    · rw [if_pos c] at h
      refine x_iload_n dX12_placeInBase_23 3 rfl ?_
      refine x_goto 28 dX12_placeInBase_24 (by decide) ?_
      refine x_lv (lv' := [(0, .ref v0), (1, .int v1), (3, .int v3)]) [0, 1, 3] rfl ?_
      exact t_X12_placeInBase_28 hS hrec_5 k0 h
theorem t_X12_placeInBase_5 {F P : Nat} {S : xSt} (hS : xWF S) : ∀ (n : Nat) {v0 : Nat} {v1 : Int32} {v2 : Int32} {v3 : Int32} {D : xDt} {r : Int32 × xDt}, xK S v0 12 → f_X12_placeInBase_5 F P S n v0 v1 v2 v3 D = some r → yEx md_X12_placeInBase 0 5 [(0, .ref v0), (1, .int v1), (2, .int v2), (3, .int v3)] [] S D (xQi S r) := by
  intro n
  induction n with
  | zero => intros; rename_i h; cases h
  | succ n ih =>
    intro v0 v1 v2 v3 D r k0 h
    exact t_X12_placeInBase_5s hS (fun k0 h => ih k0 h) k0 h

def f_X12_placeInBase (F P : Nat) (S : xSt) (v0 : Nat) (v1 : Int32) (D : xDt) : Option (Int32 × xDt) :=
  f_X12_placeInBase_5 F P S F v0 v1 (-2) 0 D
set_option maxHeartbeats 4000000 in
theorem S_X12_placeInBase {F P : Nat} {S : xSt} (hS : xWF S) {v0 : Nat} {v1 : Int32} {D : xDt} {r : Int32 × xDt} (k0 : xK S v0 12) (h : f_X12_placeInBase F P S v0 v1 D = some r) : xSp md_X12_placeInBase (0, 0, 0) [.ref v0, .int v1] (S, D) (xQi S r) := by
  unfold f_X12_placeInBase at h
  refine xEntry (by decide) (Nat.le_of_ble_eq_true rfl) ?_
  refine x_lv (lv' := [(0, .ref v0), (1, .int v1)]) [0, 1] rfl ?_
  refine x_bipush (-2) dX12_placeInBase_0 (by decide) ?_
  refine y_istore_n (-2) rfl [(2, .int (-2)), (0, .ref v0), (1, .int v1)] dX12_placeInBase_2 (by show _ < 4; decide) rfl ?_
  refine x_iconst 0 dX12_placeInBase_3 (by decide) ?_
  refine y_istore_n 0 rfl [(3, .int 0), (2, .int (-2)), (0, .ref v0), (1, .int v1)] dX12_placeInBase_4 (by show _ < 4; decide) rfl ?_
  refine x_lv (lv' := [(0, .ref v0), (1, .int v1), (2, .int (-2)), (3, .int 0)]) [2, 3, 1, 0] rfl ?_
  exact t_X12_placeInBase_5 hS F k0 h

theorem dX12_reckon_0 : decode cX12_reckon 0 = .ok (.sipush 12800, 3) := by decide +kernel
theorem dX12_reckon_3 : decode cX12_reckon 3 = .ok (.istore_n 3, 1) := by decide +kernel
theorem dX12_reckon_4 : decode cX12_reckon 4 = .ok (.iload_n 3, 1) := by decide +kernel
theorem dX12_reckon_5 : decode cX12_reckon 5 = .ok (.iload_n 2, 1) := by decide +kernel
theorem dX12_reckon_6 : decode cX12_reckon 6 = .ok (.if_icmp .ge 225, 3) := by decide +kernel
theorem dX12_reckon_9 : decode cX12_reckon 9 = .ok (.aload_n 0, 1) := by decide +kernel
theorem dX12_reckon_10 : decode cX12_reckon 10 = .ok (.getfield 75, 3) := by decide +kernel
theorem dX12_reckon_13 : decode cX12_reckon 13 = .ok (.iload_n 3, 1) := by decide +kernel
theorem dX12_reckon_14 : decode cX12_reckon 14 = .ok (.iaload, 1) := by decide +kernel
theorem dX12_reckon_15 : decode cX12_reckon 15 = .ok (.ifCond .lt 25, 3) := by decide +kernel
theorem dX12_reckon_18 : decode cX12_reckon 18 = .ok (.aload_n 0, 1) := by decide +kernel
theorem dX12_reckon_19 : decode cX12_reckon 19 = .ok (.getfield 150, 3) := by decide +kernel
theorem dX12_reckon_22 : decode cX12_reckon 22 = .ok (.aload_n 0, 1) := by decide +kernel
theorem dX12_reckon_23 : decode cX12_reckon 23 = .ok (.getfield 75, 3) := by decide +kernel
theorem dX12_reckon_26 : decode cX12_reckon 26 = .ok (.iload_n 3, 1) := by decide +kernel
theorem dX12_reckon_27 : decode cX12_reckon 27 = .ok (.iaload, 1) := by decide +kernel
theorem dX12_reckon_28 : decode cX12_reckon 28 = .ok (.sipush 12800, 3) := by decide +kernel
theorem dX12_reckon_31 : decode cX12_reckon 31 = .ok (.isub, 1) := by decide +kernel
theorem dX12_reckon_32 : decode cX12_reckon 32 = .ok (.baload, 1) := by decide +kernel
theorem dX12_reckon_33 : decode cX12_reckon 33 = .ok (.ifCond .eq 7, 3) := by decide +kernel
theorem dX12_reckon_36 : decode cX12_reckon 36 = .ok (.iconst 1, 1) := by decide +kernel
theorem dX12_reckon_37 : decode cX12_reckon 37 = .ok (.goto 4, 3) := by decide +kernel
theorem dX12_reckon_40 : decode cX12_reckon 40 = .ok (.iconst 0, 1) := by decide +kernel
theorem dX12_reckon_41 : decode cX12_reckon 41 = .ok (.istore 4, 2) := by decide +kernel
theorem dX12_reckon_43 : decode cX12_reckon 43 = .ok (.aload_n 0, 1) := by decide +kernel
theorem dX12_reckon_44 : decode cX12_reckon 44 = .ok (.getfield 78, 3) := by decide +kernel
theorem dX12_reckon_47 : decode cX12_reckon 47 = .ok (.iload_n 3, 1) := by decide +kernel
theorem dX12_reckon_48 : decode cX12_reckon 48 = .ok (.iaload, 1) := by decide +kernel
theorem dX12_reckon_49 : decode cX12_reckon 49 = .ok (.ifCond .lt 25, 3) := by decide +kernel
theorem dX12_reckon_52 : decode cX12_reckon 52 = .ok (.aload_n 0, 1) := by decide +kernel
theorem dX12_reckon_53 : decode cX12_reckon 53 = .ok (.getfield 150, 3) := by decide +kernel
theorem dX12_reckon_56 : decode cX12_reckon 56 = .ok (.aload_n 0, 1) := by decide +kernel
theorem dX12_reckon_57 : decode cX12_reckon 57 = .ok (.getfield 78, 3) := by decide +kernel
theorem dX12_reckon_60 : decode cX12_reckon 60 = .ok (.iload_n 3, 1) := by decide +kernel
theorem dX12_reckon_61 : decode cX12_reckon 61 = .ok (.iaload, 1) := by decide +kernel
theorem dX12_reckon_62 : decode cX12_reckon 62 = .ok (.sipush 12800, 3) := by decide +kernel
theorem dX12_reckon_65 : decode cX12_reckon 65 = .ok (.isub, 1) := by decide +kernel
theorem dX12_reckon_66 : decode cX12_reckon 66 = .ok (.baload, 1) := by decide +kernel
theorem dX12_reckon_67 : decode cX12_reckon 67 = .ok (.ifCond .eq 7, 3) := by decide +kernel
theorem dX12_reckon_70 : decode cX12_reckon 70 = .ok (.iconst 1, 1) := by decide +kernel
theorem dX12_reckon_71 : decode cX12_reckon 71 = .ok (.goto 4, 3) := by decide +kernel
theorem dX12_reckon_74 : decode cX12_reckon 74 = .ok (.iconst 0, 1) := by decide +kernel
theorem dX12_reckon_75 : decode cX12_reckon 75 = .ok (.istore 5, 2) := by decide +kernel
theorem dX12_reckon_77 : decode cX12_reckon 77 = .ok (.aload_n 0, 1) := by decide +kernel
theorem dX12_reckon_78 : decode cX12_reckon 78 = .ok (.getfield 72, 3) := by decide +kernel
theorem dX12_reckon_81 : decode cX12_reckon 81 = .ok (.iload_n 3, 1) := by decide +kernel
theorem dX12_reckon_82 : decode cX12_reckon 82 = .ok (.iaload, 1) := by decide +kernel
theorem dX12_reckon_83 : decode cX12_reckon 83 = .ok (.istore 6, 2) := by decide +kernel
theorem dX12_reckon_85 : decode cX12_reckon 85 = .ok (.iload 6, 2) := by decide +kernel
theorem dX12_reckon_87 : decode cX12_reckon 87 = .ok (.iconst 3, 1) := by decide +kernel
theorem dX12_reckon_88 : decode cX12_reckon 88 = .ok (.if_icmp .eq 79, 3) := by decide +kernel
theorem dX12_reckon_91 : decode cX12_reckon 91 = .ok (.iload 6, 2) := by decide +kernel
theorem dX12_reckon_93 : decode cX12_reckon 93 = .ok (.iconst 4, 1) := by decide +kernel
theorem dX12_reckon_94 : decode cX12_reckon 94 = .ok (.if_icmp .ne 8, 3) := by decide +kernel
theorem dX12_reckon_97 : decode cX12_reckon 97 = .ok (.iload 4, 2) := by decide +kernel
theorem dX12_reckon_99 : decode cX12_reckon 99 = .ok (.ifCond .eq 68, 3) := by decide +kernel
theorem dX12_reckon_102 : decode cX12_reckon 102 = .ok (.iload 6, 2) := by decide +kernel
theorem dX12_reckon_104 : decode cX12_reckon 104 = .ok (.bipush 10, 2) := by decide +kernel
theorem dX12_reckon_106 : decode cX12_reckon 106 = .ok (.if_icmp .ne 10, 3) := by decide +kernel
theorem dX12_reckon_109 : decode cX12_reckon 109 = .ok (.iload 4, 2) := by decide +kernel
theorem dX12_reckon_111 : decode cX12_reckon 111 = .ok (.iload 5, 2) := by decide +kernel
theorem dX12_reckon_113 : decode cX12_reckon 113 = .ok (.if_icmp .eq 54, 3) := by decide +kernel
theorem dX12_reckon_116 : decode cX12_reckon 116 = .ok (.iload 6, 2) := by decide +kernel
theorem dX12_reckon_118 : decode cX12_reckon 118 = .ok (.bipush 11, 2) := by decide +kernel
theorem dX12_reckon_120 : decode cX12_reckon 120 = .ok (.if_icmp .ne 13, 3) := by decide +kernel
theorem dX12_reckon_123 : decode cX12_reckon 123 = .ok (.iload 4, 2) := by decide +kernel
theorem dX12_reckon_125 : decode cX12_reckon 125 = .ok (.ifCond .eq 42, 3) := by decide +kernel
theorem dX12_reckon_128 : decode cX12_reckon 128 = .ok (.iload 5, 2) := by decide +kernel
theorem dX12_reckon_130 : decode cX12_reckon 130 = .ok (.ifCond .ne 37, 3) := by decide +kernel
theorem dX12_reckon_133 : decode cX12_reckon 133 = .ok (.iload 6, 2) := by decide +kernel
theorem dX12_reckon_135 : decode cX12_reckon 135 = .ok (.bipush 12, 2) := by decide +kernel
theorem dX12_reckon_137 : decode cX12_reckon 137 = .ok (.if_icmp .ne 13, 3) := by decide +kernel
theorem dX12_reckon_140 : decode cX12_reckon 140 = .ok (.iload 4, 2) := by decide +kernel
theorem dX12_reckon_142 : decode cX12_reckon 142 = .ok (.ifCond .ne 25, 3) := by decide +kernel
theorem dX12_reckon_145 : decode cX12_reckon 145 = .ok (.iload 5, 2) := by decide +kernel
theorem dX12_reckon_147 : decode cX12_reckon 147 = .ok (.ifCond .ne 20, 3) := by decide +kernel
theorem dX12_reckon_150 : decode cX12_reckon 150 = .ok (.iload 6, 2) := by decide +kernel
theorem dX12_reckon_152 : decode cX12_reckon 152 = .ok (.bipush 13, 2) := by decide +kernel
theorem dX12_reckon_154 : decode cX12_reckon 154 = .ok (.if_icmp .ne 17, 3) := by decide +kernel
theorem dX12_reckon_157 : decode cX12_reckon 157 = .ok (.iload 4, 2) := by decide +kernel
theorem dX12_reckon_159 : decode cX12_reckon 159 = .ok (.ifCond .eq 12, 3) := by decide +kernel
theorem dX12_reckon_162 : decode cX12_reckon 162 = .ok (.iload 5, 2) := by decide +kernel
theorem dX12_reckon_164 : decode cX12_reckon 164 = .ok (.ifCond .eq 7, 3) := by decide +kernel
theorem dX12_reckon_167 : decode cX12_reckon 167 = .ok (.iconst 1, 1) := by decide +kernel
theorem dX12_reckon_168 : decode cX12_reckon 168 = .ok (.goto 4, 3) := by decide +kernel
theorem dX12_reckon_171 : decode cX12_reckon 171 = .ok (.iconst 0, 1) := by decide +kernel
theorem dX12_reckon_172 : decode cX12_reckon 172 = .ok (.istore 7, 2) := by decide +kernel
theorem dX12_reckon_174 : decode cX12_reckon 174 = .ok (.iload 6, 2) := by decide +kernel
theorem dX12_reckon_176 : decode cX12_reckon 176 = .ok (.iconst 1, 1) := by decide +kernel
theorem dX12_reckon_177 : decode cX12_reckon 177 = .ok (.if_icmp .eq 16, 3) := by decide +kernel
theorem dX12_reckon_180 : decode cX12_reckon 180 = .ok (.iload 6, 2) := by decide +kernel
theorem dX12_reckon_182 : decode cX12_reckon 182 = .ok (.iconst 5, 1) := by decide +kernel
theorem dX12_reckon_183 : decode cX12_reckon 183 = .ok (.if_icmp .eq 10, 3) := by decide +kernel
theorem dX12_reckon_186 : decode cX12_reckon 186 = .ok (.iload 6, 2) := by decide +kernel
theorem dX12_reckon_188 : decode cX12_reckon 188 = .ok (.bipush 8, 2) := by decide +kernel
theorem dX12_reckon_190 : decode cX12_reckon 190 = .ok (.if_icmp .ne 23, 3) := by decide +kernel
theorem dX12_reckon_193 : decode cX12_reckon 193 = .ok (.iload_n 1, 1) := by decide +kernel
theorem dX12_reckon_194 : decode cX12_reckon 194 = .ok (.aload_n 0, 1) := by decide +kernel
theorem dX12_reckon_195 : decode cX12_reckon 195 = .ok (.iload_n 3, 1) := by decide +kernel
theorem dX12_reckon_196 : decode cX12_reckon 196 = .ok (.invokevirtual 313, 3) := by decide +kernel
theorem dX12_reckon_199 : decode cX12_reckon 199 = .ok (.ishr, 1) := by decide +kernel
theorem dX12_reckon_200 : decode cX12_reckon 200 = .ok (.iconst 1, 1) := by decide +kernel
theorem dX12_reckon_201 : decode cX12_reckon 201 = .ok (.iand, 1) := by decide +kernel
theorem dX12_reckon_202 : decode cX12_reckon 202 = .ok (.iconst 1, 1) := by decide +kernel
theorem dX12_reckon_203 : decode cX12_reckon 203 = .ok (.if_icmp .ne 7, 3) := by decide +kernel
theorem dX12_reckon_206 : decode cX12_reckon 206 = .ok (.iconst 1, 1) := by decide +kernel
theorem dX12_reckon_207 : decode cX12_reckon 207 = .ok (.goto 4, 3) := by decide +kernel
theorem dX12_reckon_210 : decode cX12_reckon 210 = .ok (.iconst 0, 1) := by decide +kernel
theorem dX12_reckon_211 : decode cX12_reckon 211 = .ok (.istore 7, 2) := by decide +kernel
theorem dX12_reckon_213 : decode cX12_reckon 213 = .ok (.aload_n 0, 1) := by decide +kernel
theorem dX12_reckon_214 : decode cX12_reckon 214 = .ok (.getfield 150, 3) := by decide +kernel
theorem dX12_reckon_217 : decode cX12_reckon 217 = .ok (.iload_n 3, 1) := by decide +kernel
theorem dX12_reckon_218 : decode cX12_reckon 218 = .ok (.sipush 12800, 3) := by decide +kernel
theorem dX12_reckon_221 : decode cX12_reckon 221 = .ok (.isub, 1) := by decide +kernel
theorem dX12_reckon_222 : decode cX12_reckon 222 = .ok (.iload 7, 2) := by decide +kernel
theorem dX12_reckon_224 : decode cX12_reckon 224 = .ok (.bastore, 1) := by decide +kernel
theorem dX12_reckon_225 : decode cX12_reckon 225 = .ok (.iinc 3 1, 3) := by decide +kernel
theorem dX12_reckon_228 : decode cX12_reckon 228 = .ok (.goto (-224), 3) := by decide +kernel
theorem dX12_reckon_231 : decode cX12_reckon 231 = .ok (.return_, 1) := by decide +kernel
def f_X12_reckon_213 (F P : Nat) (S : xSt) (rec_4 : Nat → Int32 → Int32 → Int32 → xDt → Option (xDt)) (v0 : Nat) (v1 : Int32) (v2 : Int32) (v3 : Int32) (v7 : Int32) (D : xDt) : Option (xDt) :=
  xgrd (xin (v3 - 12800) (xl S (xr S v0 43))) (xlet (xup D.1 (xr S v0 43) (v3 - 12800).toNatClampNeg (v7 &&& 1), D.2) fun D2 => xlet (v3 + 1) fun v3_3 => rec_4 v0 v1 v2 v3_3 D2)
set_option maxHeartbeats 4000000 in
theorem t_X12_reckon_213 {F P : Nat} {S : xSt} (hS : xWF S) {rec_4 : Nat → Int32 → Int32 → Int32 → xDt → Option (xDt)} (hrec_4 : ∀ {v0 : Nat} {v1 : Int32} {v2 : Int32} {v3 : Int32} {D : xDt} {r : xDt}, xK S v0 12 → rec_4 v0 v1 v2 v3 D = some r → yEx md_X12_reckon 1 4 [(0, .ref v0), (1, .int v1), (2, .int v2), (3, .int v3)] [] S D (xQv S r)) {v0 : Nat} {v1 : Int32} {v2 : Int32} {v3 : Int32} {v7 : Int32} {D : xDt} {r : xDt} (k0 : xK S v0 12) (h : f_X12_reckon_213 F P S rec_4 v0 v1 v2 v3 v7 D = some r) : yEx md_X12_reckon 1 213 [(0, .ref v0), (1, .int v1), (2, .int v2), (3, .int v3), (7, .int v7)] [] S D (xQv S r) := by
  unfold f_X12_reckon_213 at h
  refine x_aload_n dX12_reckon_213 0 rfl ?_
  refine y_getr (kd := 104) hS fl_RX12_150 dX12_reckon_214 rfl k0 ?_
  refine x_iload_n dX12_reckon_217 3 rfl ?_
  refine x_sipush 12800 dX12_reckon_218 (by decide) ?_
  refine x_isub dX12_reckon_221 ?_
  refine x_iload dX12_reckon_222 4 rfl ?_
  refine xgrd_e h (fun g1 h => ?_)
  refine xlet_e h (fun D2 eD2 h => ?_)
  refine y_zast dX12_reckon_224 ((hS.f k0 43 104 rfl).2) g1 eD2 ?_
  refine xlet_e h (fun v3_3 ev3_3 h => ?_)
  refine y_iinc v3_3 ev3_3 (by decide) [(3, .int v3_3), (0, .ref v0), (1, .int v1), (2, .int v2), (7, .int v7)] dX12_reckon_225 3 rfl (by show _ < 8; decide) rfl ?_
  refine x_goto 4 dX12_reckon_228 (by decide) ?_
  refine x_lv (lv' := [(0, .ref v0), (1, .int v1), (2, .int v2), (3, .int v3_3)]) [1, 2, 3, 0] rfl ?_
  exact hrec_4 k0 h

def f_X12_reckon_211 (F P : Nat) (S : xSt) (rec_4 : Nat → Int32 → Int32 → Int32 → xDt → Option (xDt)) (v0 : Nat) (v1 : Int32) (v2 : Int32) (v3 : Int32) (s0 : Int32) (D : xDt) : Option (xDt) :=
  f_X12_reckon_213 F P S rec_4 v0 v1 v2 v3 s0 D
set_option maxHeartbeats 4000000 in
theorem t_X12_reckon_211 {F P : Nat} {S : xSt} (hS : xWF S) {rec_4 : Nat → Int32 → Int32 → Int32 → xDt → Option (xDt)} (hrec_4 : ∀ {v0 : Nat} {v1 : Int32} {v2 : Int32} {v3 : Int32} {D : xDt} {r : xDt}, xK S v0 12 → rec_4 v0 v1 v2 v3 D = some r → yEx md_X12_reckon 1 4 [(0, .ref v0), (1, .int v1), (2, .int v2), (3, .int v3)] [] S D (xQv S r)) {v0 : Nat} {v1 : Int32} {v2 : Int32} {v3 : Int32} {s0 : Int32} {D : xDt} {r : xDt} (k0 : xK S v0 12) (h : f_X12_reckon_211 F P S rec_4 v0 v1 v2 v3 s0 D = some r) : yEx md_X12_reckon 1 211 [(0, .ref v0), (1, .int v1), (2, .int v2), (3, .int v3)] [.int s0] S D (xQv S r) := by
  unfold f_X12_reckon_211 at h
  refine y_istore s0 rfl [(7, .int s0), (0, .ref v0), (1, .int v1), (2, .int v2), (3, .int v3)] dX12_reckon_211 (by show _ < 8; decide) rfl ?_
  refine x_lv (lv' := [(0, .ref v0), (1, .int v1), (2, .int v2), (3, .int v3), (7, .int s0)]) [1, 2, 3, 4, 0] rfl ?_
  exact t_X12_reckon_213 hS hrec_4 k0 h

def f_X12_reckon_193 (F P : Nat) (S : xSt) (rec_4 : Nat → Int32 → Int32 → Int32 → xDt → Option (xDt)) (v0 : Nat) (v1 : Int32) (v2 : Int32) (v3 : Int32) (D : xDt) : Option (xDt) :=
  (f_X12_placeInBase F P S v0 v3 D).bind fun q1 => if ((jishr v1 q1.1) &&& 1) = 1 then (f_X12_reckon_211 F P S rec_4 v0 v1 v2 v3 1 q1.2) else (f_X12_reckon_211 F P S rec_4 v0 v1 v2 v3 0 q1.2)
set_option maxHeartbeats 4000000 in
theorem t_X12_reckon_193 {F P : Nat} {S : xSt} (hS : xWF S) {rec_4 : Nat → Int32 → Int32 → Int32 → xDt → Option (xDt)} (hrec_4 : ∀ {v0 : Nat} {v1 : Int32} {v2 : Int32} {v3 : Int32} {D : xDt} {r : xDt}, xK S v0 12 → rec_4 v0 v1 v2 v3 D = some r → yEx md_X12_reckon 1 4 [(0, .ref v0), (1, .int v1), (2, .int v2), (3, .int v3)] [] S D (xQv S r)) {v0 : Nat} {v1 : Int32} {v2 : Int32} {v3 : Int32} {D : xDt} {r : xDt} (k0 : xK S v0 12) (h : f_X12_reckon_193 F P S rec_4 v0 v1 v2 v3 D = some r) : yEx md_X12_reckon 1 193 [(0, .ref v0), (1, .int v1), (2, .int v2), (3, .int v3)] [] S D (xQv S r) := by
  unfold f_X12_reckon_193 at h
  refine x_iload_n dX12_reckon_193 1 rfl ?_
  refine x_aload_n dX12_reckon_194 0 rfl ?_
  refine x_iload_n dX12_reckon_195 3 rfl ?_
  refine xbnd_e h (fun q1 e1 h => ?_)
  refine y_callVi (As := [.int v3]) (q := q1) cv_RX12_313 dX12_reckon_196 k0 rfl (Nat.le_of_ble_eq_true rfl) (by omega) (S_X12_placeInBase hS k0 e1) ?_
  refine x_ishr dX12_reckon_199 ?_
  refine x_iconst 1 dX12_reckon_200 (by decide) ?_
  refine x_iand dX12_reckon_201 ?_
  refine x_iconst 1 dX12_reckon_202 (by decide) ?_
  refine x_icmp_ne 210 dX12_reckon_203 (by decide) (fun c => ?_) (fun c => ?_)
  · rw [if_neg c] at h
    refine x_iconst 0 dX12_reckon_210 (by decide) ?_
    exact t_X12_reckon_211 hS hrec_4 k0 h
  · rw [if_pos c] at h
    refine x_iconst 1 dX12_reckon_206 (by decide) ?_
    refine x_goto 211 dX12_reckon_207 (by decide) ?_
    exact t_X12_reckon_211 hS hrec_4 k0 h

def f_X12_reckon_172 (F P : Nat) (S : xSt) (rec_4 : Nat → Int32 → Int32 → Int32 → xDt → Option (xDt)) (v0 : Nat) (v1 : Int32) (v2 : Int32) (v3 : Int32) (v6 : Int32) (s0 : Int32) (D : xDt) : Option (xDt) :=
  if v6 = 1 then (f_X12_reckon_193 F P S rec_4 v0 v1 v2 v3 D) else (if v6 = 5 then (f_X12_reckon_193 F P S rec_4 v0 v1 v2 v3 D) else (if v6 = 8 then (f_X12_reckon_193 F P S rec_4 v0 v1 v2 v3 D) else (f_X12_reckon_213 F P S rec_4 v0 v1 v2 v3 s0 D)))
set_option maxHeartbeats 4000000 in
theorem t_X12_reckon_172 {F P : Nat} {S : xSt} (hS : xWF S) {rec_4 : Nat → Int32 → Int32 → Int32 → xDt → Option (xDt)} (hrec_4 : ∀ {v0 : Nat} {v1 : Int32} {v2 : Int32} {v3 : Int32} {D : xDt} {r : xDt}, xK S v0 12 → rec_4 v0 v1 v2 v3 D = some r → yEx md_X12_reckon 1 4 [(0, .ref v0), (1, .int v1), (2, .int v2), (3, .int v3)] [] S D (xQv S r)) {v0 : Nat} {v1 : Int32} {v2 : Int32} {v3 : Int32} {v6 : Int32} {s0 : Int32} {D : xDt} {r : xDt} (k0 : xK S v0 12) (h : f_X12_reckon_172 F P S rec_4 v0 v1 v2 v3 v6 s0 D = some r) : yEx md_X12_reckon 1 172 [(0, .ref v0), (1, .int v1), (2, .int v2), (3, .int v3), (6, .int v6)] [.int s0] S D (xQv S r) := by
  unfold f_X12_reckon_172 at h
  refine y_istore s0 rfl [(7, .int s0), (0, .ref v0), (1, .int v1), (2, .int v2), (3, .int v3), (6, .int v6)] dX12_reckon_172 (by show _ < 8; decide) rfl ?_
  refine x_iload dX12_reckon_174 5 rfl ?_
  refine x_iconst 1 dX12_reckon_176 (by decide) ?_
  refine x_icmp_eq 193 dX12_reckon_177 (by decide) (fun c => ?_) (fun c => ?_)
  · rw [if_pos c] at h
    refine x_lv (lv' := [(0, .ref v0), (1, .int v1), (2, .int v2), (3, .int v3)]) [1, 2, 3, 4] rfl ?_
    exact t_X12_reckon_193 hS hrec_4 k0 h
  · rw [if_neg c] at h
    refine x_iload dX12_reckon_180 5 rfl ?_
    refine x_iconst 5 dX12_reckon_182 (by decide) ?_
    refine x_icmp_eq 193 dX12_reckon_183 (by decide) (fun c => ?_) (fun c => ?_)
    · rw [if_pos c] at h
      refine x_lv (lv' := [(0, .ref v0), (1, .int v1), (2, .int v2), (3, .int v3)]) [1, 2, 3, 4] rfl ?_
      exact t_X12_reckon_193 hS hrec_4 k0 h
    · rw [if_neg c] at h
      refine x_iload dX12_reckon_186 5 rfl ?_
      refine x_bipush 8 dX12_reckon_188 (by decide) ?_
      refine x_icmp_ne 213 dX12_reckon_190 (by decide) (fun c => ?_) (fun c => ?_)
      · rw [if_neg c] at h
        refine x_lv (lv' := [(0, .ref v0), (1, .int v1), (2, .int v2), (3, .int v3), (7, .int s0)]) [1, 2, 3, 4, 0] rfl ?_
        exact t_X12_reckon_213 hS hrec_4 k0 h
      · rw [if_pos c] at h
        refine x_lv (lv' := [(0, .ref v0), (1, .int v1), (2, .int v2), (3, .int v3)]) [1, 2, 3, 4] rfl ?_
        exact t_X12_reckon_193 hS hrec_4 k0 h

def f_X12_reckon_167 (F P : Nat) (S : xSt) (rec_4 : Nat → Int32 → Int32 → Int32 → xDt → Option (xDt)) (v0 : Nat) (v1 : Int32) (v2 : Int32) (v3 : Int32) (v6 : Int32) (D : xDt) : Option (xDt) :=
  f_X12_reckon_172 F P S rec_4 v0 v1 v2 v3 v6 1 D
set_option maxHeartbeats 4000000 in
theorem t_X12_reckon_167 {F P : Nat} {S : xSt} (hS : xWF S) {rec_4 : Nat → Int32 → Int32 → Int32 → xDt → Option (xDt)} (hrec_4 : ∀ {v0 : Nat} {v1 : Int32} {v2 : Int32} {v3 : Int32} {D : xDt} {r : xDt}, xK S v0 12 → rec_4 v0 v1 v2 v3 D = some r → yEx md_X12_reckon 1 4 [(0, .ref v0), (1, .int v1), (2, .int v2), (3, .int v3)] [] S D (xQv S r)) {v0 : Nat} {v1 : Int32} {v2 : Int32} {v3 : Int32} {v6 : Int32} {D : xDt} {r : xDt} (k0 : xK S v0 12) (h : f_X12_reckon_167 F P S rec_4 v0 v1 v2 v3 v6 D = some r) : yEx md_X12_reckon 1 167 [(0, .ref v0), (1, .int v1), (2, .int v2), (3, .int v3), (6, .int v6)] [] S D (xQv S r) := by
  unfold f_X12_reckon_167 at h
  refine x_iconst 1 dX12_reckon_167 (by decide) ?_
  refine x_goto 172 dX12_reckon_168 (by decide) ?_
  exact t_X12_reckon_172 hS hrec_4 k0 h

def f_X12_reckon_171 (F P : Nat) (S : xSt) (rec_4 : Nat → Int32 → Int32 → Int32 → xDt → Option (xDt)) (v0 : Nat) (v1 : Int32) (v2 : Int32) (v3 : Int32) (v6 : Int32) (D : xDt) : Option (xDt) :=
  f_X12_reckon_172 F P S rec_4 v0 v1 v2 v3 v6 0 D
set_option maxHeartbeats 4000000 in
theorem t_X12_reckon_171 {F P : Nat} {S : xSt} (hS : xWF S) {rec_4 : Nat → Int32 → Int32 → Int32 → xDt → Option (xDt)} (hrec_4 : ∀ {v0 : Nat} {v1 : Int32} {v2 : Int32} {v3 : Int32} {D : xDt} {r : xDt}, xK S v0 12 → rec_4 v0 v1 v2 v3 D = some r → yEx md_X12_reckon 1 4 [(0, .ref v0), (1, .int v1), (2, .int v2), (3, .int v3)] [] S D (xQv S r)) {v0 : Nat} {v1 : Int32} {v2 : Int32} {v3 : Int32} {v6 : Int32} {D : xDt} {r : xDt} (k0 : xK S v0 12) (h : f_X12_reckon_171 F P S rec_4 v0 v1 v2 v3 v6 D = some r) : yEx md_X12_reckon 1 171 [(0, .ref v0), (1, .int v1), (2, .int v2), (3, .int v3), (6, .int v6)] [] S D (xQv S r) := by
  unfold f_X12_reckon_171 at h
  refine x_iconst 0 dX12_reckon_171 (by decide) ?_
  exact t_X12_reckon_172 hS hrec_4 k0 h

def f_X12_reckon_150 (F P : Nat) (S : xSt) (rec_4 : Nat → Int32 → Int32 → Int32 → xDt → Option (xDt)) (v0 : Nat) (v1 : Int32) (v2 : Int32) (v3 : Int32) (v4 : Int32) (v5 : Int32) (v6 : Int32) (D : xDt) : Option (xDt) :=
  if v6 = 13 then (if v4 = 0 then (f_X12_reckon_171 F P S rec_4 v0 v1 v2 v3 v6 D) else (if v5 = 0 then (f_X12_reckon_171 F P S rec_4 v0 v1 v2 v3 v6 D) else (f_X12_reckon_167 F P S rec_4 v0 v1 v2 v3 v6 D))) else (f_X12_reckon_171 F P S rec_4 v0 v1 v2 v3 v6 D)
set_option maxHeartbeats 4000000 in
theorem t_X12_reckon_150 {F P : Nat} {S : xSt} (hS : xWF S) {rec_4 : Nat → Int32 → Int32 → Int32 → xDt → Option (xDt)} (hrec_4 : ∀ {v0 : Nat} {v1 : Int32} {v2 : Int32} {v3 : Int32} {D : xDt} {r : xDt}, xK S v0 12 → rec_4 v0 v1 v2 v3 D = some r → yEx md_X12_reckon 1 4 [(0, .ref v0), (1, .int v1), (2, .int v2), (3, .int v3)] [] S D (xQv S r)) {v0 : Nat} {v1 : Int32} {v2 : Int32} {v3 : Int32} {v4 : Int32} {v5 : Int32} {v6 : Int32} {D : xDt} {r : xDt} (k0 : xK S v0 12) (h : f_X12_reckon_150 F P S rec_4 v0 v1 v2 v3 v4 v5 v6 D = some r) : yEx md_X12_reckon 1 150 [(0, .ref v0), (1, .int v1), (2, .int v2), (3, .int v3), (4, .int v4), (5, .int v5), (6, .int v6)] [] S D (xQv S r) := by
  unfold f_X12_reckon_150 at h
  refine x_iload dX12_reckon_150 6 rfl ?_
  refine x_bipush 13 dX12_reckon_152 (by decide) ?_
  refine x_icmp_ne 171 dX12_reckon_154 (by decide) (fun c => ?_) (fun c => ?_)
  · rw [if_neg c] at h
    refine x_lv (lv' := [(0, .ref v0), (1, .int v1), (2, .int v2), (3, .int v3), (6, .int v6)]) [0, 1, 2, 3, 6] rfl ?_
    exact t_X12_reckon_171 hS hrec_4 k0 h
  · rw [if_pos c] at h
    refine x_iload dX12_reckon_157 4 rfl ?_
    refine x_if_eq 171 dX12_reckon_159 (by decide) (fun c => ?_) (fun c => ?_)
    · rw [if_pos c] at h
      refine x_lv (lv' := [(0, .ref v0), (1, .int v1), (2, .int v2), (3, .int v3), (6, .int v6)]) [0, 1, 2, 3, 6] rfl ?_
      exact t_X12_reckon_171 hS hrec_4 k0 h
    · rw [if_neg c] at h
      refine x_iload dX12_reckon_162 5 rfl ?_
      refine x_if_eq 171 dX12_reckon_164 (by decide) (fun c => ?_) (fun c => ?_)
      · rw [if_pos c] at h
        refine x_lv (lv' := [(0, .ref v0), (1, .int v1), (2, .int v2), (3, .int v3), (6, .int v6)]) [0, 1, 2, 3, 6] rfl ?_
        exact t_X12_reckon_171 hS hrec_4 k0 h
      · rw [if_neg c] at h
        refine x_lv (lv' := [(0, .ref v0), (1, .int v1), (2, .int v2), (3, .int v3), (6, .int v6)]) [0, 1, 2, 3, 6] rfl ?_
        exact t_X12_reckon_167 hS hrec_4 k0 h

def f_X12_reckon_133 (F P : Nat) (S : xSt) (rec_4 : Nat → Int32 → Int32 → Int32 → xDt → Option (xDt)) (v0 : Nat) (v1 : Int32) (v2 : Int32) (v3 : Int32) (v4 : Int32) (v5 : Int32) (v6 : Int32) (D : xDt) : Option (xDt) :=
  if v6 = 12 then (if v4 = 0 then (if v5 = 0 then (f_X12_reckon_150 F P S rec_4 v0 v1 v2 v3 v4 v5 v6 D) else (f_X12_reckon_167 F P S rec_4 v0 v1 v2 v3 v6 D)) else (f_X12_reckon_167 F P S rec_4 v0 v1 v2 v3 v6 D)) else (f_X12_reckon_150 F P S rec_4 v0 v1 v2 v3 v4 v5 v6 D)
set_option maxHeartbeats 4000000 in
theorem t_X12_reckon_133 {F P : Nat} {S : xSt} (hS : xWF S) {rec_4 : Nat → Int32 → Int32 → Int32 → xDt → Option (xDt)} (hrec_4 : ∀ {v0 : Nat} {v1 : Int32} {v2 : Int32} {v3 : Int32} {D : xDt} {r : xDt}, xK S v0 12 → rec_4 v0 v1 v2 v3 D = some r → yEx md_X12_reckon 1 4 [(0, .ref v0), (1, .int v1), (2, .int v2), (3, .int v3)] [] S D (xQv S r)) {v0 : Nat} {v1 : Int32} {v2 : Int32} {v3 : Int32} {v4 : Int32} {v5 : Int32} {v6 : Int32} {D : xDt} {r : xDt} (k0 : xK S v0 12) (h : f_X12_reckon_133 F P S rec_4 v0 v1 v2 v3 v4 v5 v6 D = some r) : yEx md_X12_reckon 1 133 [(0, .ref v0), (1, .int v1), (2, .int v2), (3, .int v3), (4, .int v4), (5, .int v5), (6, .int v6)] [] S D (xQv S r) := by
  unfold f_X12_reckon_133 at h
  refine x_iload dX12_reckon_133 6 rfl ?_
  refine x_bipush 12 dX12_reckon_135 (by decide) ?_
  refine x_icmp_ne 150 dX12_reckon_137 (by decide) (fun c => ?_) (fun c => ?_)
  · rw [if_neg c] at h
    exact t_X12_reckon_150 hS hrec_4 k0 h
  · rw [if_pos c] at h
    refine x_iload dX12_reckon_140 4 rfl ?_
    refine x_if_ne 167 dX12_reckon_142 (by decide) (fun c => ?_) (fun c => ?_)
    · rw [if_neg c] at h
      refine x_lv (lv' := [(0, .ref v0), (1, .int v1), (2, .int v2), (3, .int v3), (6, .int v6)]) [0, 1, 2, 3, 6] rfl ?_
      exact t_X12_reckon_167 hS hrec_4 k0 h
    · rw [if_pos c] at h
      refine x_iload dX12_reckon_145 5 rfl ?_
      refine x_if_ne 167 dX12_reckon_147 (by decide) (fun c => ?_) (fun c => ?_)
      · rw [if_neg c] at h
        refine x_lv (lv' := [(0, .ref v0), (1, .int v1), (2, .int v2), (3, .int v3), (6, .int v6)]) [0, 1, 2, 3, 6] rfl ?_
        exact t_X12_reckon_167 hS hrec_4 k0 h
      · rw [if_pos c] at h
        exact t_X12_reckon_150 hS hrec_4 k0 h

def f_X12_reckon_116 (F P : Nat) (S : xSt) (rec_4 : Nat → Int32 → Int32 → Int32 → xDt → Option (xDt)) (v0 : Nat) (v1 : Int32) (v2 : Int32) (v3 : Int32) (v4 : Int32) (v5 : Int32) (v6 : Int32) (D : xDt) : Option (xDt) :=
  if v6 = 11 then (if v4 = 0 then (f_X12_reckon_167 F P S rec_4 v0 v1 v2 v3 v6 D) else (if v5 = 0 then (f_X12_reckon_133 F P S rec_4 v0 v1 v2 v3 v4 v5 v6 D) else (f_X12_reckon_167 F P S rec_4 v0 v1 v2 v3 v6 D))) else (f_X12_reckon_133 F P S rec_4 v0 v1 v2 v3 v4 v5 v6 D)
set_option maxHeartbeats 4000000 in
theorem t_X12_reckon_116 {F P : Nat} {S : xSt} (hS : xWF S) {rec_4 : Nat → Int32 → Int32 → Int32 → xDt → Option (xDt)} (hrec_4 : ∀ {v0 : Nat} {v1 : Int32} {v2 : Int32} {v3 : Int32} {D : xDt} {r : xDt}, xK S v0 12 → rec_4 v0 v1 v2 v3 D = some r → yEx md_X12_reckon 1 4 [(0, .ref v0), (1, .int v1), (2, .int v2), (3, .int v3)] [] S D (xQv S r)) {v0 : Nat} {v1 : Int32} {v2 : Int32} {v3 : Int32} {v4 : Int32} {v5 : Int32} {v6 : Int32} {D : xDt} {r : xDt} (k0 : xK S v0 12) (h : f_X12_reckon_116 F P S rec_4 v0 v1 v2 v3 v4 v5 v6 D = some r) : yEx md_X12_reckon 1 116 [(0, .ref v0), (1, .int v1), (2, .int v2), (3, .int v3), (4, .int v4), (5, .int v5), (6, .int v6)] [] S D (xQv S r) := by
  unfold f_X12_reckon_116 at h
  refine x_iload dX12_reckon_116 6 rfl ?_
  refine x_bipush 11 dX12_reckon_118 (by decide) ?_
  refine x_icmp_ne 133 dX12_reckon_120 (by decide) (fun c => ?_) (fun c => ?_)
  · rw [if_neg c] at h
    exact t_X12_reckon_133 hS hrec_4 k0 h
  · rw [if_pos c] at h
    refine x_iload dX12_reckon_123 4 rfl ?_
    refine x_if_eq 167 dX12_reckon_125 (by decide) (fun c => ?_) (fun c => ?_)
    · rw [if_pos c] at h
      refine x_lv (lv' := [(0, .ref v0), (1, .int v1), (2, .int v2), (3, .int v3), (6, .int v6)]) [0, 1, 2, 3, 6] rfl ?_
      exact t_X12_reckon_167 hS hrec_4 k0 h
    · rw [if_neg c] at h
      refine x_iload dX12_reckon_128 5 rfl ?_
      refine x_if_ne 167 dX12_reckon_130 (by decide) (fun c => ?_) (fun c => ?_)
      · rw [if_neg c] at h
        refine x_lv (lv' := [(0, .ref v0), (1, .int v1), (2, .int v2), (3, .int v3), (6, .int v6)]) [0, 1, 2, 3, 6] rfl ?_
        exact t_X12_reckon_167 hS hrec_4 k0 h
      · rw [if_pos c] at h
        exact t_X12_reckon_133 hS hrec_4 k0 h

def f_X12_reckon_102 (F P : Nat) (S : xSt) (rec_4 : Nat → Int32 → Int32 → Int32 → xDt → Option (xDt)) (v0 : Nat) (v1 : Int32) (v2 : Int32) (v3 : Int32) (v4 : Int32) (v5 : Int32) (v6 : Int32) (D : xDt) : Option (xDt) :=
  if v6 = 10 then (if v4 = v5 then (f_X12_reckon_167 F P S rec_4 v0 v1 v2 v3 v6 D) else (f_X12_reckon_116 F P S rec_4 v0 v1 v2 v3 v4 v5 v6 D)) else (f_X12_reckon_116 F P S rec_4 v0 v1 v2 v3 v4 v5 v6 D)
set_option maxHeartbeats 4000000 in
theorem t_X12_reckon_102 {F P : Nat} {S : xSt} (hS : xWF S) {rec_4 : Nat → Int32 → Int32 → Int32 → xDt → Option (xDt)} (hrec_4 : ∀ {v0 : Nat} {v1 : Int32} {v2 : Int32} {v3 : Int32} {D : xDt} {r : xDt}, xK S v0 12 → rec_4 v0 v1 v2 v3 D = some r → yEx md_X12_reckon 1 4 [(0, .ref v0), (1, .int v1), (2, .int v2), (3, .int v3)] [] S D (xQv S r)) {v0 : Nat} {v1 : Int32} {v2 : Int32} {v3 : Int32} {v4 : Int32} {v5 : Int32} {v6 : Int32} {D : xDt} {r : xDt} (k0 : xK S v0 12) (h : f_X12_reckon_102 F P S rec_4 v0 v1 v2 v3 v4 v5 v6 D = some r) : yEx md_X12_reckon 1 102 [(0, .ref v0), (1, .int v1), (2, .int v2), (3, .int v3), (4, .int v4), (5, .int v5), (6, .int v6)] [] S D (xQv S r) := by
  unfold f_X12_reckon_102 at h
  refine x_iload dX12_reckon_102 6 rfl ?_
  refine x_bipush 10 dX12_reckon_104 (by decide) ?_
  refine x_icmp_ne 116 dX12_reckon_106 (by decide) (fun c => ?_) (fun c => ?_)
  · rw [if_neg c] at h
    exact t_X12_reckon_116 hS hrec_4 k0 h
  · rw [if_pos c] at h
    refine x_iload dX12_reckon_109 4 rfl ?_
    refine x_iload dX12_reckon_111 5 rfl ?_
    refine x_icmp_eq 167 dX12_reckon_113 (by decide) (fun c => ?_) (fun c => ?_)
    · rw [if_pos c] at h
      refine x_lv (lv' := [(0, .ref v0), (1, .int v1), (2, .int v2), (3, .int v3), (6, .int v6)]) [0, 1, 2, 3, 6] rfl ?_
      exact t_X12_reckon_167 hS hrec_4 k0 h
    · rw [if_neg c] at h
      exact t_X12_reckon_116 hS hrec_4 k0 h

def f_X12_reckon_75 (F P : Nat) (S : xSt) (rec_4 : Nat → Int32 → Int32 → Int32 → xDt → Option (xDt)) (v0 : Nat) (v1 : Int32) (v2 : Int32) (v3 : Int32) (v4 : Int32) (s0 : Int32) (D : xDt) : Option (xDt) :=
  xgrd (xin v3 (xl S (xr S v0 8))) (xlet (D.1 (xr S v0 8) (v3).toNatClampNeg) fun v6_2 => if v6_2 = 3 then (f_X12_reckon_167 F P S rec_4 v0 v1 v2 v3 v6_2 D) else (if v6_2 = 4 then (if v4 = 0 then (f_X12_reckon_167 F P S rec_4 v0 v1 v2 v3 v6_2 D) else (f_X12_reckon_102 F P S rec_4 v0 v1 v2 v3 v4 s0 v6_2 D)) else (f_X12_reckon_102 F P S rec_4 v0 v1 v2 v3 v4 s0 v6_2 D)))
set_option maxHeartbeats 4000000 in
theorem t_X12_reckon_75 {F P : Nat} {S : xSt} (hS : xWF S) {rec_4 : Nat → Int32 → Int32 → Int32 → xDt → Option (xDt)} (hrec_4 : ∀ {v0 : Nat} {v1 : Int32} {v2 : Int32} {v3 : Int32} {D : xDt} {r : xDt}, xK S v0 12 → rec_4 v0 v1 v2 v3 D = some r → yEx md_X12_reckon 1 4 [(0, .ref v0), (1, .int v1), (2, .int v2), (3, .int v3)] [] S D (xQv S r)) {v0 : Nat} {v1 : Int32} {v2 : Int32} {v3 : Int32} {v4 : Int32} {s0 : Int32} {D : xDt} {r : xDt} (k0 : xK S v0 12) (h : f_X12_reckon_75 F P S rec_4 v0 v1 v2 v3 v4 s0 D = some r) : yEx md_X12_reckon 1 75 [(0, .ref v0), (1, .int v1), (2, .int v2), (3, .int v3), (4, .int v4)] [.int s0] S D (xQv S r) := by
  unfold f_X12_reckon_75 at h
  refine y_istore s0 rfl [(5, .int s0), (0, .ref v0), (1, .int v1), (2, .int v2), (3, .int v3), (4, .int v4)] dX12_reckon_75 (by show _ < 8; decide) rfl ?_
  refine x_aload_n dX12_reckon_77 1 rfl ?_
  refine y_getr (kd := 100) hS fl_RX12_72 dX12_reckon_78 rfl k0 ?_
  refine x_iload_n dX12_reckon_81 4 rfl ?_
  refine xgrd_e h (fun g1 h => ?_)
  refine y_iald dX12_reckon_82 ((hS.f k0 8 100 rfl).2) g1 ?_
  refine xlet_e h (fun v6_2 ev6_2 h => ?_)
  refine y_istore v6_2 ev6_2 [(6, .int v6_2), (5, .int s0), (0, .ref v0), (1, .int v1), (2, .int v2), (3, .int v3), (4, .int v4)] dX12_reckon_83 (by show _ < 8; decide) rfl ?_
  refine x_iload dX12_reckon_85 0 rfl ?_
  refine x_iconst 3 dX12_reckon_87 (by decide) ?_
  refine x_icmp_eq 167 dX12_reckon_88 (by decide) (fun c => ?_) (fun c => ?_)
  · rw [if_pos c] at h
    refine x_lv (lv' := [(0, .ref v0), (1, .int v1), (2, .int v2), (3, .int v3), (6, .int v6_2)]) [2, 3, 4, 5, 0] rfl ?_
    exact t_X12_reckon_167 hS hrec_4 k0 h
  · rw [if_neg c] at h
    refine x_iload dX12_reckon_91 0 rfl ?_
    refine x_iconst 4 dX12_reckon_93 (by decide) ?_
    refine x_icmp_ne 102 dX12_reckon_94 (by decide) (fun c => ?_) (fun c => ?_)
    · rw [if_neg c] at h
      refine x_lv (lv' := [(0, .ref v0), (1, .int v1), (2, .int v2), (3, .int v3), (4, .int v4), (5, .int s0), (6, .int v6_2)]) [2, 3, 4, 5, 6, 1, 0] rfl ?_
      exact t_X12_reckon_102 hS hrec_4 k0 h
    · rw [if_pos c] at h
      refine x_iload dX12_reckon_97 6 rfl ?_
      refine x_if_eq 167 dX12_reckon_99 (by decide) (fun c => ?_) (fun c => ?_)
      · rw [if_pos c] at h
        refine x_lv (lv' := [(0, .ref v0), (1, .int v1), (2, .int v2), (3, .int v3), (6, .int v6_2)]) [2, 3, 4, 5, 0] rfl ?_
        exact t_X12_reckon_167 hS hrec_4 k0 h
      · rw [if_neg c] at h
        refine x_lv (lv' := [(0, .ref v0), (1, .int v1), (2, .int v2), (3, .int v3), (4, .int v4), (5, .int s0), (6, .int v6_2)]) [2, 3, 4, 5, 6, 1, 0] rfl ?_
        exact t_X12_reckon_102 hS hrec_4 k0 h

def f_X12_reckon_74 (F P : Nat) (S : xSt) (rec_4 : Nat → Int32 → Int32 → Int32 → xDt → Option (xDt)) (v0 : Nat) (v1 : Int32) (v2 : Int32) (v3 : Int32) (v4 : Int32) (D : xDt) : Option (xDt) :=
  f_X12_reckon_75 F P S rec_4 v0 v1 v2 v3 v4 0 D
set_option maxHeartbeats 4000000 in
theorem t_X12_reckon_74 {F P : Nat} {S : xSt} (hS : xWF S) {rec_4 : Nat → Int32 → Int32 → Int32 → xDt → Option (xDt)} (hrec_4 : ∀ {v0 : Nat} {v1 : Int32} {v2 : Int32} {v3 : Int32} {D : xDt} {r : xDt}, xK S v0 12 → rec_4 v0 v1 v2 v3 D = some r → yEx md_X12_reckon 1 4 [(0, .ref v0), (1, .int v1), (2, .int v2), (3, .int v3)] [] S D (xQv S r)) {v0 : Nat} {v1 : Int32} {v2 : Int32} {v3 : Int32} {v4 : Int32} {D : xDt} {r : xDt} (k0 : xK S v0 12) (h : f_X12_reckon_74 F P S rec_4 v0 v1 v2 v3 v4 D = some r) : yEx md_X12_reckon 1 74 [(0, .ref v0), (1, .int v1), (2, .int v2), (3, .int v3), (4, .int v4)] [] S D (xQv S r) := by
  unfold f_X12_reckon_74 at h
  refine x_iconst 0 dX12_reckon_74 (by decide) ?_
  exact t_X12_reckon_75 hS hrec_4 k0 h

def f_X12_reckon_41 (F P : Nat) (S : xSt) (rec_4 : Nat → Int32 → Int32 → Int32 → xDt → Option (xDt)) (v0 : Nat) (v1 : Int32) (v2 : Int32) (v3 : Int32) (s0 : Int32) (D : xDt) : Option (xDt) :=
  xgrd (xin v3 (xl S (xr S v0 10))) (if (D.1 (xr S v0 10) (v3).toNatClampNeg) < 0 then (f_X12_reckon_74 F P S rec_4 v0 v1 v2 v3 s0 D) else (xgrd (xin v3 (xl S (xr S v0 10))) (xgrd (xin ((D.1 (xr S v0 10) (v3).toNatClampNeg) - 12800) (xl S (xr S v0 43))) (if (D.1 (xr S v0 43) ((D.1 (xr S v0 10) (v3).toNatClampNeg) - 12800).toNatClampNeg) = 0 then (f_X12_reckon_74 F P S rec_4 v0 v1 v2 v3 s0 D) else (f_X12_reckon_75 F P S rec_4 v0 v1 v2 v3 s0 1 D)))))
set_option maxHeartbeats 4000000 in
theorem t_X12_reckon_41 {F P : Nat} {S : xSt} (hS : xWF S) {rec_4 : Nat → Int32 → Int32 → Int32 → xDt → Option (xDt)} (hrec_4 : ∀ {v0 : Nat} {v1 : Int32} {v2 : Int32} {v3 : Int32} {D : xDt} {r : xDt}, xK S v0 12 → rec_4 v0 v1 v2 v3 D = some r → yEx md_X12_reckon 1 4 [(0, .ref v0), (1, .int v1), (2, .int v2), (3, .int v3)] [] S D (xQv S r)) {v0 : Nat} {v1 : Int32} {v2 : Int32} {v3 : Int32} {s0 : Int32} {D : xDt} {r : xDt} (k0 : xK S v0 12) (h : f_X12_reckon_41 F P S rec_4 v0 v1 v2 v3 s0 D = some r) : yEx md_X12_reckon 1 41 [(0, .ref v0), (1, .int v1), (2, .int v2), (3, .int v3)] [.int s0] S D (xQv S r) := by
  unfold f_X12_reckon_41 at h
  refine y_istore s0 rfl [(4, .int s0), (0, .ref v0), (1, .int v1), (2, .int v2), (3, .int v3)] dX12_reckon_41 (by show _ < 8; decide) rfl ?_
  refine x_aload_n dX12_reckon_43 1 rfl ?_
  refine y_getr (kd := 100) hS fl_RX12_78 dX12_reckon_44 rfl k0 ?_
  refine x_iload_n dX12_reckon_47 4 rfl ?_
  refine xgrd_e h (fun g1 h => ?_)
  refine y_iald dX12_reckon_48 ((hS.f k0 10 100 rfl).2) g1 ?_
  refine x_if_lt 74 dX12_reckon_49 (by decide) (fun c => ?_) (fun c => ?_)
  · rw [if_pos c] at h
    refine x_lv (lv' := [(0, .ref v0), (1, .int v1), (2, .int v2), (3, .int v3), (4, .int s0)]) [1, 2, 3, 4, 0] rfl ?_
    exact t_X12_reckon_74 hS hrec_4 k0 h
  · rw [if_neg c] at h
    refine x_aload_n dX12_reckon_52 1 rfl ?_
    refine y_getr (kd := 104) hS fl_RX12_150 dX12_reckon_53 rfl k0 ?_
    refine x_aload_n dX12_reckon_56 1 rfl ?_
    refine y_getr (kd := 100) hS fl_RX12_78 dX12_reckon_57 rfl k0 ?_
    refine x_iload_n dX12_reckon_60 4 rfl ?_
    refine xgrd_e h (fun g2 h => ?_)
    refine y_iald dX12_reckon_61 ((hS.f k0 10 100 rfl).2) g2 ?_
    refine x_sipush 12800 dX12_reckon_62 (by decide) ?_
    refine x_isub dX12_reckon_65 ?_
    refine xgrd_e h (fun g3 h => ?_)
    refine y_zald dX12_reckon_66 ((hS.f k0 43 104 rfl).2) g3 ?_
    refine x_if_eq 74 dX12_reckon_67 (by decide) (fun c => ?_) (fun c => ?_)
    · rw [if_pos c] at h
      refine x_lv (lv' := [(0, .ref v0), (1, .int v1), (2, .int v2), (3, .int v3), (4, .int s0)]) [1, 2, 3, 4, 0] rfl ?_
      exact t_X12_reckon_74 hS hrec_4 k0 h
    · rw [if_neg c] at h
      refine x_iconst 1 dX12_reckon_70 (by decide) ?_
      refine x_goto 75 dX12_reckon_71 (by decide) ?_
      refine x_lv (lv' := [(0, .ref v0), (1, .int v1), (2, .int v2), (3, .int v3), (4, .int s0)]) [1, 2, 3, 4, 0] rfl ?_
      exact t_X12_reckon_75 hS hrec_4 k0 h

def f_X12_reckon_40 (F P : Nat) (S : xSt) (rec_4 : Nat → Int32 → Int32 → Int32 → xDt → Option (xDt)) (v0 : Nat) (v1 : Int32) (v2 : Int32) (v3 : Int32) (D : xDt) : Option (xDt) :=
  f_X12_reckon_41 F P S rec_4 v0 v1 v2 v3 0 D
set_option maxHeartbeats 4000000 in
theorem t_X12_reckon_40 {F P : Nat} {S : xSt} (hS : xWF S) {rec_4 : Nat → Int32 → Int32 → Int32 → xDt → Option (xDt)} (hrec_4 : ∀ {v0 : Nat} {v1 : Int32} {v2 : Int32} {v3 : Int32} {D : xDt} {r : xDt}, xK S v0 12 → rec_4 v0 v1 v2 v3 D = some r → yEx md_X12_reckon 1 4 [(0, .ref v0), (1, .int v1), (2, .int v2), (3, .int v3)] [] S D (xQv S r)) {v0 : Nat} {v1 : Int32} {v2 : Int32} {v3 : Int32} {D : xDt} {r : xDt} (k0 : xK S v0 12) (h : f_X12_reckon_40 F P S rec_4 v0 v1 v2 v3 D = some r) : yEx md_X12_reckon 1 40 [(0, .ref v0), (1, .int v1), (2, .int v2), (3, .int v3)] [] S D (xQv S r) := by
  unfold f_X12_reckon_40 at h
  refine x_iconst 0 dX12_reckon_40 (by decide) ?_
  exact t_X12_reckon_41 hS hrec_4 k0 h

def f_X12_reckon_4s (F P : Nat) (S : xSt) (rec_4 : Nat → Int32 → Int32 → Int32 → xDt → Option (xDt)) (v0 : Nat) (v1 : Int32) (v2 : Int32) (v3 : Int32) (D : xDt) : Option (xDt) :=
  if v2 ≤ v3 then (some D) else (xgrd (xin v3 (xl S (xr S v0 9))) (if (D.1 (xr S v0 9) (v3).toNatClampNeg) < 0 then (f_X12_reckon_40 F P S rec_4 v0 v1 v2 v3 D) else (xgrd (xin v3 (xl S (xr S v0 9))) (xgrd (xin ((D.1 (xr S v0 9) (v3).toNatClampNeg) - 12800) (xl S (xr S v0 43))) (if (D.1 (xr S v0 43) ((D.1 (xr S v0 9) (v3).toNatClampNeg) - 12800).toNatClampNeg) = 0 then (f_X12_reckon_40 F P S rec_4 v0 v1 v2 v3 D) else (f_X12_reckon_41 F P S rec_4 v0 v1 v2 v3 1 D))))))
def f_X12_reckon_4 (F P : Nat) (S : xSt) : Nat → Nat → Int32 → Int32 → Int32 → xDt → Option (xDt)
  | 0 => fun _ _ _ _ _ => none
  | n + 1 => f_X12_reckon_4s F P S (f_X12_reckon_4 F P S n)
set_option maxHeartbeats 4000000 in
theorem t_X12_reckon_4s {F P : Nat} {S : xSt} (hS : xWF S) {rec_4 : Nat → Int32 → Int32 → Int32 → xDt → Option (xDt)} (hrec_4 : ∀ {v0 : Nat} {v1 : Int32} {v2 : Int32} {v3 : Int32} {D : xDt} {r : xDt}, xK S v0 12 → rec_4 v0 v1 v2 v3 D = some r → yEx md_X12_reckon 1 4 [(0, .ref v0), (1, .int v1), (2, .int v2), (3, .int v3)] [] S D (xQv S r)) {v0 : Nat} {v1 : Int32} {v2 : Int32} {v3 : Int32} {D : xDt} {r : xDt} (k0 : xK S v0 12) (h : f_X12_reckon_4s F P S rec_4 v0 v1 v2 v3 D = some r) : yEx md_X12_reckon 1 4 [(0, .ref v0), (1, .int v1), (2, .int v2), (3, .int v3)] [] S D (xQv S r) := by
  unfold f_X12_reckon_4s at h
  refine x_iload_n dX12_reckon_4 3 rfl ?_
  refine x_iload_n dX12_reckon_5 2 rfl ?_
  refine x_icmp_ge 231 dX12_reckon_6 (by decide) (fun c => ?_) (fun c => ?_)
  · rw [if_pos c] at h
    obtain rfl := Option.some.inj h
    exact y_vret rfl dX12_reckon_231
  · rw [if_neg c] at h
    refine x_aload_n dX12_reckon_9 0 rfl ?_
    refine y_getr (kd := 100) hS fl_RX12_75 dX12_reckon_10 rfl k0 ?_
    refine x_iload_n dX12_reckon_13 3 rfl ?_
    refine xgrd_e h (fun g1 h => ?_)
    refine y_iald dX12_reckon_14 ((hS.f k0 9 100 rfl).2) g1 ?_
    refine x_if_lt 40 dX12_reckon_15 (by decide) (fun c => ?_) (fun c => ?_)
    · rw [if_pos c] at h
      exact t_X12_reckon_40 hS hrec_4 k0 h
    · rw [if_neg c] at h
      refine x_aload_n dX12_reckon_18 0 rfl ?_
      refine y_getr (kd := 104) hS fl_RX12_150 dX12_reckon_19 rfl k0 ?_
      refine x_aload_n dX12_reckon_22 0 rfl ?_
      refine y_getr (kd := 100) hS fl_RX12_75 dX12_reckon_23 rfl k0 ?_
      refine x_iload_n dX12_reckon_26 3 rfl ?_
      refine xgrd_e h (fun g2 h => ?_)
      refine y_iald dX12_reckon_27 ((hS.f k0 9 100 rfl).2) g2 ?_
      refine x_sipush 12800 dX12_reckon_28 (by decide) ?_
      refine x_isub dX12_reckon_31 ?_
      refine xgrd_e h (fun g3 h => ?_)
      refine y_zald dX12_reckon_32 ((hS.f k0 43 104 rfl).2) g3 ?_
      refine x_if_eq 40 dX12_reckon_33 (by decide) (fun c => ?_) (fun c => ?_)
      · rw [if_pos c] at h
        exact t_X12_reckon_40 hS hrec_4 k0 h
      · rw [if_neg c] at h
        refine x_iconst 1 dX12_reckon_36 (by decide) ?_
        refine x_goto 41 dX12_reckon_37 (by decide) ?_
        exact t_X12_reckon_41 hS hrec_4 k0 h
theorem t_X12_reckon_4 {F P : Nat} {S : xSt} (hS : xWF S) : ∀ (n : Nat) {v0 : Nat} {v1 : Int32} {v2 : Int32} {v3 : Int32} {D : xDt} {r : xDt}, xK S v0 12 → f_X12_reckon_4 F P S n v0 v1 v2 v3 D = some r → yEx md_X12_reckon 1 4 [(0, .ref v0), (1, .int v1), (2, .int v2), (3, .int v3)] [] S D (xQv S r) := by
  intro n
  induction n with
  | zero => intros; rename_i h; cases h
  | succ n ih =>
    intro v0 v1 v2 v3 D r k0 h
    exact t_X12_reckon_4s hS (fun k0 h => ih k0 h) k0 h

def f_X12_reckon (F P : Nat) (S : xSt) (v0 : Nat) (v1 : Int32) (v2 : Int32) (D : xDt) : Option (xDt) :=
  f_X12_reckon_4 F P S F v0 v1 v2 12800 D
set_option maxHeartbeats 4000000 in
theorem S_X12_reckon {F P : Nat} {S : xSt} (hS : xWF S) {v0 : Nat} {v1 : Int32} {v2 : Int32} {D : xDt} {r : xDt} (k0 : xK S v0 12) (h : f_X12_reckon F P S v0 v1 v2 D = some r) : xSp md_X12_reckon (1, 0, 0) [.ref v0, .int v1, .int v2] (S, D) (xQv S r) := by
  unfold f_X12_reckon at h
  refine xEntry (by decide) (Nat.le_of_ble_eq_true rfl) ?_
  refine x_lv (lv' := [(0, .ref v0), (1, .int v1), (2, .int v2)]) [0, 1, 2] rfl ?_
  refine x_sipush 12800 dX12_reckon_0 (by decide) ?_
  refine y_istore_n 12800 rfl [(3, .int 12800), (0, .ref v0), (1, .int v1), (2, .int v2)] dX12_reckon_3 (by show _ < 8; decide) rfl ?_
  refine x_lv (lv' := [(0, .ref v0), (1, .int v1), (2, .int v2), (3, .int 12800)]) [1, 2, 3, 0] rfl ?_
  exact t_X12_reckon_4 hS F k0 h

theorem dX12_agentsBits_0 : decode cX12_agentsBits 0 = .ok (.iconst 0, 1) := by decide +kernel
theorem dX12_agentsBits_1 : decode cX12_agentsBits 1 = .ok (.istore_n 2, 1) := by decide +kernel
theorem dX12_agentsBits_2 : decode cX12_agentsBits 2 = .ok (.iconst 0, 1) := by decide +kernel
theorem dX12_agentsBits_3 : decode cX12_agentsBits 3 = .ok (.istore_n 3, 1) := by decide +kernel
theorem dX12_agentsBits_4 : decode cX12_agentsBits 4 = .ok (.iload_n 3, 1) := by decide +kernel
theorem dX12_agentsBits_5 : decode cX12_agentsBits 5 = .ok (.aload_n 0, 1) := by decide +kernel
theorem dX12_agentsBits_6 : decode cX12_agentsBits 6 = .ok (.getfield 310, 3) := by decide +kernel
theorem dX12_agentsBits_9 : decode cX12_agentsBits 9 = .ok (.if_icmp .ge 51, 3) := by decide +kernel
theorem dX12_agentsBits_12 : decode cX12_agentsBits 12 = .ok (.iload_n 2, 1) := by decide +kernel
theorem dX12_agentsBits_13 : decode cX12_agentsBits 13 = .ok (.aload_n 0, 1) := by decide +kernel
theorem dX12_agentsBits_14 : decode cX12_agentsBits 14 = .ok (.getfield 72, 3) := by decide +kernel
theorem dX12_agentsBits_17 : decode cX12_agentsBits 17 = .ok (.aload_n 0, 1) := by decide +kernel
theorem dX12_agentsBits_18 : decode cX12_agentsBits 18 = .ok (.getfield 134, 3) := by decide +kernel
theorem dX12_agentsBits_21 : decode cX12_agentsBits 21 = .ok (.iload_n 3, 1) := by decide +kernel
theorem dX12_agentsBits_22 : decode cX12_agentsBits 22 = .ok (.iaload, 1) := by decide +kernel
theorem dX12_agentsBits_23 : decode cX12_agentsBits 23 = .ok (.iaload, 1) := by decide +kernel
theorem dX12_agentsBits_24 : decode cX12_agentsBits 24 = .ok (.iconst 5, 1) := by decide +kernel
theorem dX12_agentsBits_25 : decode cX12_agentsBits 25 = .ok (.if_icmp .ne 26, 3) := by decide +kernel
theorem dX12_agentsBits_28 : decode cX12_agentsBits 28 = .ok (.aload_n 0, 1) := by decide +kernel
theorem dX12_agentsBits_29 : decode cX12_agentsBits 29 = .ok (.getfield 81, 3) := by decide +kernel
theorem dX12_agentsBits_32 : decode cX12_agentsBits 32 = .ok (.aload_n 0, 1) := by decide +kernel
theorem dX12_agentsBits_33 : decode cX12_agentsBits 33 = .ok (.getfield 134, 3) := by decide +kernel
theorem dX12_agentsBits_36 : decode cX12_agentsBits 36 = .ok (.iload_n 3, 1) := by decide +kernel
theorem dX12_agentsBits_37 : decode cX12_agentsBits 37 = .ok (.iaload, 1) := by decide +kernel
theorem dX12_agentsBits_38 : decode cX12_agentsBits 38 = .ok (.iaload, 1) := by decide +kernel
theorem dX12_agentsBits_39 : decode cX12_agentsBits 39 = .ok (.iconst 1, 1) := by decide +kernel
theorem dX12_agentsBits_40 : decode cX12_agentsBits 40 = .ok (.iload_n 1, 1) := by decide +kernel
theorem dX12_agentsBits_41 : decode cX12_agentsBits 41 = .ok (.ishl, 1) := by decide +kernel
theorem dX12_agentsBits_42 : decode cX12_agentsBits 42 = .ok (.if_icmp .ne 9, 3) := by decide +kernel
theorem dX12_agentsBits_45 : decode cX12_agentsBits 45 = .ok (.iconst 1, 1) := by decide +kernel
theorem dX12_agentsBits_46 : decode cX12_agentsBits 46 = .ok (.iload_n 3, 1) := by decide +kernel
theorem dX12_agentsBits_47 : decode cX12_agentsBits 47 = .ok (.ishl, 1) := by decide +kernel
theorem dX12_agentsBits_48 : decode cX12_agentsBits 48 = .ok (.goto 4, 3) := by decide +kernel
theorem dX12_agentsBits_51 : decode cX12_agentsBits 51 = .ok (.iconst 0, 1) := by decide +kernel
theorem dX12_agentsBits_52 : decode cX12_agentsBits 52 = .ok (.ior, 1) := by decide +kernel
theorem dX12_agentsBits_53 : decode cX12_agentsBits 53 = .ok (.istore_n 2, 1) := by decide +kernel
theorem dX12_agentsBits_54 : decode cX12_agentsBits 54 = .ok (.iinc 3 1, 3) := by decide +kernel
theorem dX12_agentsBits_57 : decode cX12_agentsBits 57 = .ok (.goto (-53), 3) := by decide +kernel
theorem dX12_agentsBits_60 : decode cX12_agentsBits 60 = .ok (.iload_n 2, 1) := by decide +kernel
theorem dX12_agentsBits_61 : decode cX12_agentsBits 61 = .ok (.ireturn, 1) := by decide +kernel
def f_X12_agentsBits_52 (F P : Nat) (S : xSt) (rec_4 : Nat → Int32 → Int32 → Int32 → xDt → Option (Int32 × xDt)) (v0 : Nat) (v1 : Int32) (v3 : Int32) (s0 : Int32) (s1 : Int32) (D : xDt) : Option (Int32 × xDt) :=
  xlet (s1 ||| s0) fun v2_1 => xlet (v3 + 1) fun v3_2 => rec_4 v0 v1 v2_1 v3_2 D
set_option maxHeartbeats 4000000 in
theorem t_X12_agentsBits_52 {F P : Nat} {S : xSt} (hS : xWF S) {rec_4 : Nat → Int32 → Int32 → Int32 → xDt → Option (Int32 × xDt)} (hrec_4 : ∀ {v0 : Nat} {v1 : Int32} {v2 : Int32} {v3 : Int32} {D : xDt} {r : Int32 × xDt}, xK S v0 12 → rec_4 v0 v1 v2 v3 D = some r → yEx md_X12_agentsBits 0 4 [(0, .ref v0), (1, .int v1), (2, .int v2), (3, .int v3)] [] S D (xQi S r)) {v0 : Nat} {v1 : Int32} {v3 : Int32} {s0 : Int32} {s1 : Int32} {D : xDt} {r : Int32 × xDt} (k0 : xK S v0 12) (h : f_X12_agentsBits_52 F P S rec_4 v0 v1 v3 s0 s1 D = some r) : yEx md_X12_agentsBits 0 52 [(0, .ref v0), (1, .int v1), (3, .int v3)] [.int s0, .int s1] S D (xQi S r) := by
  unfold f_X12_agentsBits_52 at h
  refine x_ior dX12_agentsBits_52 ?_
  refine xlet_e h (fun v2_1 ev2_1 h => ?_)
  refine y_istore_n v2_1 ev2_1 [(2, .int v2_1), (0, .ref v0), (1, .int v1), (3, .int v3)] dX12_agentsBits_53 (by show _ < 4; decide) rfl ?_
  refine xlet_e h (fun v3_2 ev3_2 h => ?_)
  refine y_iinc v3_2 ev3_2 (by decide) [(3, .int v3_2), (2, .int v2_1), (0, .ref v0), (1, .int v1)] dX12_agentsBits_54 3 rfl (by show _ < 4; decide) rfl ?_
  refine x_goto 4 dX12_agentsBits_57 (by decide) ?_
  refine x_lv (lv' := [(0, .ref v0), (1, .int v1), (2, .int v2_1), (3, .int v3_2)]) [2, 3, 1, 0] rfl ?_
  exact hrec_4 k0 h

def f_X12_agentsBits_51 (F P : Nat) (S : xSt) (rec_4 : Nat → Int32 → Int32 → Int32 → xDt → Option (Int32 × xDt)) (v0 : Nat) (v1 : Int32) (v3 : Int32) (s0 : Int32) (D : xDt) : Option (Int32 × xDt) :=
  f_X12_agentsBits_52 F P S rec_4 v0 v1 v3 0 s0 D
set_option maxHeartbeats 4000000 in
theorem t_X12_agentsBits_51 {F P : Nat} {S : xSt} (hS : xWF S) {rec_4 : Nat → Int32 → Int32 → Int32 → xDt → Option (Int32 × xDt)} (hrec_4 : ∀ {v0 : Nat} {v1 : Int32} {v2 : Int32} {v3 : Int32} {D : xDt} {r : Int32 × xDt}, xK S v0 12 → rec_4 v0 v1 v2 v3 D = some r → yEx md_X12_agentsBits 0 4 [(0, .ref v0), (1, .int v1), (2, .int v2), (3, .int v3)] [] S D (xQi S r)) {v0 : Nat} {v1 : Int32} {v3 : Int32} {s0 : Int32} {D : xDt} {r : Int32 × xDt} (k0 : xK S v0 12) (h : f_X12_agentsBits_51 F P S rec_4 v0 v1 v3 s0 D = some r) : yEx md_X12_agentsBits 0 51 [(0, .ref v0), (1, .int v1), (3, .int v3)] [.int s0] S D (xQi S r) := by
  unfold f_X12_agentsBits_51 at h
  refine x_iconst 0 dX12_agentsBits_51 (by decide) ?_
  exact t_X12_agentsBits_52 hS hrec_4 k0 h

def f_X12_agentsBits_4s (F P : Nat) (S : xSt) (rec_4 : Nat → Int32 → Int32 → Int32 → xDt → Option (Int32 × xDt)) (v0 : Nat) (v1 : Int32) (v2 : Int32) (v3 : Int32) (D : xDt) : Option (Int32 × xDt) :=
  if (D.1 v0 38) ≤ v3 then (some (v2, D)) else (xgrd (xin v3 (xl S (xr S v0 37))) (xgrd (xin (D.1 (xr S v0 37) (v3).toNatClampNeg) (xl S (xr S v0 8))) (if (D.1 (xr S v0 8) (D.1 (xr S v0 37) (v3).toNatClampNeg).toNatClampNeg) = 5 then (xgrd (xin v3 (xl S (xr S v0 37))) (xgrd (xin (D.1 (xr S v0 37) (v3).toNatClampNeg) (xl S (xr S v0 11))) (if (D.1 (xr S v0 11) (D.1 (xr S v0 37) (v3).toNatClampNeg).toNatClampNeg) = (jishl 1 v1) then (f_X12_agentsBits_52 F P S rec_4 v0 v1 v3 (jishl 1 v3) v2 D) else (f_X12_agentsBits_51 F P S rec_4 v0 v1 v3 v2 D)))) else (f_X12_agentsBits_51 F P S rec_4 v0 v1 v3 v2 D))))
def f_X12_agentsBits_4 (F P : Nat) (S : xSt) : Nat → Nat → Int32 → Int32 → Int32 → xDt → Option (Int32 × xDt)
  | 0 => fun _ _ _ _ _ => none
  | n + 1 => f_X12_agentsBits_4s F P S (f_X12_agentsBits_4 F P S n)
set_option maxHeartbeats 4000000 in
theorem t_X12_agentsBits_4s {F P : Nat} {S : xSt} (hS : xWF S) {rec_4 : Nat → Int32 → Int32 → Int32 → xDt → Option (Int32 × xDt)} (hrec_4 : ∀ {v0 : Nat} {v1 : Int32} {v2 : Int32} {v3 : Int32} {D : xDt} {r : Int32 × xDt}, xK S v0 12 → rec_4 v0 v1 v2 v3 D = some r → yEx md_X12_agentsBits 0 4 [(0, .ref v0), (1, .int v1), (2, .int v2), (3, .int v3)] [] S D (xQi S r)) {v0 : Nat} {v1 : Int32} {v2 : Int32} {v3 : Int32} {D : xDt} {r : Int32 × xDt} (k0 : xK S v0 12) (h : f_X12_agentsBits_4s F P S rec_4 v0 v1 v2 v3 D = some r) : yEx md_X12_agentsBits 0 4 [(0, .ref v0), (1, .int v1), (2, .int v2), (3, .int v3)] [] S D (xQi S r) := by
  unfold f_X12_agentsBits_4s at h
  refine x_iload_n dX12_agentsBits_4 3 rfl ?_
  refine x_aload_n dX12_agentsBits_5 0 rfl ?_
  refine y_geti fl_RX12_310 dX12_agentsBits_6 rfl k0 ?_
  refine x_icmp_ge 60 dX12_agentsBits_9 (by decide) (fun c => ?_) (fun c => ?_)
  · rw [if_pos c] at h
    refine x_iload_n dX12_agentsBits_60 2 rfl ?_
    obtain rfl := Option.some.inj h
    exact y_iret rfl dX12_agentsBits_61
  · rw [if_neg c] at h
    refine x_iload_n dX12_agentsBits_12 2 rfl ?_
    refine x_aload_n dX12_agentsBits_13 0 rfl ?_
    refine y_getr (kd := 100) hS fl_RX12_72 dX12_agentsBits_14 rfl k0 ?_
    refine x_aload_n dX12_agentsBits_17 0 rfl ?_
    refine y_getr (kd := 100) hS fl_RX12_134 dX12_agentsBits_18 rfl k0 ?_
    refine x_iload_n dX12_agentsBits_21 3 rfl ?_
    refine xgrd_e h (fun g1 h => ?_)
    refine y_iald dX12_agentsBits_22 ((hS.f k0 37 100 rfl).2) g1 ?_
    refine xgrd_e h (fun g2 h => ?_)
    refine y_iald dX12_agentsBits_23 ((hS.f k0 8 100 rfl).2) g2 ?_
    refine x_iconst 5 dX12_agentsBits_24 (by decide) ?_
    refine x_icmp_ne 51 dX12_agentsBits_25 (by decide) (fun c => ?_) (fun c => ?_)
    · rw [if_neg c] at h
      refine x_lv (lv' := [(0, .ref v0), (1, .int v1), (3, .int v3)]) [0, 1, 3] rfl ?_
      exact t_X12_agentsBits_51 hS hrec_4 k0 h
    · rw [if_pos c] at h
      refine x_aload_n dX12_agentsBits_28 0 rfl ?_
      refine y_getr (kd := 100) hS fl_RX12_81 dX12_agentsBits_29 rfl k0 ?_
      refine x_aload_n dX12_agentsBits_32 0 rfl ?_
      refine y_getr (kd := 100) hS fl_RX12_134 dX12_agentsBits_33 rfl k0 ?_
      refine x_iload_n dX12_agentsBits_36 3 rfl ?_
      refine xgrd_e h (fun g3 h => ?_)
      refine y_iald dX12_agentsBits_37 ((hS.f k0 37 100 rfl).2) g3 ?_
      refine xgrd_e h (fun g4 h => ?_)
      refine y_iald dX12_agentsBits_38 ((hS.f k0 11 100 rfl).2) g4 ?_
      refine x_iconst 1 dX12_agentsBits_39 (by decide) ?_
      refine x_iload_n dX12_agentsBits_40 1 rfl ?_
      refine x_ishl dX12_agentsBits_41 ?_
      refine x_icmp_ne 51 dX12_agentsBits_42 (by decide) (fun c => ?_) (fun c => ?_)
      · rw [if_neg c] at h
        refine x_lv (lv' := [(0, .ref v0), (1, .int v1), (3, .int v3)]) [0, 1, 3] rfl ?_
        exact t_X12_agentsBits_51 hS hrec_4 k0 h
      · rw [if_pos c] at h
        refine x_iconst 1 dX12_agentsBits_45 (by decide) ?_
        refine x_iload_n dX12_agentsBits_46 3 rfl ?_
        refine x_ishl dX12_agentsBits_47 ?_
        refine x_goto 52 dX12_agentsBits_48 (by decide) ?_
        refine x_lv (lv' := [(0, .ref v0), (1, .int v1), (3, .int v3)]) [0, 1, 3] rfl ?_
        exact t_X12_agentsBits_52 hS hrec_4 k0 h
theorem t_X12_agentsBits_4 {F P : Nat} {S : xSt} (hS : xWF S) : ∀ (n : Nat) {v0 : Nat} {v1 : Int32} {v2 : Int32} {v3 : Int32} {D : xDt} {r : Int32 × xDt}, xK S v0 12 → f_X12_agentsBits_4 F P S n v0 v1 v2 v3 D = some r → yEx md_X12_agentsBits 0 4 [(0, .ref v0), (1, .int v1), (2, .int v2), (3, .int v3)] [] S D (xQi S r) := by
  intro n
  induction n with
  | zero => intros; rename_i h; cases h
  | succ n ih =>
    intro v0 v1 v2 v3 D r k0 h
    exact t_X12_agentsBits_4s hS (fun k0 h => ih k0 h) k0 h

def f_X12_agentsBits (F P : Nat) (S : xSt) (v0 : Nat) (v1 : Int32) (D : xDt) : Option (Int32 × xDt) :=
  f_X12_agentsBits_4 F P S F v0 v1 0 0 D
set_option maxHeartbeats 4000000 in
theorem S_X12_agentsBits {F P : Nat} {S : xSt} (hS : xWF S) {v0 : Nat} {v1 : Int32} {D : xDt} {r : Int32 × xDt} (k0 : xK S v0 12) (h : f_X12_agentsBits F P S v0 v1 D = some r) : xSp md_X12_agentsBits (0, 0, 0) [.ref v0, .int v1] (S, D) (xQi S r) := by
  unfold f_X12_agentsBits at h
  refine xEntry (by decide) (Nat.le_of_ble_eq_true rfl) ?_
  refine x_lv (lv' := [(0, .ref v0), (1, .int v1)]) [0, 1] rfl ?_
  refine x_iconst 0 dX12_agentsBits_0 (by decide) ?_
  refine y_istore_n 0 rfl [(2, .int 0), (0, .ref v0), (1, .int v1)] dX12_agentsBits_1 (by show _ < 4; decide) rfl ?_
  refine x_iconst 0 dX12_agentsBits_2 (by decide) ?_
  refine y_istore_n 0 rfl [(3, .int 0), (2, .int 0), (0, .ref v0), (1, .int v1)] dX12_agentsBits_3 (by show _ < 4; decide) rfl ?_
  refine x_lv (lv' := [(0, .ref v0), (1, .int v1), (2, .int 0), (3, .int 0)]) [2, 3, 1, 0] rfl ?_
  exact t_X12_agentsBits_4 hS F k0 h

theorem dX12_isType_0 : decode cX12_isType 0 = .ok (.iconst 0, 1) := by decide +kernel
theorem dX12_isType_1 : decode cX12_isType 1 = .ok (.istore_n 2, 1) := by decide +kernel
theorem dX12_isType_2 : decode cX12_isType 2 = .ok (.iload_n 2, 1) := by decide +kernel
theorem dX12_isType_3 : decode cX12_isType 3 = .ok (.aload_n 0, 1) := by decide +kernel
theorem dX12_isType_4 : decode cX12_isType 4 = .ok (.getfield 310, 3) := by decide +kernel
theorem dX12_isType_7 : decode cX12_isType 7 = .ok (.if_icmp .ge 122, 3) := by decide +kernel
theorem dX12_isType_10 : decode cX12_isType 10 = .ok (.aload_n 0, 1) := by decide +kernel
theorem dX12_isType_11 : decode cX12_isType 11 = .ok (.getfield 134, 3) := by decide +kernel
theorem dX12_isType_14 : decode cX12_isType 14 = .ok (.iload_n 2, 1) := by decide +kernel
theorem dX12_isType_15 : decode cX12_isType 15 = .ok (.iaload, 1) := by decide +kernel
theorem dX12_isType_16 : decode cX12_isType 16 = .ok (.istore_n 3, 1) := by decide +kernel
theorem dX12_isType_17 : decode cX12_isType 17 = .ok (.aload_n 0, 1) := by decide +kernel
theorem dX12_isType_18 : decode cX12_isType 18 = .ok (.getfield 72, 3) := by decide +kernel
theorem dX12_isType_21 : decode cX12_isType 21 = .ok (.iload_n 3, 1) := by decide +kernel
theorem dX12_isType_22 : decode cX12_isType 22 = .ok (.iaload, 1) := by decide +kernel
theorem dX12_isType_23 : decode cX12_isType 23 = .ok (.iconst 1, 1) := by decide +kernel
theorem dX12_isType_24 : decode cX12_isType 24 = .ok (.if_icmp .eq 99, 3) := by decide +kernel
theorem dX12_isType_27 : decode cX12_isType 27 = .ok (.iload_n 1, 1) := by decide +kernel
theorem dX12_isType_28 : decode cX12_isType 28 = .ok (.iload_n 2, 1) := by decide +kernel
theorem dX12_isType_29 : decode cX12_isType 29 = .ok (.ishr, 1) := by decide +kernel
theorem dX12_isType_30 : decode cX12_isType 30 = .ok (.iconst 1, 1) := by decide +kernel
theorem dX12_isType_31 : decode cX12_isType 31 = .ok (.iand, 1) := by decide +kernel
theorem dX12_isType_32 : decode cX12_isType 32 = .ok (.iconst 1, 1) := by decide +kernel
theorem dX12_isType_33 : decode cX12_isType 33 = .ok (.if_icmp .ne 90, 3) := by decide +kernel
theorem dX12_isType_36 : decode cX12_isType 36 = .ok (.aload_n 0, 1) := by decide +kernel
theorem dX12_isType_37 : decode cX12_isType 37 = .ok (.getfield 150, 3) := by decide +kernel
theorem dX12_isType_40 : decode cX12_isType 40 = .ok (.aload_n 0, 1) := by decide +kernel
theorem dX12_isType_41 : decode cX12_isType 41 = .ok (.getfield 75, 3) := by decide +kernel
theorem dX12_isType_44 : decode cX12_isType 44 = .ok (.iload_n 3, 1) := by decide +kernel
theorem dX12_isType_45 : decode cX12_isType 45 = .ok (.iaload, 1) := by decide +kernel
theorem dX12_isType_46 : decode cX12_isType 46 = .ok (.sipush 12800, 3) := by decide +kernel
theorem dX12_isType_49 : decode cX12_isType 49 = .ok (.isub, 1) := by decide +kernel
theorem dX12_isType_50 : decode cX12_isType 50 = .ok (.baload, 1) := by decide +kernel
theorem dX12_isType_51 : decode cX12_isType 51 = .ok (.ifCond .ne 5, 3) := by decide +kernel
theorem dX12_isType_54 : decode cX12_isType 54 = .ok (.iconst 0, 1) := by decide +kernel
theorem dX12_isType_55 : decode cX12_isType 55 = .ok (.ireturn, 1) := by decide +kernel
theorem dX12_isType_56 : decode cX12_isType 56 = .ok (.iconst 0, 1) := by decide +kernel
theorem dX12_isType_57 : decode cX12_isType 57 = .ok (.istore 4, 2) := by decide +kernel
theorem dX12_isType_59 : decode cX12_isType 59 = .ok (.iload 4, 2) := by decide +kernel
theorem dX12_isType_61 : decode cX12_isType 61 = .ok (.iconst 4, 1) := by decide +kernel
theorem dX12_isType_62 : decode cX12_isType 62 = .ok (.if_icmp .ge 61, 3) := by decide +kernel
theorem dX12_isType_65 : decode cX12_isType 65 = .ok (.aload_n 0, 1) := by decide +kernel
theorem dX12_isType_66 : decode cX12_isType 66 = .ok (.getfield 72, 3) := by decide +kernel
theorem dX12_isType_69 : decode cX12_isType 69 = .ok (.iload_n 3, 1) := by decide +kernel
theorem dX12_isType_70 : decode cX12_isType 70 = .ok (.iaload, 1) := by decide +kernel
theorem dX12_isType_71 : decode cX12_isType 71 = .ok (.bipush 8, 2) := by decide +kernel
theorem dX12_isType_73 : decode cX12_isType 73 = .ok (.if_icmp .ne 50, 3) := by decide +kernel
theorem dX12_isType_76 : decode cX12_isType 76 = .ok (.aload_n 0, 1) := by decide +kernel
theorem dX12_isType_77 : decode cX12_isType 77 = .ok (.getfield 81, 3) := by decide +kernel
theorem dX12_isType_80 : decode cX12_isType 80 = .ok (.iload_n 3, 1) := by decide +kernel
theorem dX12_isType_81 : decode cX12_isType 81 = .ok (.iaload, 1) := by decide +kernel
theorem dX12_isType_82 : decode cX12_isType 82 = .ok (.iload 4, 2) := by decide +kernel
theorem dX12_isType_84 : decode cX12_isType 84 = .ok (.ishr, 1) := by decide +kernel
theorem dX12_isType_85 : decode cX12_isType 85 = .ok (.iconst 1, 1) := by decide +kernel
theorem dX12_isType_86 : decode cX12_isType 86 = .ok (.iand, 1) := by decide +kernel
theorem dX12_isType_87 : decode cX12_isType 87 = .ok (.iconst 1, 1) := by decide +kernel
theorem dX12_isType_88 : decode cX12_isType 88 = .ok (.if_icmp .ne 29, 3) := by decide +kernel
theorem dX12_isType_91 : decode cX12_isType 91 = .ok (.aload_n 0, 1) := by decide +kernel
theorem dX12_isType_92 : decode cX12_isType 92 = .ok (.getfield 150, 3) := by decide +kernel
theorem dX12_isType_95 : decode cX12_isType 95 = .ok (.aload_n 0, 1) := by decide +kernel
theorem dX12_isType_96 : decode cX12_isType 96 = .ok (.iconst 5, 1) := by decide +kernel
theorem dX12_isType_97 : decode cX12_isType 97 = .ok (.iload_n 3, 1) := by decide +kernel
theorem dX12_isType_98 : decode cX12_isType 98 = .ok (.bipush (-2), 2) := by decide +kernel
theorem dX12_isType_100 : decode cX12_isType 100 = .ok (.iconst 1, 1) := by decide +kernel
theorem dX12_isType_101 : decode cX12_isType 101 = .ok (.iload 4, 2) := by decide +kernel
theorem dX12_isType_103 : decode cX12_isType 103 = .ok (.ishl, 1) := by decide +kernel
theorem dX12_isType_104 : decode cX12_isType 104 = .ok (.invokevirtual 307, 3) := by decide +kernel
theorem dX12_isType_107 : decode cX12_isType 107 = .ok (.sipush 12800, 3) := by decide +kernel
theorem dX12_isType_110 : decode cX12_isType 110 = .ok (.isub, 1) := by decide +kernel
theorem dX12_isType_111 : decode cX12_isType 111 = .ok (.baload, 1) := by decide +kernel
theorem dX12_isType_112 : decode cX12_isType 112 = .ok (.ifCond .ne 5, 3) := by decide +kernel
theorem dX12_isType_115 : decode cX12_isType 115 = .ok (.iconst 0, 1) := by decide +kernel
theorem dX12_isType_116 : decode cX12_isType 116 = .ok (.ireturn, 1) := by decide +kernel
theorem dX12_isType_117 : decode cX12_isType 117 = .ok (.iinc 4 1, 3) := by decide +kernel
theorem dX12_isType_120 : decode cX12_isType 120 = .ok (.goto (-61), 3) := by decide +kernel
theorem dX12_isType_123 : decode cX12_isType 123 = .ok (.iinc 2 1, 3) := by decide +kernel
theorem dX12_isType_126 : decode cX12_isType 126 = .ok (.goto (-124), 3) := by decide +kernel
theorem dX12_isType_129 : decode cX12_isType 129 = .ok (.iconst 1, 1) := by decide +kernel
theorem dX12_isType_130 : decode cX12_isType 130 = .ok (.ireturn, 1) := by decide +kernel
def f_X12_isType_117 (F P : Nat) (S : xSt) (rec_2 : Nat → Int32 → Int32 → xDt → Option (Int32 × xDt)) (rec_59 : Nat → Int32 → Int32 → Int32 → Int32 → xDt → Option (Int32 × xDt)) (v0 : Nat) (v1 : Int32) (v2 : Int32) (v3 : Int32) (v4 : Int32) (D : xDt) : Option (Int32 × xDt) :=
  xlet (v4 + 1) fun v4_1 => rec_59 v0 v1 v2 v3 v4_1 D
set_option maxHeartbeats 4000000 in
theorem t_X12_isType_117 {F P : Nat} {S : xSt} (hS : xWF S) {rec_2 : Nat → Int32 → Int32 → xDt → Option (Int32 × xDt)} (hrec_2 : ∀ {v0 : Nat} {v1 : Int32} {v2 : Int32} {D : xDt} {r : Int32 × xDt}, xK S v0 12 → rec_2 v0 v1 v2 D = some r → yEx md_X12_isType 2 2 [(0, .ref v0), (1, .int v1), (2, .int v2)] [] S D (xQi S r)) {rec_59 : Nat → Int32 → Int32 → Int32 → Int32 → xDt → Option (Int32 × xDt)} (hrec_59 : ∀ {v0 : Nat} {v1 : Int32} {v2 : Int32} {v3 : Int32} {v4 : Int32} {D : xDt} {r : Int32 × xDt}, xK S v0 12 → rec_59 v0 v1 v2 v3 v4 D = some r → yEx md_X12_isType 2 59 [(0, .ref v0), (1, .int v1), (2, .int v2), (3, .int v3), (4, .int v4)] [] S D (xQi S r)) {v0 : Nat} {v1 : Int32} {v2 : Int32} {v3 : Int32} {v4 : Int32} {D : xDt} {r : Int32 × xDt} (k0 : xK S v0 12) (h : f_X12_isType_117 F P S rec_2 rec_59 v0 v1 v2 v3 v4 D = some r) : yEx md_X12_isType 2 117 [(0, .ref v0), (1, .int v1), (2, .int v2), (3, .int v3), (4, .int v4)] [] S D (xQi S r) := by
  unfold f_X12_isType_117 at h
  refine xlet_e h (fun v4_1 ev4_1 h => ?_)
  refine y_iinc v4_1 ev4_1 (by decide) [(4, .int v4_1), (0, .ref v0), (1, .int v1), (2, .int v2), (3, .int v3)] dX12_isType_117 4 rfl (by show _ < 5; decide) rfl ?_
  refine x_goto 59 dX12_isType_120 (by decide) ?_
  refine x_lv (lv' := [(0, .ref v0), (1, .int v1), (2, .int v2), (3, .int v3), (4, .int v4_1)]) [1, 2, 3, 4, 0] rfl ?_
  exact hrec_59 k0 h

def f_X12_isType_123 (F P : Nat) (S : xSt) (rec_2 : Nat → Int32 → Int32 → xDt → Option (Int32 × xDt)) (v0 : Nat) (v1 : Int32) (v2 : Int32) (D : xDt) : Option (Int32 × xDt) :=
  xlet (v2 + 1) fun v2_1 => rec_2 v0 v1 v2_1 D
set_option maxHeartbeats 4000000 in
theorem t_X12_isType_123 {F P : Nat} {S : xSt} (hS : xWF S) {rec_2 : Nat → Int32 → Int32 → xDt → Option (Int32 × xDt)} (hrec_2 : ∀ {v0 : Nat} {v1 : Int32} {v2 : Int32} {D : xDt} {r : Int32 × xDt}, xK S v0 12 → rec_2 v0 v1 v2 D = some r → yEx md_X12_isType 2 2 [(0, .ref v0), (1, .int v1), (2, .int v2)] [] S D (xQi S r)) {v0 : Nat} {v1 : Int32} {v2 : Int32} {D : xDt} {r : Int32 × xDt} (k0 : xK S v0 12) (h : f_X12_isType_123 F P S rec_2 v0 v1 v2 D = some r) : yEx md_X12_isType 2 123 [(0, .ref v0), (1, .int v1), (2, .int v2)] [] S D (xQi S r) := by
  unfold f_X12_isType_123 at h
  refine xlet_e h (fun v2_1 ev2_1 h => ?_)
  refine y_iinc v2_1 ev2_1 (by decide) [(2, .int v2_1), (0, .ref v0), (1, .int v1)] dX12_isType_123 2 rfl (by show _ < 5; decide) rfl ?_
  refine x_goto 2 dX12_isType_126 (by decide) ?_
  refine x_lv (lv' := [(0, .ref v0), (1, .int v1), (2, .int v2_1)]) [1, 2, 0] rfl ?_
  exact hrec_2 k0 h

def f_X12_isType_59s (F P : Nat) (S : xSt) (rec_2 : Nat → Int32 → Int32 → xDt → Option (Int32 × xDt)) (rec_59 : Nat → Int32 → Int32 → Int32 → Int32 → xDt → Option (Int32 × xDt)) (v0 : Nat) (v1 : Int32) (v2 : Int32) (v3 : Int32) (v4 : Int32) (D : xDt) : Option (Int32 × xDt) :=
  if 4 ≤ v4 then (f_X12_isType_123 F P S rec_2 v0 v1 v2 D) else (xgrd (xin v3 (xl S (xr S v0 8))) (if (D.1 (xr S v0 8) (v3).toNatClampNeg) = 8 then (xgrd (xin v3 (xl S (xr S v0 11))) (if ((jishr (D.1 (xr S v0 11) (v3).toNatClampNeg) v4) &&& 1) = 1 then ((f_X12_shared F P S v0 5 v3 (-2) (jishl 1 v4) D).bind fun q3 => xgrd (xin (q3.1 - 12800) (xl S (xr S v0 43))) (if (q3.2.1 (xr S v0 43) (q3.1 - 12800).toNatClampNeg) = 0 then (some (0, q3.2)) else (f_X12_isType_117 F P S rec_2 rec_59 v0 v1 v2 v3 v4 q3.2))) else (f_X12_isType_117 F P S rec_2 rec_59 v0 v1 v2 v3 v4 D))) else (f_X12_isType_123 F P S rec_2 v0 v1 v2 D)))
def f_X12_isType_59 (F P : Nat) (S : xSt) (rec_2 : Nat → Int32 → Int32 → xDt → Option (Int32 × xDt)) : Nat → Nat → Int32 → Int32 → Int32 → Int32 → xDt → Option (Int32 × xDt)
  | 0 => fun _ _ _ _ _ _ => none
  | n + 1 => f_X12_isType_59s F P S rec_2 (f_X12_isType_59 F P S rec_2 n)
set_option maxHeartbeats 4000000 in
theorem t_X12_isType_59s {F P : Nat} {S : xSt} (hS : xWF S) {rec_2 : Nat → Int32 → Int32 → xDt → Option (Int32 × xDt)} (hrec_2 : ∀ {v0 : Nat} {v1 : Int32} {v2 : Int32} {D : xDt} {r : Int32 × xDt}, xK S v0 12 → rec_2 v0 v1 v2 D = some r → yEx md_X12_isType 2 2 [(0, .ref v0), (1, .int v1), (2, .int v2)] [] S D (xQi S r)) {rec_59 : Nat → Int32 → Int32 → Int32 → Int32 → xDt → Option (Int32 × xDt)} (hrec_59 : ∀ {v0 : Nat} {v1 : Int32} {v2 : Int32} {v3 : Int32} {v4 : Int32} {D : xDt} {r : Int32 × xDt}, xK S v0 12 → rec_59 v0 v1 v2 v3 v4 D = some r → yEx md_X12_isType 2 59 [(0, .ref v0), (1, .int v1), (2, .int v2), (3, .int v3), (4, .int v4)] [] S D (xQi S r)) {v0 : Nat} {v1 : Int32} {v2 : Int32} {v3 : Int32} {v4 : Int32} {D : xDt} {r : Int32 × xDt} (k0 : xK S v0 12) (h : f_X12_isType_59s F P S rec_2 rec_59 v0 v1 v2 v3 v4 D = some r) : yEx md_X12_isType 2 59 [(0, .ref v0), (1, .int v1), (2, .int v2), (3, .int v3), (4, .int v4)] [] S D (xQi S r) := by
  unfold f_X12_isType_59s at h
  refine x_iload dX12_isType_59 4 rfl ?_
  refine x_iconst 4 dX12_isType_61 (by decide) ?_
  refine x_icmp_ge 123 dX12_isType_62 (by decide) (fun c => ?_) (fun c => ?_)
  · rw [if_pos c] at h
    refine x_lv (lv' := [(0, .ref v0), (1, .int v1), (2, .int v2)]) [0, 1, 2] rfl ?_
    exact t_X12_isType_123 hS hrec_2 k0 h
  · rw [if_neg c] at h
    refine x_aload_n dX12_isType_65 0 rfl ?_
    refine y_getr (kd := 100) hS fl_RX12_72 dX12_isType_66 rfl k0 ?_
    refine x_iload_n dX12_isType_69 3 rfl ?_
    refine xgrd_e h (fun g1 h => ?_)
    refine y_iald dX12_isType_70 ((hS.f k0 8 100 rfl).2) g1 ?_
    refine x_bipush 8 dX12_isType_71 (by decide) ?_
    refine x_icmp_ne 123 dX12_isType_73 (by decide) (fun c => ?_) (fun c => ?_)
    · rw [if_neg c] at h
      refine x_lv (lv' := [(0, .ref v0), (1, .int v1), (2, .int v2)]) [0, 1, 2] rfl ?_
      exact t_X12_isType_123 hS hrec_2 k0 h
    · rw [if_pos c] at h
      refine x_aload_n dX12_isType_76 0 rfl ?_
      refine y_getr (kd := 100) hS fl_RX12_81 dX12_isType_77 rfl k0 ?_
      refine x_iload_n dX12_isType_80 3 rfl ?_
      refine xgrd_e h (fun g2 h => ?_)
      refine y_iald dX12_isType_81 ((hS.f k0 11 100 rfl).2) g2 ?_
      refine x_iload dX12_isType_82 4 rfl ?_
      refine x_ishr dX12_isType_84 ?_
      refine x_iconst 1 dX12_isType_85 (by decide) ?_
      refine x_iand dX12_isType_86 ?_
      refine x_iconst 1 dX12_isType_87 (by decide) ?_
      refine x_icmp_ne 117 dX12_isType_88 (by decide) (fun c => ?_) (fun c => ?_)
      · rw [if_neg c] at h
        exact t_X12_isType_117 hS hrec_2 hrec_59 k0 h
      · rw [if_pos c] at h
        refine x_aload_n dX12_isType_91 0 rfl ?_
        refine y_getr (kd := 104) hS fl_RX12_150 dX12_isType_92 rfl k0 ?_
        refine x_aload_n dX12_isType_95 0 rfl ?_
        refine x_iconst 5 dX12_isType_96 (by decide) ?_
        refine x_iload_n dX12_isType_97 3 rfl ?_
        refine x_bipush (-2) dX12_isType_98 (by decide) ?_
        refine x_iconst 1 dX12_isType_100 (by decide) ?_
        refine x_iload dX12_isType_101 4 rfl ?_
        refine x_ishl dX12_isType_103 ?_
        refine xbnd_e h (fun q3 e3 h => ?_)
        refine y_callVi (As := [.int 5, .int v3, .int (-2), .int (jishl 1 v4)]) (q := q3) cv_RX12_307 dX12_isType_104 k0 rfl (Nat.le_of_ble_eq_true rfl) (by omega) (S_X12_shared hS k0 e3) ?_
        refine x_sipush 12800 dX12_isType_107 (by decide) ?_
        refine x_isub dX12_isType_110 ?_
        refine xgrd_e h (fun g4 h => ?_)
        refine y_zald dX12_isType_111 ((hS.f k0 43 104 rfl).2) g4 ?_
        refine x_if_ne 117 dX12_isType_112 (by decide) (fun c => ?_) (fun c => ?_)
        · rw [if_neg c] at h
          exact t_X12_isType_117 hS hrec_2 hrec_59 k0 h
        · rw [if_pos c] at h
          refine x_iconst 0 dX12_isType_115 (by decide) ?_
          obtain rfl := Option.some.inj h
          exact y_zret rfl rfl dX12_isType_116
theorem t_X12_isType_59 {F P : Nat} {S : xSt} (hS : xWF S) {rec_2 : Nat → Int32 → Int32 → xDt → Option (Int32 × xDt)} (hrec_2 : ∀ {v0 : Nat} {v1 : Int32} {v2 : Int32} {D : xDt} {r : Int32 × xDt}, xK S v0 12 → rec_2 v0 v1 v2 D = some r → yEx md_X12_isType 2 2 [(0, .ref v0), (1, .int v1), (2, .int v2)] [] S D (xQi S r)) : ∀ (n : Nat) {v0 : Nat} {v1 : Int32} {v2 : Int32} {v3 : Int32} {v4 : Int32} {D : xDt} {r : Int32 × xDt}, xK S v0 12 → f_X12_isType_59 F P S rec_2 n v0 v1 v2 v3 v4 D = some r → yEx md_X12_isType 2 59 [(0, .ref v0), (1, .int v1), (2, .int v2), (3, .int v3), (4, .int v4)] [] S D (xQi S r) := by
  intro n
  induction n with
  | zero => intros; rename_i h; cases h
  | succ n ih =>
    intro v0 v1 v2 v3 v4 D r k0 h
    exact t_X12_isType_59s hS hrec_2 (fun k0 h => ih k0 h) k0 h

def f_X12_isType_2s (F P : Nat) (S : xSt) (rec_2 : Nat → Int32 → Int32 → xDt → Option (Int32 × xDt)) (v0 : Nat) (v1 : Int32) (v2 : Int32) (D : xDt) : Option (Int32 × xDt) :=
  if (D.1 v0 38) ≤ v2 then (some (1, D)) else (xgrd (xin v2 (xl S (xr S v0 37))) (xlet (D.1 (xr S v0 37) (v2).toNatClampNeg) fun v3_2 => xgrd (xin v3_2 (xl S (xr S v0 8))) (if (D.1 (xr S v0 8) (v3_2).toNatClampNeg) = 1 then (f_X12_isType_123 F P S rec_2 v0 v1 v2 D) else (if ((jishr v1 v2) &&& 1) = 1 then (xgrd (xin v3_2 (xl S (xr S v0 9))) (xgrd (xin ((D.1 (xr S v0 9) (v3_2).toNatClampNeg) - 12800) (xl S (xr S v0 43))) (if (D.1 (xr S v0 43) ((D.1 (xr S v0 9) (v3_2).toNatClampNeg) - 12800).toNatClampNeg) = 0 then (some (0, D)) else (f_X12_isType_59 F P S rec_2 F v0 v1 v2 v3_2 0 D)))) else (f_X12_isType_123 F P S rec_2 v0 v1 v2 D)))))
def f_X12_isType_2 (F P : Nat) (S : xSt) : Nat → Nat → Int32 → Int32 → xDt → Option (Int32 × xDt)
  | 0 => fun _ _ _ _ => none
  | n + 1 => f_X12_isType_2s F P S (f_X12_isType_2 F P S n)
set_option maxHeartbeats 4000000 in
theorem t_X12_isType_2s {F P : Nat} {S : xSt} (hS : xWF S) {rec_2 : Nat → Int32 → Int32 → xDt → Option (Int32 × xDt)} (hrec_2 : ∀ {v0 : Nat} {v1 : Int32} {v2 : Int32} {D : xDt} {r : Int32 × xDt}, xK S v0 12 → rec_2 v0 v1 v2 D = some r → yEx md_X12_isType 2 2 [(0, .ref v0), (1, .int v1), (2, .int v2)] [] S D (xQi S r)) {v0 : Nat} {v1 : Int32} {v2 : Int32} {D : xDt} {r : Int32 × xDt} (k0 : xK S v0 12) (h : f_X12_isType_2s F P S rec_2 v0 v1 v2 D = some r) : yEx md_X12_isType 2 2 [(0, .ref v0), (1, .int v1), (2, .int v2)] [] S D (xQi S r) := by
  unfold f_X12_isType_2s at h
  refine x_iload_n dX12_isType_2 2 rfl ?_
  refine x_aload_n dX12_isType_3 0 rfl ?_
  refine y_geti fl_RX12_310 dX12_isType_4 rfl k0 ?_
  refine x_icmp_ge 129 dX12_isType_7 (by decide) (fun c => ?_) (fun c => ?_)
  · rw [if_pos c] at h
    refine x_iconst 1 dX12_isType_129 (by decide) ?_
    obtain rfl := Option.some.inj h
    exact y_zret rfl rfl dX12_isType_130
  · rw [if_neg c] at h
    refine x_aload_n dX12_isType_10 0 rfl ?_
    refine y_getr (kd := 100) hS fl_RX12_134 dX12_isType_11 rfl k0 ?_
    refine x_iload_n dX12_isType_14 2 rfl ?_
    refine xgrd_e h (fun g1 h => ?_)
    refine y_iald dX12_isType_15 ((hS.f k0 37 100 rfl).2) g1 ?_
    refine xlet_e h (fun v3_2 ev3_2 h => ?_)
    refine y_istore_n v3_2 ev3_2 [(3, .int v3_2), (0, .ref v0), (1, .int v1), (2, .int v2)] dX12_isType_16 (by show _ < 5; decide) rfl ?_
    refine x_aload_n dX12_isType_17 1 rfl ?_
    refine y_getr (kd := 100) hS fl_RX12_72 dX12_isType_18 rfl k0 ?_
    refine x_iload_n dX12_isType_21 0 rfl ?_
    refine xgrd_e h (fun g3 h => ?_)
    refine y_iald dX12_isType_22 ((hS.f k0 8 100 rfl).2) g3 ?_
    refine x_iconst 1 dX12_isType_23 (by decide) ?_
    refine x_icmp_eq 123 dX12_isType_24 (by decide) (fun c => ?_) (fun c => ?_)
    · rw [if_pos c] at h
      refine x_lv (lv' := [(0, .ref v0), (1, .int v1), (2, .int v2)]) [1, 2, 3] rfl ?_
      exact t_X12_isType_123 hS hrec_2 k0 h
    · rw [if_neg c] at h
      refine x_iload_n dX12_isType_27 2 rfl ?_
      refine x_iload_n dX12_isType_28 3 rfl ?_
      refine x_ishr dX12_isType_29 ?_
      refine x_iconst 1 dX12_isType_30 (by decide) ?_
      refine x_iand dX12_isType_31 ?_
      refine x_iconst 1 dX12_isType_32 (by decide) ?_
      refine x_icmp_ne 123 dX12_isType_33 (by decide) (fun c => ?_) (fun c => ?_)
      · rw [if_neg c] at h
        refine x_lv (lv' := [(0, .ref v0), (1, .int v1), (2, .int v2)]) [1, 2, 3] rfl ?_
        exact t_X12_isType_123 hS hrec_2 k0 h
      · rw [if_pos c] at h
        refine x_aload_n dX12_isType_36 1 rfl ?_
        refine y_getr (kd := 104) hS fl_RX12_150 dX12_isType_37 rfl k0 ?_
        refine x_aload_n dX12_isType_40 1 rfl ?_
        refine y_getr (kd := 100) hS fl_RX12_75 dX12_isType_41 rfl k0 ?_
        refine x_iload_n dX12_isType_44 0 rfl ?_
        refine xgrd_e h (fun g4 h => ?_)
        refine y_iald dX12_isType_45 ((hS.f k0 9 100 rfl).2) g4 ?_
        refine x_sipush 12800 dX12_isType_46 (by decide) ?_
        refine x_isub dX12_isType_49 ?_
        refine xgrd_e h (fun g5 h => ?_)
        refine y_zald dX12_isType_50 ((hS.f k0 43 104 rfl).2) g5 ?_
        refine x_if_ne 56 dX12_isType_51 (by decide) (fun c => ?_) (fun c => ?_)
        · rw [if_neg c] at h
          refine x_iconst 0 dX12_isType_56 (by decide) ?_
          refine y_istore 0 rfl [(4, .int 0), (3, .int v3_2), (0, .ref v0), (1, .int v1), (2, .int v2)] dX12_isType_57 (by show _ < 5; decide) rfl ?_
          refine x_lv (lv' := [(0, .ref v0), (1, .int v1), (2, .int v2), (3, .int v3_2), (4, .int 0)]) [2, 3, 4, 1, 0] rfl ?_
          exact t_X12_isType_59 hS hrec_2 F k0 h
        · rw [if_pos c] at h
          refine x_iconst 0 dX12_isType_54 (by decide) ?_
          obtain rfl := Option.some.inj h
          exact y_zret rfl rfl dX12_isType_55
theorem t_X12_isType_2 {F P : Nat} {S : xSt} (hS : xWF S) : ∀ (n : Nat) {v0 : Nat} {v1 : Int32} {v2 : Int32} {D : xDt} {r : Int32 × xDt}, xK S v0 12 → f_X12_isType_2 F P S n v0 v1 v2 D = some r → yEx md_X12_isType 2 2 [(0, .ref v0), (1, .int v1), (2, .int v2)] [] S D (xQi S r) := by
  intro n
  induction n with
  | zero => intros; rename_i h; cases h
  | succ n ih =>
    intro v0 v1 v2 D r k0 h
    exact t_X12_isType_2s hS (fun k0 h => ih k0 h) k0 h

def f_X12_isType (F P : Nat) (S : xSt) (v0 : Nat) (v1 : Int32) (D : xDt) : Option (Int32 × xDt) :=
  f_X12_isType_2 F P S F v0 v1 0 D
set_option maxHeartbeats 4000000 in
theorem S_X12_isType {F P : Nat} {S : xSt} (hS : xWF S) {v0 : Nat} {v1 : Int32} {D : xDt} {r : Int32 × xDt} (k0 : xK S v0 12) (h : f_X12_isType F P S v0 v1 D = some r) : xSp md_X12_isType (2, 0, 0) [.ref v0, .int v1] (S, D) (xQi S r) := by
  unfold f_X12_isType at h
  refine xEntry (by decide) (Nat.le_of_ble_eq_true rfl) ?_
  refine x_lv (lv' := [(0, .ref v0), (1, .int v1)]) [0, 1] rfl ?_
  refine x_iconst 0 dX12_isType_0 (by decide) ?_
  refine y_istore_n 0 rfl [(2, .int 0), (0, .ref v0), (1, .int v1)] dX12_isType_1 (by show _ < 5; decide) rfl ?_
  refine x_lv (lv' := [(0, .ref v0), (1, .int v1), (2, .int 0)]) [1, 2, 0] rfl ?_
  exact t_X12_isType_2 hS F k0 h

