/-! printed by wip/whole/gen.py: the methods as plain functions, each proved to be what its bytecode does -/
theorem dX12_contract_0 : decode cX12_contract 0 = .ok (.aload_n 0, 1) := by decide +kernel
theorem dX12_contract_1 : decode cX12_contract 1 = .ok (.invokevirtual 281, 3) := by decide +kernel
theorem dX12_contract_4 : decode cX12_contract 4 = .ok (.iconst 1, 1) := by decide +kernel
theorem dX12_contract_5 : decode cX12_contract 5 = .ok (.istore_n 1, 1) := by decide +kernel
theorem dX12_contract_6 : decode cX12_contract 6 = .ok (.iload_n 1, 1) := by decide +kernel
theorem dX12_contract_7 : decode cX12_contract 7 = .ok (.ifCond .eq 11, 3) := by decide +kernel
theorem dX12_contract_10 : decode cX12_contract 10 = .ok (.aload_n 0, 1) := by decide +kernel
theorem dX12_contract_11 : decode cX12_contract 11 = .ok (.invokevirtual 284, 3) := by decide +kernel
theorem dX12_contract_14 : decode cX12_contract 14 = .ok (.istore_n 1, 1) := by decide +kernel
theorem dX12_contract_15 : decode cX12_contract 15 = .ok (.goto (-9), 3) := by decide +kernel
theorem dX12_contract_18 : decode cX12_contract 18 = .ok (.lconst 0, 1) := by decide +kernel
theorem dX12_contract_19 : decode cX12_contract 19 = .ok (.lstore_n 2, 1) := by decide +kernel
theorem dX12_contract_20 : decode cX12_contract 20 = .ok (.iconst 0, 1) := by decide +kernel
theorem dX12_contract_21 : decode cX12_contract 21 = .ok (.istore 4, 2) := by decide +kernel
theorem dX12_contract_23 : decode cX12_contract 23 = .ok (.iload 4, 2) := by decide +kernel
theorem dX12_contract_25 : decode cX12_contract 25 = .ok (.aload_n 0, 1) := by decide +kernel
theorem dX12_contract_26 : decode cX12_contract 26 = .ok (.getfield 7, 3) := by decide +kernel
theorem dX12_contract_29 : decode cX12_contract 29 = .ok (.if_icmp .ge 32, 3) := by decide +kernel
theorem dX12_contract_32 : decode cX12_contract 32 = .ok (.lload_n 2, 1) := by decide +kernel
theorem dX12_contract_33 : decode cX12_contract 33 = .ok (.aload_n 0, 1) := by decide +kernel
theorem dX12_contract_34 : decode cX12_contract 34 = .ok (.getfield 128, 3) := by decide +kernel
theorem dX12_contract_37 : decode cX12_contract 37 = .ok (.iload 4, 2) := by decide +kernel
theorem dX12_contract_39 : decode cX12_contract 39 = .ok (.iaload, 1) := by decide +kernel
theorem dX12_contract_40 : decode cX12_contract 40 = .ok (.iload 4, 2) := by decide +kernel
theorem dX12_contract_42 : decode cX12_contract 42 = .ok (.if_icmp .ne 10, 3) := by decide +kernel
theorem dX12_contract_45 : decode cX12_contract 45 = .ok (.lconst 1, 1) := by decide +kernel
theorem dX12_contract_46 : decode cX12_contract 46 = .ok (.iload 4, 2) := by decide +kernel
theorem dX12_contract_48 : decode cX12_contract 48 = .ok (.lshl, 1) := by decide +kernel
theorem dX12_contract_49 : decode cX12_contract 49 = .ok (.goto 4, 3) := by decide +kernel
theorem dX12_contract_52 : decode cX12_contract 52 = .ok (.lconst 0, 1) := by decide +kernel
theorem dX12_contract_53 : decode cX12_contract 53 = .ok (.lor, 1) := by decide +kernel
theorem dX12_contract_54 : decode cX12_contract 54 = .ok (.lstore_n 2, 1) := by decide +kernel
theorem dX12_contract_55 : decode cX12_contract 55 = .ok (.iinc 4 1, 3) := by decide +kernel
theorem dX12_contract_58 : decode cX12_contract 58 = .ok (.goto (-35), 3) := by decide +kernel
theorem dX12_contract_61 : decode cX12_contract 61 = .ok (.lload_n 2, 1) := by decide +kernel
theorem dX12_contract_62 : decode cX12_contract 62 = .ok (.aload_n 0, 1) := by decide +kernel
theorem dX12_contract_63 : decode cX12_contract 63 = .ok (.invokevirtual 233, 3) := by decide +kernel
theorem dX12_contract_66 : decode cX12_contract 66 = .ok (.lcmp, 1) := by decide +kernel
theorem dX12_contract_67 : decode cX12_contract 67 = .ok (.ifCond .ne 8, 3) := by decide +kernel
theorem dX12_contract_70 : decode cX12_contract 70 = .ok (.aload_n 0, 1) := by decide +kernel
theorem dX12_contract_71 : decode cX12_contract 71 = .ok (.getfield 7, 3) := by decide +kernel
theorem dX12_contract_74 : decode cX12_contract 74 = .ok (.ireturn, 1) := by decide +kernel
theorem dX12_contract_75 : decode cX12_contract 75 = .ok (.aload_n 0, 1) := by decide +kernel
theorem dX12_contract_76 : decode cX12_contract 76 = .ok (.invokevirtual 258, 3) := by decide +kernel
theorem dX12_contract_79 : decode cX12_contract 79 = .ok (.iconst 1, 1) := by decide +kernel
theorem dX12_contract_80 : decode cX12_contract 80 = .ok (.istore 4, 2) := by decide +kernel
theorem dX12_contract_82 : decode cX12_contract 82 = .ok (.iload 4, 2) := by decide +kernel
theorem dX12_contract_84 : decode cX12_contract 84 = .ok (.iconst 4, 1) := by decide +kernel
theorem dX12_contract_85 : decode cX12_contract 85 = .ok (.if_icmp .gt 53, 3) := by decide +kernel
theorem dX12_contract_88 : decode cX12_contract 88 = .ok (.iconst 0, 1) := by decide +kernel
theorem dX12_contract_89 : decode cX12_contract 89 = .ok (.istore 5, 2) := by decide +kernel
theorem dX12_contract_91 : decode cX12_contract 91 = .ok (.iload 5, 2) := by decide +kernel
theorem dX12_contract_93 : decode cX12_contract 93 = .ok (.aload_n 0, 1) := by decide +kernel
theorem dX12_contract_94 : decode cX12_contract 94 = .ok (.getfield 7, 3) := by decide +kernel
theorem dX12_contract_97 : decode cX12_contract 97 = .ok (.if_icmp .ge 35, 3) := by decide +kernel
theorem dX12_contract_100 : decode cX12_contract 100 = .ok (.aload_n 0, 1) := by decide +kernel
theorem dX12_contract_101 : decode cX12_contract 101 = .ok (.getfield 100, 3) := by decide +kernel
theorem dX12_contract_104 : decode cX12_contract 104 = .ok (.bipush 64, 2) := by decide +kernel
theorem dX12_contract_106 : decode cX12_contract 106 = .ok (.iload 4, 2) := by decide +kernel
theorem dX12_contract_108 : decode cX12_contract 108 = .ok (.iconst 1, 1) := by decide +kernel
theorem dX12_contract_109 : decode cX12_contract 109 = .ok (.isub, 1) := by decide +kernel
theorem dX12_contract_110 : decode cX12_contract 110 = .ok (.imul, 1) := by decide +kernel
theorem dX12_contract_111 : decode cX12_contract 111 = .ok (.iload 5, 2) := by decide +kernel
theorem dX12_contract_113 : decode cX12_contract 113 = .ok (.iadd, 1) := by decide +kernel
theorem dX12_contract_114 : decode cX12_contract 114 = .ok (.aload_n 0, 1) := by decide +kernel
theorem dX12_contract_115 : decode cX12_contract 115 = .ok (.iload 4, 2) := by decide +kernel
theorem dX12_contract_117 : decode cX12_contract 117 = .ok (.iload 5, 2) := by decide +kernel
theorem dX12_contract_119 : decode cX12_contract 119 = .ok (.invokevirtual 274, 3) := by decide +kernel
theorem dX12_contract_122 : decode cX12_contract 122 = .ok (.invokestatic 22, 3) := by decide +kernel
theorem dX12_contract_125 : decode cX12_contract 125 = .ok (.iastore, 1) := by decide +kernel
theorem dX12_contract_126 : decode cX12_contract 126 = .ok (.iinc 5 1, 3) := by decide +kernel
theorem dX12_contract_129 : decode cX12_contract 129 = .ok (.goto (-38), 3) := by decide +kernel
theorem dX12_contract_132 : decode cX12_contract 132 = .ok (.iinc 4 1, 3) := by decide +kernel
theorem dX12_contract_135 : decode cX12_contract 135 = .ok (.goto (-53), 3) := by decide +kernel
theorem dX12_contract_138 : decode cX12_contract 138 = .ok (.iconst 0, 1) := by decide +kernel
theorem dX12_contract_139 : decode cX12_contract 139 = .ok (.istore 4, 2) := by decide +kernel
theorem dX12_contract_141 : decode cX12_contract 141 = .ok (.iload 4, 2) := by decide +kernel
theorem dX12_contract_143 : decode cX12_contract 143 = .ok (.sipush 256, 3) := by decide +kernel
theorem dX12_contract_146 : decode cX12_contract 146 = .ok (.if_icmp .ge 23, 3) := by decide +kernel
theorem dX12_contract_149 : decode cX12_contract 149 = .ok (.aload_n 0, 1) := by decide +kernel
theorem dX12_contract_150 : decode cX12_contract 150 = .ok (.getfield 14, 3) := by decide +kernel
theorem dX12_contract_153 : decode cX12_contract 153 = .ok (.iload 4, 2) := by decide +kernel
theorem dX12_contract_155 : decode cX12_contract 155 = .ok (.aload_n 0, 1) := by decide +kernel
theorem dX12_contract_156 : decode cX12_contract 156 = .ok (.getfield 100, 3) := by decide +kernel
theorem dX12_contract_159 : decode cX12_contract 159 = .ok (.iload 4, 2) := by decide +kernel
theorem dX12_contract_161 : decode cX12_contract 161 = .ok (.iaload, 1) := by decide +kernel
theorem dX12_contract_162 : decode cX12_contract 162 = .ok (.iastore, 1) := by decide +kernel
theorem dX12_contract_163 : decode cX12_contract 163 = .ok (.iinc 4 1, 3) := by decide +kernel
theorem dX12_contract_166 : decode cX12_contract 166 = .ok (.goto (-25), 3) := by decide +kernel
theorem dX12_contract_169 : decode cX12_contract 169 = .ok (.aload_n 0, 1) := by decide +kernel
theorem dX12_contract_170 : decode cX12_contract 170 = .ok (.lload_n 2, 1) := by decide +kernel
theorem dX12_contract_171 : decode cX12_contract 171 = .ok (.invokevirtual 261, 3) := by decide +kernel
theorem dX12_contract_174 : decode cX12_contract 174 = .ok (.aload_n 0, 1) := by decide +kernel
theorem dX12_contract_175 : decode cX12_contract 175 = .ok (.getfield 7, 3) := by decide +kernel
theorem dX12_contract_178 : decode cX12_contract 178 = .ok (.ireturn, 1) := by decide +kernel
def f_X12_contract_53 (F P : Nat) (S : xSt) (rec_23 : Nat → Int64 → Int32 → xDt → Option (Int32 × xDt)) (v0 : Nat) (v4 : Int32) (s0 : Int64) (s1 : Int64) (D : xDt) : Option (Int32 × xDt) :=
  xlet (s1 ||| s0) fun v2_1 => xlet (v4 + 1) fun v4_2 => rec_23 v0 v2_1 v4_2 D
set_option maxHeartbeats 4000000 in
theorem t_X12_contract_53 {F P : Nat} {S : xSt} (hS : xWF S) {rec_23 : Nat → Int64 → Int32 → xDt → Option (Int32 × xDt)} (hrec_23 : ∀ {v0 : Nat} {v2 : Int64} {v4 : Int32} {D : xDt} {r : Int32 × xDt}, xK S v0 12 → rec_23 v0 v2 v4 D = some r → yEx md_X12_contract 4 23 [(0, .ref v0), (2, .long v2), (4, .int v4)] [] S D (xQi S r)) {v0 : Nat} {v4 : Int32} {s0 : Int64} {s1 : Int64} {D : xDt} {r : Int32 × xDt} (k0 : xK S v0 12) (h : f_X12_contract_53 F P S rec_23 v0 v4 s0 s1 D = some r) : yEx md_X12_contract 4 53 [(0, .ref v0), (4, .int v4)] [.long s0, .long s1] S D (xQi S r) := by
  unfold f_X12_contract_53 at h
  refine x_lor dX12_contract_53 ?_
  refine xlet_e h (fun v2_1 ev2_1 h => ?_)
  refine y_lstore_n v2_1 ev2_1 [(2, .long v2_1), (0, .ref v0), (4, .int v4)] dX12_contract_54 (by show _ < 6; decide) rfl ?_
  refine xlet_e h (fun v4_2 ev4_2 h => ?_)
  refine y_iinc v4_2 ev4_2 (by decide) [(4, .int v4_2), (2, .long v2_1), (0, .ref v0)] dX12_contract_55 2 rfl (by show _ < 6; decide) rfl ?_
  refine x_goto 23 dX12_contract_58 (by decide) ?_
  refine x_lv (lv' := [(0, .ref v0), (2, .long v2_1), (4, .int v4_2)]) [2, 1, 0] rfl ?_
  exact hrec_23 k0 h

def f_X12_contract_91s (F P : Nat) (S : xSt) (rec_82 : Nat → Int64 → Int32 → xDt → Option (Int32 × xDt)) (rec_91 : Nat → Int64 → Int32 → Int32 → xDt → Option (Int32 × xDt)) (v0 : Nat) (v2 : Int64) (v4 : Int32) (v5 : Int32) (D : xDt) : Option (Int32 × xDt) :=
  if (D.1 v0 1) ≤ v5 then (xlet (v4 + 1) fun v4_1 => rec_82 v0 v2 v4_1 D) else ((f_X12_sortsIn F P S v0 v4 v5 D).bind fun q2 => (f_X12_least F P S q2.1 q2.2).bind fun q3 => xgrd (xin ((64 * (v4 - 1)) + v5) (xl S (xr S v0 24))) (xlet (xup q3.2.1 (xr S v0 24) ((64 * (v4 - 1)) + v5).toNatClampNeg q3.1, q3.2.2) fun D5 => xlet (v5 + 1) fun v5_6 => rec_91 v0 v2 v4 v5_6 D5))
def f_X12_contract_91 (F P : Nat) (S : xSt) (rec_82 : Nat → Int64 → Int32 → xDt → Option (Int32 × xDt)) : Nat → Nat → Int64 → Int32 → Int32 → xDt → Option (Int32 × xDt)
  | 0 => fun _ _ _ _ _ => none
  | n + 1 => f_X12_contract_91s F P S rec_82 (f_X12_contract_91 F P S rec_82 n)
set_option maxHeartbeats 4000000 in
theorem t_X12_contract_91s {F P : Nat} {S : xSt} (hS : xWF S) {rec_82 : Nat → Int64 → Int32 → xDt → Option (Int32 × xDt)} (hrec_82 : ∀ {v0 : Nat} {v2 : Int64} {v4 : Int32} {D : xDt} {r : Int32 × xDt}, xK S v0 12 → rec_82 v0 v2 v4 D = some r → yEx md_X12_contract 4 82 [(0, .ref v0), (2, .long v2), (4, .int v4)] [] S D (xQi S r)) {rec_91 : Nat → Int64 → Int32 → Int32 → xDt → Option (Int32 × xDt)} (hrec_91 : ∀ {v0 : Nat} {v2 : Int64} {v4 : Int32} {v5 : Int32} {D : xDt} {r : Int32 × xDt}, xK S v0 12 → rec_91 v0 v2 v4 v5 D = some r → yEx md_X12_contract 4 91 [(0, .ref v0), (2, .long v2), (4, .int v4), (5, .int v5)] [] S D (xQi S r)) {v0 : Nat} {v2 : Int64} {v4 : Int32} {v5 : Int32} {D : xDt} {r : Int32 × xDt} (k0 : xK S v0 12) (h : f_X12_contract_91s F P S rec_82 rec_91 v0 v2 v4 v5 D = some r) : yEx md_X12_contract 4 91 [(0, .ref v0), (2, .long v2), (4, .int v4), (5, .int v5)] [] S D (xQi S r) := by
  unfold f_X12_contract_91s at h
  refine x_iload dX12_contract_91 3 rfl ?_
  refine x_aload_n dX12_contract_93 0 rfl ?_
  refine y_geti fl_RX12_7 dX12_contract_94 rfl k0 ?_
  refine x_icmp_ge 132 dX12_contract_97 (by decide) (fun c => ?_) (fun c => ?_)
  · rw [if_pos c] at h
    refine xlet_e h (fun v4_1 ev4_1 h => ?_)
    refine y_iinc v4_1 ev4_1 (by decide) [(4, .int v4_1), (0, .ref v0), (2, .long v2), (5, .int v5)] dX12_contract_132 2 rfl (by show _ < 6; decide) rfl ?_
    refine x_goto 82 dX12_contract_135 (by decide) ?_
    refine x_lv (lv' := [(0, .ref v0), (2, .long v2), (4, .int v4_1)]) [1, 2, 0] rfl ?_
    exact hrec_82 k0 h
  · rw [if_neg c] at h
    refine x_aload_n dX12_contract_100 0 rfl ?_
    refine y_getr (kd := 100) hS fl_RX12_100 dX12_contract_101 rfl k0 ?_
    refine x_bipush 64 dX12_contract_104 (by decide) ?_
    refine x_iload dX12_contract_106 2 rfl ?_
    refine x_iconst 1 dX12_contract_108 (by decide) ?_
    refine x_isub dX12_contract_109 ?_
    refine x_imul dX12_contract_110 ?_
    refine x_iload dX12_contract_111 3 rfl ?_
    refine x_iadd dX12_contract_113 ?_
    refine x_aload_n dX12_contract_114 0 rfl ?_
    refine x_iload dX12_contract_115 2 rfl ?_
    refine x_iload dX12_contract_117 3 rfl ?_
    refine xbnd_e h (fun q2 e2 h => ?_)
    refine y_callVl (As := [.int v4, .int v5]) (q := q2) cv_RX12_274 dX12_contract_119 k0 rfl (Nat.le_of_ble_eq_true rfl) (by omega) (S_X12_sortsIn hS k0 e2) ?_
    refine xbnd_e h (fun q3 e3 h => ?_)
    refine y_callSi (As := [.long q2.1]) (q := q3) cs_RX12_22 dX12_contract_122 rfl (Nat.le_of_ble_eq_true rfl) (by omega) (S_X12_least hS e3) ?_
    refine xgrd_e h (fun g4 h => ?_)
    refine xlet_e h (fun D5 eD5 h => ?_)
    refine y_iast dX12_contract_125 ((hS.f k0 24 100 rfl).2) g4 eD5 ?_
    refine xlet_e h (fun v5_6 ev5_6 h => ?_)
    refine y_iinc v5_6 ev5_6 (by decide) [(5, .int v5_6), (0, .ref v0), (2, .long v2), (4, .int v4)] dX12_contract_126 3 rfl (by show _ < 6; decide) rfl ?_
    refine x_goto 91 dX12_contract_129 (by decide) ?_
    refine x_lv (lv' := [(0, .ref v0), (2, .long v2), (4, .int v4), (5, .int v5_6)]) [1, 2, 3, 0] rfl ?_
    exact hrec_91 k0 h
theorem t_X12_contract_91 {F P : Nat} {S : xSt} (hS : xWF S) {rec_82 : Nat → Int64 → Int32 → xDt → Option (Int32 × xDt)} (hrec_82 : ∀ {v0 : Nat} {v2 : Int64} {v4 : Int32} {D : xDt} {r : Int32 × xDt}, xK S v0 12 → rec_82 v0 v2 v4 D = some r → yEx md_X12_contract 4 82 [(0, .ref v0), (2, .long v2), (4, .int v4)] [] S D (xQi S r)) : ∀ (n : Nat) {v0 : Nat} {v2 : Int64} {v4 : Int32} {v5 : Int32} {D : xDt} {r : Int32 × xDt}, xK S v0 12 → f_X12_contract_91 F P S rec_82 n v0 v2 v4 v5 D = some r → yEx md_X12_contract 4 91 [(0, .ref v0), (2, .long v2), (4, .int v4), (5, .int v5)] [] S D (xQi S r) := by
  intro n
  induction n with
  | zero => intros; rename_i h; cases h
  | succ n ih =>
    intro v0 v2 v4 v5 D r k0 h
    exact t_X12_contract_91s hS hrec_82 (fun k0 h => ih k0 h) k0 h

def f_X12_contract_141s (F P : Nat) (S : xSt) (rec_141 : Nat → Int64 → Int32 → xDt → Option (Int32 × xDt)) (v0 : Nat) (v2 : Int64) (v4 : Int32) (D : xDt) : Option (Int32 × xDt) :=
  if 256 ≤ v4 then ((f_X12_shrink F P S v0 v2 D).bind fun q1 => some (q1.1 v0 1, q1)) else (xgrd (xin v4 (xl S (xr S v0 24))) (xgrd (xin v4 (xl S (xr S v0 3))) (xlet (xup D.1 (xr S v0 3) (v4).toNatClampNeg (D.1 (xr S v0 24) (v4).toNatClampNeg), D.2) fun D4 => xlet (v4 + 1) fun v4_5 => rec_141 v0 v2 v4_5 D4)))
def f_X12_contract_141 (F P : Nat) (S : xSt) : Nat → Nat → Int64 → Int32 → xDt → Option (Int32 × xDt)
  | 0 => fun _ _ _ _ => none
  | n + 1 => f_X12_contract_141s F P S (f_X12_contract_141 F P S n)
set_option maxHeartbeats 4000000 in
theorem t_X12_contract_141s {F P : Nat} {S : xSt} (hS : xWF S) {rec_141 : Nat → Int64 → Int32 → xDt → Option (Int32 × xDt)} (hrec_141 : ∀ {v0 : Nat} {v2 : Int64} {v4 : Int32} {D : xDt} {r : Int32 × xDt}, xK S v0 12 → rec_141 v0 v2 v4 D = some r → yEx md_X12_contract 4 141 [(0, .ref v0), (2, .long v2), (4, .int v4)] [] S D (xQi S r)) {v0 : Nat} {v2 : Int64} {v4 : Int32} {D : xDt} {r : Int32 × xDt} (k0 : xK S v0 12) (h : f_X12_contract_141s F P S rec_141 v0 v2 v4 D = some r) : yEx md_X12_contract 4 141 [(0, .ref v0), (2, .long v2), (4, .int v4)] [] S D (xQi S r) := by
  unfold f_X12_contract_141s at h
  refine x_iload dX12_contract_141 2 rfl ?_
  refine x_sipush 256 dX12_contract_143 (by decide) ?_
  refine x_icmp_ge 169 dX12_contract_146 (by decide) (fun c => ?_) (fun c => ?_)
  · rw [if_pos c] at h
    refine x_aload_n dX12_contract_169 0 rfl ?_
    refine x_lload_n dX12_contract_170 1 rfl ?_
    refine xbnd_e h (fun q1 e1 h => ?_)
    refine y_callVv (As := [.long v2]) (q := q1) cv_RX12_261 dX12_contract_171 k0 rfl (Nat.le_of_ble_eq_true rfl) (by omega) (S_X12_shrink hS k0 e1) ?_
    refine x_aload_n dX12_contract_174 0 rfl ?_
    refine y_geti fl_RX12_7 dX12_contract_175 rfl k0 ?_
    obtain rfl := Option.some.inj h
    exact y_iret rfl dX12_contract_178
  · rw [if_neg c] at h
    refine x_aload_n dX12_contract_149 0 rfl ?_
    refine y_getr (kd := 100) hS fl_RX12_14 dX12_contract_150 rfl k0 ?_
    refine x_iload dX12_contract_153 2 rfl ?_
    refine x_aload_n dX12_contract_155 0 rfl ?_
    refine y_getr (kd := 100) hS fl_RX12_100 dX12_contract_156 rfl k0 ?_
    refine x_iload dX12_contract_159 2 rfl ?_
    refine xgrd_e h (fun g2 h => ?_)
    refine y_iald dX12_contract_161 ((hS.f k0 24 100 rfl).2) g2 ?_
    refine xgrd_e h (fun g3 h => ?_)
    refine xlet_e h (fun D4 eD4 h => ?_)
    refine y_iast dX12_contract_162 ((hS.f k0 3 100 rfl).2) g3 eD4 ?_
    refine xlet_e h (fun v4_5 ev4_5 h => ?_)
    refine y_iinc v4_5 ev4_5 (by decide) [(4, .int v4_5), (0, .ref v0), (2, .long v2)] dX12_contract_163 2 rfl (by show _ < 6; decide) rfl ?_
    refine x_goto 141 dX12_contract_166 (by decide) ?_
    refine x_lv (lv' := [(0, .ref v0), (2, .long v2), (4, .int v4_5)]) [1, 2, 0] rfl ?_
    exact hrec_141 k0 h
theorem t_X12_contract_141 {F P : Nat} {S : xSt} (hS : xWF S) : ∀ (n : Nat) {v0 : Nat} {v2 : Int64} {v4 : Int32} {D : xDt} {r : Int32 × xDt}, xK S v0 12 → f_X12_contract_141 F P S n v0 v2 v4 D = some r → yEx md_X12_contract 4 141 [(0, .ref v0), (2, .long v2), (4, .int v4)] [] S D (xQi S r) := by
  intro n
  induction n with
  | zero => intros; rename_i h; cases h
  | succ n ih =>
    intro v0 v2 v4 D r k0 h
    exact t_X12_contract_141s hS (fun k0 h => ih k0 h) k0 h

def f_X12_contract_82s (F P : Nat) (S : xSt) (rec_82 : Nat → Int64 → Int32 → xDt → Option (Int32 × xDt)) (v0 : Nat) (v2 : Int64) (v4 : Int32) (D : xDt) : Option (Int32 × xDt) :=
  if 4 < v4 then (f_X12_contract_141 F P S F v0 v2 0 D) else (f_X12_contract_91 F P S rec_82 F v0 v2 v4 0 D)
def f_X12_contract_82 (F P : Nat) (S : xSt) : Nat → Nat → Int64 → Int32 → xDt → Option (Int32 × xDt)
  | 0 => fun _ _ _ _ => none
  | n + 1 => f_X12_contract_82s F P S (f_X12_contract_82 F P S n)
set_option maxHeartbeats 4000000 in
theorem t_X12_contract_82s {F P : Nat} {S : xSt} (hS : xWF S) {rec_82 : Nat → Int64 → Int32 → xDt → Option (Int32 × xDt)} (hrec_82 : ∀ {v0 : Nat} {v2 : Int64} {v4 : Int32} {D : xDt} {r : Int32 × xDt}, xK S v0 12 → rec_82 v0 v2 v4 D = some r → yEx md_X12_contract 4 82 [(0, .ref v0), (2, .long v2), (4, .int v4)] [] S D (xQi S r)) {v0 : Nat} {v2 : Int64} {v4 : Int32} {D : xDt} {r : Int32 × xDt} (k0 : xK S v0 12) (h : f_X12_contract_82s F P S rec_82 v0 v2 v4 D = some r) : yEx md_X12_contract 4 82 [(0, .ref v0), (2, .long v2), (4, .int v4)] [] S D (xQi S r) := by
  unfold f_X12_contract_82s at h
  refine x_iload dX12_contract_82 2 rfl ?_
  refine x_iconst 4 dX12_contract_84 (by decide) ?_
  refine x_icmp_gt 138 dX12_contract_85 (by decide) (fun c => ?_) (fun c => ?_)
  · rw [if_pos c] at h
    refine x_iconst 0 dX12_contract_138 (by decide) ?_
    refine y_istore 0 rfl [(4, .int 0), (0, .ref v0), (2, .long v2)] dX12_contract_139 (by show _ < 6; decide) rfl ?_
    refine x_lv (lv' := [(0, .ref v0), (2, .long v2), (4, .int 0)]) [1, 2, 0] rfl ?_
    exact t_X12_contract_141 hS F k0 h
  · rw [if_neg c] at h
    refine x_iconst 0 dX12_contract_88 (by decide) ?_
    refine y_istore 0 rfl [(5, .int 0), (0, .ref v0), (2, .long v2), (4, .int v4)] dX12_contract_89 (by show _ < 6; decide) rfl ?_
    refine x_lv (lv' := [(0, .ref v0), (2, .long v2), (4, .int v4), (5, .int 0)]) [1, 2, 3, 0] rfl ?_
    exact t_X12_contract_91 hS hrec_82 F k0 h
theorem t_X12_contract_82 {F P : Nat} {S : xSt} (hS : xWF S) : ∀ (n : Nat) {v0 : Nat} {v2 : Int64} {v4 : Int32} {D : xDt} {r : Int32 × xDt}, xK S v0 12 → f_X12_contract_82 F P S n v0 v2 v4 D = some r → yEx md_X12_contract 4 82 [(0, .ref v0), (2, .long v2), (4, .int v4)] [] S D (xQi S r) := by
  intro n
  induction n with
  | zero => intros; rename_i h; cases h
  | succ n ih =>
    intro v0 v2 v4 D r k0 h
    exact t_X12_contract_82s hS (fun k0 h => ih k0 h) k0 h

def f_X12_contract_23s (F P : Nat) (S : xSt) (rec_23 : Nat → Int64 → Int32 → xDt → Option (Int32 × xDt)) (v0 : Nat) (v2 : Int64) (v4 : Int32) (D : xDt) : Option (Int32 × xDt) :=
  if (D.1 v0 1) ≤ v4 then ((f_X12_all F P S v0 D).bind fun q1 => if (lg_cmp v2 q1.1) = 0 then (some (q1.2.1 v0 1, q1.2)) else ((f_X12_keep F P S v0 q1.2).bind fun q2 => f_X12_contract_82 F P S F v0 v2 1 q2)) else (xgrd (xin v4 (xl S (xr S v0 34))) (if (D.1 (xr S v0 34) (v4).toNatClampNeg) = v4 then (f_X12_contract_53 F P S rec_23 v0 v4 (jlshl 1 v4) v2 D) else (f_X12_contract_53 F P S rec_23 v0 v4 0 v2 D)))
def f_X12_contract_23 (F P : Nat) (S : xSt) : Nat → Nat → Int64 → Int32 → xDt → Option (Int32 × xDt)
  | 0 => fun _ _ _ _ => none
  | n + 1 => f_X12_contract_23s F P S (f_X12_contract_23 F P S n)
set_option maxHeartbeats 4000000 in
theorem t_X12_contract_23s {F P : Nat} {S : xSt} (hS : xWF S) {rec_23 : Nat → Int64 → Int32 → xDt → Option (Int32 × xDt)} (hrec_23 : ∀ {v0 : Nat} {v2 : Int64} {v4 : Int32} {D : xDt} {r : Int32 × xDt}, xK S v0 12 → rec_23 v0 v2 v4 D = some r → yEx md_X12_contract 4 23 [(0, .ref v0), (2, .long v2), (4, .int v4)] [] S D (xQi S r)) {v0 : Nat} {v2 : Int64} {v4 : Int32} {D : xDt} {r : Int32 × xDt} (k0 : xK S v0 12) (h : f_X12_contract_23s F P S rec_23 v0 v2 v4 D = some r) : yEx md_X12_contract 4 23 [(0, .ref v0), (2, .long v2), (4, .int v4)] [] S D (xQi S r) := by
  unfold f_X12_contract_23s at h
  refine x_iload dX12_contract_23 2 rfl ?_
  refine x_aload_n dX12_contract_25 0 rfl ?_
  refine y_geti fl_RX12_7 dX12_contract_26 rfl k0 ?_
  refine x_icmp_ge 61 dX12_contract_29 (by decide) (fun c => ?_) (fun c => ?_)
  · rw [if_pos c] at h
    refine x_lload_n dX12_contract_61 1 rfl ?_
    refine x_aload_n dX12_contract_62 0 rfl ?_
    refine xbnd_e h (fun q1 e1 h => ?_)
    refine y_callVl (As := []) (q := q1) cv_RX12_233 dX12_contract_63 k0 rfl (Nat.le_of_ble_eq_true rfl) (by omega) (S_X12_all hS k0 e1) ?_
    refine x_lcmp dX12_contract_66 ?_
    refine x_if_ne 75 dX12_contract_67 (by decide) (fun c => ?_) (fun c => ?_)
    · rw [if_neg c] at h
      refine x_aload_n dX12_contract_75 0 rfl ?_
      refine xbnd_e h (fun q2 e2 h => ?_)
      refine y_callVv (As := []) (q := q2) cv_RX12_258 dX12_contract_76 k0 rfl (Nat.le_of_ble_eq_true rfl) (by omega) (S_X12_keep hS k0 e2) ?_
      refine x_iconst 1 dX12_contract_79 (by decide) ?_
      refine y_istore 1 rfl [(4, .int 1), (0, .ref v0), (2, .long v2)] dX12_contract_80 (by show _ < 6; decide) rfl ?_
      refine x_lv (lv' := [(0, .ref v0), (2, .long v2), (4, .int 1)]) [1, 2, 0] rfl ?_
      exact t_X12_contract_82 hS F k0 h
    · rw [if_pos c] at h
      refine x_aload_n dX12_contract_70 0 rfl ?_
      refine y_geti fl_RX12_7 dX12_contract_71 rfl k0 ?_
      obtain rfl := Option.some.inj h
      exact y_iret rfl dX12_contract_74
  · rw [if_neg c] at h
    refine x_lload_n dX12_contract_32 1 rfl ?_
    refine x_aload_n dX12_contract_33 0 rfl ?_
    refine y_getr (kd := 100) hS fl_RX12_128 dX12_contract_34 rfl k0 ?_
    refine x_iload dX12_contract_37 2 rfl ?_
    refine xgrd_e h (fun g3 h => ?_)
    refine y_iald dX12_contract_39 ((hS.f k0 34 100 rfl).2) g3 ?_
    refine x_iload dX12_contract_40 2 rfl ?_
    refine x_icmp_ne 52 dX12_contract_42 (by decide) (fun c => ?_) (fun c => ?_)
    · rw [if_neg c] at h
      refine x_lconst 0 dX12_contract_52 (by decide) ?_
      refine x_lv (lv' := [(0, .ref v0), (4, .int v4)]) [0, 2] rfl ?_
      exact t_X12_contract_53 hS hrec_23 k0 h
    · rw [if_pos c] at h
      refine x_lconst 1 dX12_contract_45 (by decide) ?_
      refine x_iload dX12_contract_46 2 rfl ?_
      refine x_lshl dX12_contract_48 ?_
      refine x_goto 53 dX12_contract_49 (by decide) ?_
      refine x_lv (lv' := [(0, .ref v0), (4, .int v4)]) [0, 2] rfl ?_
      exact t_X12_contract_53 hS hrec_23 k0 h
theorem t_X12_contract_23 {F P : Nat} {S : xSt} (hS : xWF S) : ∀ (n : Nat) {v0 : Nat} {v2 : Int64} {v4 : Int32} {D : xDt} {r : Int32 × xDt}, xK S v0 12 → f_X12_contract_23 F P S n v0 v2 v4 D = some r → yEx md_X12_contract 4 23 [(0, .ref v0), (2, .long v2), (4, .int v4)] [] S D (xQi S r) := by
  intro n
  induction n with
  | zero => intros; rename_i h; cases h
  | succ n ih =>
    intro v0 v2 v4 D r k0 h
    exact t_X12_contract_23s hS (fun k0 h => ih k0 h) k0 h

def f_X12_contract_6s (F P : Nat) (S : xSt) (rec_6 : Nat → Int32 → xDt → Option (Int32 × xDt)) (v0 : Nat) (v1 : Int32) (D : xDt) : Option (Int32 × xDt) :=
  if v1 = 0 then (f_X12_contract_23 F P S F v0 0 0 D) else ((f_X12_refine F P S v0 D).bind fun q1 => rec_6 v0 q1.1 q1.2)
def f_X12_contract_6 (F P : Nat) (S : xSt) : Nat → Nat → Int32 → xDt → Option (Int32 × xDt)
  | 0 => fun _ _ _ => none
  | n + 1 => f_X12_contract_6s F P S (f_X12_contract_6 F P S n)
set_option maxHeartbeats 4000000 in
theorem t_X12_contract_6s {F P : Nat} {S : xSt} (hS : xWF S) {rec_6 : Nat → Int32 → xDt → Option (Int32 × xDt)} (hrec_6 : ∀ {v0 : Nat} {v1 : Int32} {D : xDt} {r : Int32 × xDt}, xK S v0 12 → rec_6 v0 v1 D = some r → yEx md_X12_contract 4 6 [(0, .ref v0), (1, .int v1)] [] S D (xQi S r)) {v0 : Nat} {v1 : Int32} {D : xDt} {r : Int32 × xDt} (k0 : xK S v0 12) (h : f_X12_contract_6s F P S rec_6 v0 v1 D = some r) : yEx md_X12_contract 4 6 [(0, .ref v0), (1, .int v1)] [] S D (xQi S r) := by
  unfold f_X12_contract_6s at h
  refine x_iload_n dX12_contract_6 1 rfl ?_
  refine x_if_eq 18 dX12_contract_7 (by decide) (fun c => ?_) (fun c => ?_)
  · rw [if_pos c] at h
    refine x_lconst 0 dX12_contract_18 (by decide) ?_
    refine y_lstore_n 0 rfl [(2, .long 0), (0, .ref v0), (1, .int v1)] dX12_contract_19 (by show _ < 6; decide) rfl ?_
    refine x_iconst 0 dX12_contract_20 (by decide) ?_
    refine y_istore 0 rfl [(4, .int 0), (2, .long 0), (0, .ref v0), (1, .int v1)] dX12_contract_21 (by show _ < 6; decide) rfl ?_
    refine x_lv (lv' := [(0, .ref v0), (2, .long 0), (4, .int 0)]) [2, 1, 0] rfl ?_
    exact t_X12_contract_23 hS F k0 h
  · rw [if_neg c] at h
    refine x_aload_n dX12_contract_10 0 rfl ?_
    refine xbnd_e h (fun q1 e1 h => ?_)
    refine y_callVi (As := []) (q := q1) cv_RX12_284 dX12_contract_11 k0 rfl (Nat.le_of_ble_eq_true rfl) (by omega) (S_X12_refine hS k0 e1) ?_
    refine y_istore_n q1.1 rfl [(1, .int q1.1), (0, .ref v0)] dX12_contract_14 (by show _ < 6; decide) rfl ?_
    refine x_goto 6 dX12_contract_15 (by decide) ?_
    refine x_lv (lv' := [(0, .ref v0), (1, .int q1.1)]) [1, 0] rfl ?_
    exact hrec_6 k0 h
theorem t_X12_contract_6 {F P : Nat} {S : xSt} (hS : xWF S) : ∀ (n : Nat) {v0 : Nat} {v1 : Int32} {D : xDt} {r : Int32 × xDt}, xK S v0 12 → f_X12_contract_6 F P S n v0 v1 D = some r → yEx md_X12_contract 4 6 [(0, .ref v0), (1, .int v1)] [] S D (xQi S r) := by
  intro n
  induction n with
  | zero => intros; rename_i h; cases h
  | succ n ih =>
    intro v0 v1 D r k0 h
    exact t_X12_contract_6s hS (fun k0 h => ih k0 h) k0 h

def f_X12_contract (F P : Nat) (S : xSt) (v0 : Nat) (D : xDt) : Option (Int32 × xDt) :=
  (f_X12_beginLike F P S v0 D).bind fun q1 => f_X12_contract_6 F P S F v0 1 q1
set_option maxHeartbeats 4000000 in
theorem S_X12_contract {F P : Nat} {S : xSt} (hS : xWF S) {v0 : Nat} {D : xDt} {r : Int32 × xDt} (k0 : xK S v0 12) (h : f_X12_contract F P S v0 D = some r) : xSp md_X12_contract (4, 0, 0) [.ref v0] (S, D) (xQi S r) := by
  unfold f_X12_contract at h
  refine xEntry (by decide) (Nat.le_of_ble_eq_true rfl) ?_
  refine x_lv (lv' := [(0, .ref v0)]) [0] rfl ?_
  refine x_aload_n dX12_contract_0 0 rfl ?_
  refine xbnd_e h (fun q1 e1 h => ?_)
  refine y_callVv (As := []) (q := q1) cv_RX12_281 dX12_contract_1 k0 rfl (Nat.le_of_ble_eq_true rfl) (by omega) (S_X12_beginLike hS k0 e1) ?_
  refine x_iconst 1 dX12_contract_4 (by decide) ?_
  refine y_istore_n 1 rfl [(1, .int 1), (0, .ref v0)] dX12_contract_5 (by show _ < 6; decide) rfl ?_
  refine x_lv (lv' := [(0, .ref v0), (1, .int 1)]) [1, 0] rfl ?_
  exact t_X12_contract_6 hS F k0 h

theorem dX12_differ_0 : decode cX12_differ 0 = .ok (.aload_n 0, 1) := by decide +kernel
theorem dX12_differ_1 : decode cX12_differ 1 = .ok (.iload_n 1, 1) := by decide +kernel
theorem dX12_differ_2 : decode cX12_differ 2 = .ok (.invokevirtual 38, 3) := by decide +kernel
theorem dX12_differ_5 : decode cX12_differ 5 = .ok (.ifCond .eq 11, 3) := by decide +kernel
theorem dX12_differ_8 : decode cX12_differ 8 = .ok (.aload_n 0, 1) := by decide +kernel
theorem dX12_differ_9 : decode cX12_differ 9 = .ok (.iload_n 2, 1) := by decide +kernel
theorem dX12_differ_10 : decode cX12_differ 10 = .ok (.invokevirtual 38, 3) := by decide +kernel
theorem dX12_differ_13 : decode cX12_differ 13 = .ok (.ifCond .ne 5, 3) := by decide +kernel
theorem dX12_differ_16 : decode cX12_differ 16 = .ok (.iconst (-1), 1) := by decide +kernel
theorem dX12_differ_17 : decode cX12_differ 17 = .ok (.ireturn, 1) := by decide +kernel
theorem dX12_differ_18 : decode cX12_differ 18 = .ok (.aload_n 0, 1) := by decide +kernel
theorem dX12_differ_19 : decode cX12_differ 19 = .ok (.invokevirtual 281, 3) := by decide +kernel
theorem dX12_differ_22 : decode cX12_differ 22 = .ok (.iconst 0, 1) := by decide +kernel
theorem dX12_differ_23 : decode cX12_differ 23 = .ok (.istore_n 3, 1) := by decide +kernel
theorem dX12_differ_24 : decode cX12_differ 24 = .ok (.aload_n 0, 1) := by decide +kernel
theorem dX12_differ_25 : decode cX12_differ 25 = .ok (.getfield 128, 3) := by decide +kernel
theorem dX12_differ_28 : decode cX12_differ 28 = .ok (.iload_n 1, 1) := by decide +kernel
theorem dX12_differ_29 : decode cX12_differ 29 = .ok (.iaload, 1) := by decide +kernel
theorem dX12_differ_30 : decode cX12_differ 30 = .ok (.aload_n 0, 1) := by decide +kernel
theorem dX12_differ_31 : decode cX12_differ 31 = .ok (.getfield 128, 3) := by decide +kernel
theorem dX12_differ_34 : decode cX12_differ 34 = .ok (.iload_n 2, 1) := by decide +kernel
theorem dX12_differ_35 : decode cX12_differ 35 = .ok (.iaload, 1) := by decide +kernel
theorem dX12_differ_36 : decode cX12_differ 36 = .ok (.if_icmp .ne 7, 3) := by decide +kernel
theorem dX12_differ_39 : decode cX12_differ 39 = .ok (.iconst 1, 1) := by decide +kernel
theorem dX12_differ_40 : decode cX12_differ 40 = .ok (.goto 4, 3) := by decide +kernel
theorem dX12_differ_43 : decode cX12_differ 43 = .ok (.iconst 0, 1) := by decide +kernel
theorem dX12_differ_44 : decode cX12_differ 44 = .ok (.istore 4, 2) := by decide +kernel
theorem dX12_differ_46 : decode cX12_differ 46 = .ok (.iload 4, 2) := by decide +kernel
theorem dX12_differ_48 : decode cX12_differ 48 = .ok (.ifCond .eq 29, 3) := by decide +kernel
theorem dX12_differ_51 : decode cX12_differ 51 = .ok (.aload_n 0, 1) := by decide +kernel
theorem dX12_differ_52 : decode cX12_differ 52 = .ok (.invokevirtual 284, 3) := by decide +kernel
theorem dX12_differ_55 : decode cX12_differ 55 = .ok (.istore 4, 2) := by decide +kernel
theorem dX12_differ_57 : decode cX12_differ 57 = .ok (.iinc 3 1, 3) := by decide +kernel
theorem dX12_differ_60 : decode cX12_differ 60 = .ok (.aload_n 0, 1) := by decide +kernel
theorem dX12_differ_61 : decode cX12_differ 61 = .ok (.getfield 128, 3) := by decide +kernel
theorem dX12_differ_64 : decode cX12_differ 64 = .ok (.iload_n 1, 1) := by decide +kernel
theorem dX12_differ_65 : decode cX12_differ 65 = .ok (.iaload, 1) := by decide +kernel
theorem dX12_differ_66 : decode cX12_differ 66 = .ok (.aload_n 0, 1) := by decide +kernel
theorem dX12_differ_67 : decode cX12_differ 67 = .ok (.getfield 128, 3) := by decide +kernel
theorem dX12_differ_70 : decode cX12_differ 70 = .ok (.iload_n 2, 1) := by decide +kernel
theorem dX12_differ_71 : decode cX12_differ 71 = .ok (.iaload, 1) := by decide +kernel
theorem dX12_differ_72 : decode cX12_differ 72 = .ok (.if_icmp .eq (-26), 3) := by decide +kernel
theorem dX12_differ_75 : decode cX12_differ 75 = .ok (.iload_n 3, 1) := by decide +kernel
theorem dX12_differ_76 : decode cX12_differ 76 = .ok (.ireturn, 1) := by decide +kernel
theorem dX12_differ_77 : decode cX12_differ 77 = .ok (.aload_n 0, 1) := by decide +kernel
theorem dX12_differ_78 : decode cX12_differ 78 = .ok (.getfield 128, 3) := by decide +kernel
theorem dX12_differ_81 : decode cX12_differ 81 = .ok (.iload_n 1, 1) := by decide +kernel
theorem dX12_differ_82 : decode cX12_differ 82 = .ok (.iaload, 1) := by decide +kernel
theorem dX12_differ_83 : decode cX12_differ 83 = .ok (.aload_n 0, 1) := by decide +kernel
theorem dX12_differ_84 : decode cX12_differ 84 = .ok (.getfield 128, 3) := by decide +kernel
theorem dX12_differ_87 : decode cX12_differ 87 = .ok (.iload_n 2, 1) := by decide +kernel
theorem dX12_differ_88 : decode cX12_differ 88 = .ok (.iaload, 1) := by decide +kernel
theorem dX12_differ_89 : decode cX12_differ 89 = .ok (.if_icmp .ne 8, 3) := by decide +kernel
theorem dX12_differ_92 : decode cX12_differ 92 = .ok (.bipush (-2), 2) := by decide +kernel
theorem dX12_differ_94 : decode cX12_differ 94 = .ok (.goto 4, 3) := by decide +kernel
theorem dX12_differ_97 : decode cX12_differ 97 = .ok (.iconst 0, 1) := by decide +kernel
theorem dX12_differ_98 : decode cX12_differ 98 = .ok (.ireturn, 1) := by decide +kernel
def f_X12_differ_46s (F P : Nat) (S : xSt) (rec_46 : Nat → Int32 → Int32 → Int32 → Int32 → xDt → Option (Int32 × xDt)) (v0 : Nat) (v1 : Int32) (v2 : Int32) (v3 : Int32) (v4 : Int32) (D : xDt) : Option (Int32 × xDt) :=
  if v4 = 0 then (xgrd (xin v1 (xl S (xr S v0 34))) (xgrd (xin v2 (xl S (xr S v0 34))) (if (D.1 (xr S v0 34) (v1).toNatClampNeg) = (D.1 (xr S v0 34) (v2).toNatClampNeg) then (some ((-2), D)) else (some (0, D))))) else ((f_X12_refine F P S v0 D).bind fun q3 => xlet (v3 + 1) fun v3_4 => xgrd (xin v1 (xl S (xr S v0 34))) (xgrd (xin v2 (xl S (xr S v0 34))) (if (q3.2.1 (xr S v0 34) (v1).toNatClampNeg) = (q3.2.1 (xr S v0 34) (v2).toNatClampNeg) then (rec_46 v0 v1 v2 v3_4 q3.1 q3.2) else (some (v3_4, q3.2)))))
def f_X12_differ_46 (F P : Nat) (S : xSt) : Nat → Nat → Int32 → Int32 → Int32 → Int32 → xDt → Option (Int32 × xDt)
  | 0 => fun _ _ _ _ _ _ => none
  | n + 1 => f_X12_differ_46s F P S (f_X12_differ_46 F P S n)
set_option maxHeartbeats 4000000 in
theorem t_X12_differ_46s {F P : Nat} {S : xSt} (hS : xWF S) {rec_46 : Nat → Int32 → Int32 → Int32 → Int32 → xDt → Option (Int32 × xDt)} (hrec_46 : ∀ {v0 : Nat} {v1 : Int32} {v2 : Int32} {v3 : Int32} {v4 : Int32} {D : xDt} {r : Int32 × xDt}, xK S v0 12 → rec_46 v0 v1 v2 v3 v4 D = some r → yEx md_X12_differ 4 46 [(0, .ref v0), (1, .int v1), (2, .int v2), (3, .int v3), (4, .int v4)] [] S D (xQi S r)) {v0 : Nat} {v1 : Int32} {v2 : Int32} {v3 : Int32} {v4 : Int32} {D : xDt} {r : Int32 × xDt} (k0 : xK S v0 12) (h : f_X12_differ_46s F P S rec_46 v0 v1 v2 v3 v4 D = some r) : yEx md_X12_differ 4 46 [(0, .ref v0), (1, .int v1), (2, .int v2), (3, .int v3), (4, .int v4)] [] S D (xQi S r) := by
  unfold f_X12_differ_46s at h
  refine x_iload dX12_differ_46 4 rfl ?_
  refine x_if_eq 77 dX12_differ_48 (by decide) (fun c => ?_) (fun c => ?_)
  · rw [if_pos c] at h
    refine x_aload_n dX12_differ_77 0 rfl ?_
    refine y_getr (kd := 100) hS fl_RX12_128 dX12_differ_78 rfl k0 ?_
    refine x_iload_n dX12_differ_81 1 rfl ?_
    refine xgrd_e h (fun g1 h => ?_)
    refine y_iald dX12_differ_82 ((hS.f k0 34 100 rfl).2) g1 ?_
    refine x_aload_n dX12_differ_83 0 rfl ?_
    refine y_getr (kd := 100) hS fl_RX12_128 dX12_differ_84 rfl k0 ?_
    refine x_iload_n dX12_differ_87 2 rfl ?_
    refine xgrd_e h (fun g2 h => ?_)
    refine y_iald dX12_differ_88 ((hS.f k0 34 100 rfl).2) g2 ?_
    refine x_icmp_ne 97 dX12_differ_89 (by decide) (fun c => ?_) (fun c => ?_)
    · rw [if_neg c] at h
      refine x_iconst 0 dX12_differ_97 (by decide) ?_
      obtain rfl := Option.some.inj h
      exact y_iret rfl dX12_differ_98
    · rw [if_pos c] at h
      refine x_bipush (-2) dX12_differ_92 (by decide) ?_
      refine x_goto 98 dX12_differ_94 (by decide) ?_
      obtain rfl := Option.some.inj h
      exact y_iret rfl dX12_differ_98
  · rw [if_neg c] at h
    refine x_aload_n dX12_differ_51 0 rfl ?_
    refine xbnd_e h (fun q3 e3 h => ?_)
    refine y_callVi (As := []) (q := q3) cv_RX12_284 dX12_differ_52 k0 rfl (Nat.le_of_ble_eq_true rfl) (by omega) (S_X12_refine hS k0 e3) ?_
    refine y_istore q3.1 rfl [(4, .int q3.1), (0, .ref v0), (1, .int v1), (2, .int v2), (3, .int v3)] dX12_differ_55 (by show _ < 5; decide) rfl ?_
    refine xlet_e h (fun v3_4 ev3_4 h => ?_)
    refine y_iinc v3_4 ev3_4 (by decide) [(3, .int v3_4), (4, .int q3.1), (0, .ref v0), (1, .int v1), (2, .int v2)] dX12_differ_57 4 rfl (by show _ < 5; decide) rfl ?_
    refine x_aload_n dX12_differ_60 2 rfl ?_
    refine y_getr (kd := 100) hS fl_RX12_128 dX12_differ_61 rfl k0 ?_
    refine x_iload_n dX12_differ_64 3 rfl ?_
    refine xgrd_e h (fun g5 h => ?_)
    refine y_iald dX12_differ_65 ((hS.f k0 34 100 rfl).2) g5 ?_
    refine x_aload_n dX12_differ_66 2 rfl ?_
    refine y_getr (kd := 100) hS fl_RX12_128 dX12_differ_67 rfl k0 ?_
    refine x_iload_n dX12_differ_70 4 rfl ?_
    refine xgrd_e h (fun g6 h => ?_)
    refine y_iald dX12_differ_71 ((hS.f k0 34 100 rfl).2) g6 ?_
    refine x_icmp_eq 46 dX12_differ_72 (by decide) (fun c => ?_) (fun c => ?_)
    · rw [if_pos c] at h
      refine x_lv (lv' := [(0, .ref v0), (1, .int v1), (2, .int v2), (3, .int v3_4), (4, .int q3.1)]) [2, 3, 4, 0, 1] rfl ?_
      exact hrec_46 k0 h
    · rw [if_neg c] at h
      refine x_iload_n dX12_differ_75 0 rfl ?_
      obtain rfl := Option.some.inj h
      exact y_iret rfl dX12_differ_76
theorem t_X12_differ_46 {F P : Nat} {S : xSt} (hS : xWF S) : ∀ (n : Nat) {v0 : Nat} {v1 : Int32} {v2 : Int32} {v3 : Int32} {v4 : Int32} {D : xDt} {r : Int32 × xDt}, xK S v0 12 → f_X12_differ_46 F P S n v0 v1 v2 v3 v4 D = some r → yEx md_X12_differ 4 46 [(0, .ref v0), (1, .int v1), (2, .int v2), (3, .int v3), (4, .int v4)] [] S D (xQi S r) := by
  intro n
  induction n with
  | zero => intros; rename_i h; cases h
  | succ n ih =>
    intro v0 v1 v2 v3 v4 D r k0 h
    exact t_X12_differ_46s hS (fun k0 h => ih k0 h) k0 h

def f_X12_differ_44 (F P : Nat) (S : xSt) (v0 : Nat) (v1 : Int32) (v2 : Int32) (v3 : Int32) (s0 : Int32) (D : xDt) : Option (Int32 × xDt) :=
  f_X12_differ_46 F P S F v0 v1 v2 v3 s0 D
set_option maxHeartbeats 4000000 in
theorem t_X12_differ_44 {F P : Nat} {S : xSt} (hS : xWF S) {v0 : Nat} {v1 : Int32} {v2 : Int32} {v3 : Int32} {s0 : Int32} {D : xDt} {r : Int32 × xDt} (k0 : xK S v0 12) (h : f_X12_differ_44 F P S v0 v1 v2 v3 s0 D = some r) : yEx md_X12_differ 4 44 [(0, .ref v0), (1, .int v1), (2, .int v2), (3, .int v3)] [.int s0] S D (xQi S r) := by
  unfold f_X12_differ_44 at h
  refine y_istore s0 rfl [(4, .int s0), (0, .ref v0), (1, .int v1), (2, .int v2), (3, .int v3)] dX12_differ_44 (by show _ < 5; decide) rfl ?_
  refine x_lv (lv' := [(0, .ref v0), (1, .int v1), (2, .int v2), (3, .int v3), (4, .int s0)]) [1, 2, 3, 4, 0] rfl ?_
  exact t_X12_differ_46 hS F k0 h

def f_X12_differ (F P : Nat) (S : xSt) (v0 : Nat) (v1 : Int32) (v2 : Int32) (D : xDt) : Option (Int32 × xDt) :=
  (f_X12_isWorld F P S v0 v1 D).bind fun q1 => if q1.1 = 0 then (some ((-1), q1.2)) else ((f_X12_isWorld F P S v0 v2 q1.2).bind fun q2 => if q2.1 = 0 then (some ((-1), q2.2)) else ((f_X12_beginLike F P S v0 q2.2).bind fun q3 => xgrd (xin v1 (xl S (xr S v0 34))) (xgrd (xin v2 (xl S (xr S v0 34))) (if (q3.1 (xr S v0 34) (v1).toNatClampNeg) = (q3.1 (xr S v0 34) (v2).toNatClampNeg) then (f_X12_differ_44 F P S v0 v1 v2 0 1 q3) else (f_X12_differ_44 F P S v0 v1 v2 0 0 q3)))))
set_option maxHeartbeats 4000000 in
theorem S_X12_differ {F P : Nat} {S : xSt} (hS : xWF S) {v0 : Nat} {v1 : Int32} {v2 : Int32} {D : xDt} {r : Int32 × xDt} (k0 : xK S v0 12) (h : f_X12_differ F P S v0 v1 v2 D = some r) : xSp md_X12_differ (4, 0, 0) [.ref v0, .int v1, .int v2] (S, D) (xQi S r) := by
  unfold f_X12_differ at h
  refine xEntry (by decide) (Nat.le_of_ble_eq_true rfl) ?_
  refine x_lv (lv' := [(0, .ref v0), (1, .int v1), (2, .int v2)]) [0, 1, 2] rfl ?_
  refine x_aload_n dX12_differ_0 0 rfl ?_
  refine x_iload_n dX12_differ_1 1 rfl ?_
  refine xbnd_e h (fun q1 e1 h => ?_)
  refine y_callVi (As := [.int v1]) (q := q1) cv_RX12_38 dX12_differ_2 k0 rfl (Nat.le_of_ble_eq_true rfl) (by omega) (S_X12_isWorld hS k0 e1) ?_
  refine x_if_eq 16 dX12_differ_5 (by decide) (fun c => ?_) (fun c => ?_)
  · rw [if_pos c] at h
    refine x_iconst (-1) dX12_differ_16 (by decide) ?_
    obtain rfl := Option.some.inj h
    exact y_iret rfl dX12_differ_17
  · rw [if_neg c] at h
    refine x_aload_n dX12_differ_8 0 rfl ?_
    refine x_iload_n dX12_differ_9 2 rfl ?_
    refine xbnd_e h (fun q2 e2 h => ?_)
    refine y_callVi (As := [.int v2]) (q := q2) cv_RX12_38 dX12_differ_10 k0 rfl (Nat.le_of_ble_eq_true rfl) (by omega) (S_X12_isWorld hS k0 e2) ?_
    refine x_if_ne 18 dX12_differ_13 (by decide) (fun c => ?_) (fun c => ?_)
    · rw [if_neg c] at h
      refine x_aload_n dX12_differ_18 0 rfl ?_
      refine xbnd_e h (fun q3 e3 h => ?_)
      refine y_callVv (As := []) (q := q3) cv_RX12_281 dX12_differ_19 k0 rfl (Nat.le_of_ble_eq_true rfl) (by omega) (S_X12_beginLike hS k0 e3) ?_
      refine x_iconst 0 dX12_differ_22 (by decide) ?_
      refine y_istore_n 0 rfl [(3, .int 0), (0, .ref v0), (1, .int v1), (2, .int v2)] dX12_differ_23 (by show _ < 5; decide) rfl ?_
      refine x_aload_n dX12_differ_24 1 rfl ?_
      refine y_getr (kd := 100) hS fl_RX12_128 dX12_differ_25 rfl k0 ?_
      refine x_iload_n dX12_differ_28 2 rfl ?_
      refine xgrd_e h (fun g4 h => ?_)
      refine y_iald dX12_differ_29 ((hS.f k0 34 100 rfl).2) g4 ?_
      refine x_aload_n dX12_differ_30 1 rfl ?_
      refine y_getr (kd := 100) hS fl_RX12_128 dX12_differ_31 rfl k0 ?_
      refine x_iload_n dX12_differ_34 3 rfl ?_
      refine xgrd_e h (fun g5 h => ?_)
      refine y_iald dX12_differ_35 ((hS.f k0 34 100 rfl).2) g5 ?_
      refine x_icmp_ne 43 dX12_differ_36 (by decide) (fun c => ?_) (fun c => ?_)
      · rw [if_neg c] at h
        refine x_iconst 0 dX12_differ_43 (by decide) ?_
        refine x_lv (lv' := [(0, .ref v0), (1, .int v1), (2, .int v2), (3, .int 0)]) [1, 2, 3, 0] rfl ?_
        exact t_X12_differ_44 hS k0 h
      · rw [if_pos c] at h
        refine x_iconst 1 dX12_differ_39 (by decide) ?_
        refine x_goto 44 dX12_differ_40 (by decide) ?_
        refine x_lv (lv' := [(0, .ref v0), (1, .int v1), (2, .int v2), (3, .int 0)]) [1, 2, 3, 0] rfl ?_
        exact t_X12_differ_44 hS k0 h
    · rw [if_pos c] at h
      refine x_iconst (-1) dX12_differ_16 (by decide) ?_
      obtain rfl := Option.some.inj h
      exact y_iret rfl dX12_differ_17

theorem dX12_has_0 : decode cX12_has 0 = .ok (.iload_n 2, 1) := by decide +kernel
theorem dX12_has_1 : decode cX12_has 1 = .ok (.aload_n 0, 1) := by decide +kernel
theorem dX12_has_2 : decode cX12_has 2 = .ok (.getfield 72, 3) := by decide +kernel
theorem dX12_has_5 : decode cX12_has 5 = .ok (.iload_n 1, 1) := by decide +kernel
theorem dX12_has_6 : decode cX12_has 6 = .ok (.iaload, 1) := by decide +kernel
theorem dX12_has_7 : decode cX12_has 7 = .ok (.ishr, 1) := by decide +kernel
theorem dX12_has_8 : decode cX12_has 8 = .ok (.iconst 1, 1) := by decide +kernel
theorem dX12_has_9 : decode cX12_has 9 = .ok (.iand, 1) := by decide +kernel
theorem dX12_has_10 : decode cX12_has 10 = .ok (.iconst 1, 1) := by decide +kernel
theorem dX12_has_11 : decode cX12_has 11 = .ok (.if_icmp .eq 49, 3) := by decide +kernel
theorem dX12_has_14 : decode cX12_has 14 = .ok (.aload_n 0, 1) := by decide +kernel
theorem dX12_has_15 : decode cX12_has 15 = .ok (.getfield 75, 3) := by decide +kernel
theorem dX12_has_18 : decode cX12_has 18 = .ok (.iload_n 1, 1) := by decide +kernel
theorem dX12_has_19 : decode cX12_has 19 = .ok (.iaload, 1) := by decide +kernel
theorem dX12_has_20 : decode cX12_has 20 = .ok (.ifCond .lt 17, 3) := by decide +kernel
theorem dX12_has_23 : decode cX12_has 23 = .ok (.aload_n 0, 1) := by decide +kernel
theorem dX12_has_24 : decode cX12_has 24 = .ok (.aload_n 0, 1) := by decide +kernel
theorem dX12_has_25 : decode cX12_has 25 = .ok (.getfield 75, 3) := by decide +kernel
theorem dX12_has_28 : decode cX12_has 28 = .ok (.iload_n 1, 1) := by decide +kernel
theorem dX12_has_29 : decode cX12_has 29 = .ok (.iaload, 1) := by decide +kernel
theorem dX12_has_30 : decode cX12_has 30 = .ok (.iload_n 2, 1) := by decide +kernel
theorem dX12_has_31 : decode cX12_has 31 = .ok (.invokevirtual 288, 3) := by decide +kernel
theorem dX12_has_34 : decode cX12_has 34 = .ok (.ifCond .ne 26, 3) := by decide +kernel
theorem dX12_has_37 : decode cX12_has 37 = .ok (.aload_n 0, 1) := by decide +kernel
theorem dX12_has_38 : decode cX12_has 38 = .ok (.getfield 78, 3) := by decide +kernel
theorem dX12_has_41 : decode cX12_has 41 = .ok (.iload_n 1, 1) := by decide +kernel
theorem dX12_has_42 : decode cX12_has 42 = .ok (.iaload, 1) := by decide +kernel
theorem dX12_has_43 : decode cX12_has 43 = .ok (.ifCond .lt 21, 3) := by decide +kernel
theorem dX12_has_46 : decode cX12_has 46 = .ok (.aload_n 0, 1) := by decide +kernel
theorem dX12_has_47 : decode cX12_has 47 = .ok (.aload_n 0, 1) := by decide +kernel
theorem dX12_has_48 : decode cX12_has 48 = .ok (.getfield 78, 3) := by decide +kernel
theorem dX12_has_51 : decode cX12_has 51 = .ok (.iload_n 1, 1) := by decide +kernel
theorem dX12_has_52 : decode cX12_has 52 = .ok (.iaload, 1) := by decide +kernel
theorem dX12_has_53 : decode cX12_has 53 = .ok (.iload_n 2, 1) := by decide +kernel
theorem dX12_has_54 : decode cX12_has 54 = .ok (.invokevirtual 288, 3) := by decide +kernel
theorem dX12_has_57 : decode cX12_has 57 = .ok (.ifCond .eq 7, 3) := by decide +kernel
theorem dX12_has_60 : decode cX12_has 60 = .ok (.iconst 1, 1) := by decide +kernel
theorem dX12_has_61 : decode cX12_has 61 = .ok (.goto 4, 3) := by decide +kernel
theorem dX12_has_64 : decode cX12_has 64 = .ok (.iconst 0, 1) := by decide +kernel
theorem dX12_has_65 : decode cX12_has 65 = .ok (.ireturn, 1) := by decide +kernel
def f_X12_has_60 (F P : Nat) (S : xSt) (self_X12_has : Nat → Int32 → Int32 → xDt → Option (Int32 × xDt)) (D : xDt) : Option (Int32 × xDt) :=
  some (1, D)
set_option maxHeartbeats 4000000 in
theorem t_X12_has_60 {F P : Nat} {S : xSt} (hS : xWF S) {hh : Nat} (hhc : 0 ≤ hh) {self_X12_has : Nat → Int32 → Int32 → xDt → Option (Int32 × xDt)} (hself_X12_has : ∀ {v0 : Nat} {v1 : Int32} {v2 : Int32} {D : xDt} {r : Int32 × xDt}, xK S v0 12 → self_X12_has v0 v1 v2 D = some r → xSp md_X12_has (hh, 0, 0) [.ref v0, .int v1, .int v2] (S, D) (xQi S r)) {D : xDt} {r : Int32 × xDt} (h : f_X12_has_60 F P S self_X12_has D = some r) : yEx md_X12_has (hh + 1) 60 [] [] S D (xQi S r) := by
  unfold f_X12_has_60 at h
  refine x_iconst 1 dX12_has_60 (by decide) ?_
  refine x_goto 65 dX12_has_61 (by decide) ?_
  obtain rfl := Option.some.inj h
  exact y_zret rfl rfl dX12_has_65

def f_X12_has_64 (F P : Nat) (S : xSt) (self_X12_has : Nat → Int32 → Int32 → xDt → Option (Int32 × xDt)) (D : xDt) : Option (Int32 × xDt) :=
  some (0, D)
set_option maxHeartbeats 4000000 in
theorem t_X12_has_64 {F P : Nat} {S : xSt} (hS : xWF S) {hh : Nat} (hhc : 0 ≤ hh) {self_X12_has : Nat → Int32 → Int32 → xDt → Option (Int32 × xDt)} (hself_X12_has : ∀ {v0 : Nat} {v1 : Int32} {v2 : Int32} {D : xDt} {r : Int32 × xDt}, xK S v0 12 → self_X12_has v0 v1 v2 D = some r → xSp md_X12_has (hh, 0, 0) [.ref v0, .int v1, .int v2] (S, D) (xQi S r)) {D : xDt} {r : Int32 × xDt} (h : f_X12_has_64 F P S self_X12_has D = some r) : yEx md_X12_has (hh + 1) 64 [] [] S D (xQi S r) := by
  unfold f_X12_has_64 at h
  refine x_iconst 0 dX12_has_64 (by decide) ?_
  obtain rfl := Option.some.inj h
  exact y_zret rfl rfl dX12_has_65

def f_X12_has_37 (F P : Nat) (S : xSt) (self_X12_has : Nat → Int32 → Int32 → xDt → Option (Int32 × xDt)) (v0 : Nat) (v1 : Int32) (v2 : Int32) (D : xDt) : Option (Int32 × xDt) :=
  xgrd (xin v1 (xl S (xr S v0 10))) (if (D.1 (xr S v0 10) (v1).toNatClampNeg) < 0 then (f_X12_has_64 F P S self_X12_has D) else (xgrd (xin v1 (xl S (xr S v0 10))) ((self_X12_has v0 (D.1 (xr S v0 10) (v1).toNatClampNeg) v2 D).bind fun q3 => if q3.1 = 0 then (f_X12_has_64 F P S self_X12_has q3.2) else (f_X12_has_60 F P S self_X12_has q3.2))))
set_option maxHeartbeats 4000000 in
theorem t_X12_has_37 {F P : Nat} {S : xSt} (hS : xWF S) {hh : Nat} (hhc : 0 ≤ hh) {self_X12_has : Nat → Int32 → Int32 → xDt → Option (Int32 × xDt)} (hself_X12_has : ∀ {v0 : Nat} {v1 : Int32} {v2 : Int32} {D : xDt} {r : Int32 × xDt}, xK S v0 12 → self_X12_has v0 v1 v2 D = some r → xSp md_X12_has (hh, 0, 0) [.ref v0, .int v1, .int v2] (S, D) (xQi S r)) {v0 : Nat} {v1 : Int32} {v2 : Int32} {D : xDt} {r : Int32 × xDt} (k0 : xK S v0 12) (h : f_X12_has_37 F P S self_X12_has v0 v1 v2 D = some r) : yEx md_X12_has (hh + 1) 37 [(0, .ref v0), (1, .int v1), (2, .int v2)] [] S D (xQi S r) := by
  unfold f_X12_has_37 at h
  refine x_aload_n dX12_has_37 0 rfl ?_
  refine y_getr (kd := 100) hS fl_RX12_78 dX12_has_38 rfl k0 ?_
  refine x_iload_n dX12_has_41 1 rfl ?_
  refine xgrd_e h (fun g1 h => ?_)
  refine y_iald dX12_has_42 ((hS.f k0 10 100 rfl).2) g1 ?_
  refine x_if_lt 64 dX12_has_43 (by decide) (fun c => ?_) (fun c => ?_)
  · rw [if_pos c] at h
    refine x_lv (lv' := []) [] rfl ?_
    exact t_X12_has_64 hS hhc hself_X12_has h
  · rw [if_neg c] at h
    refine x_aload_n dX12_has_46 0 rfl ?_
    refine x_aload_n dX12_has_47 0 rfl ?_
    refine y_getr (kd := 100) hS fl_RX12_78 dX12_has_48 rfl k0 ?_
    refine x_iload_n dX12_has_51 1 rfl ?_
    refine xgrd_e h (fun g2 h => ?_)
    refine y_iald dX12_has_52 ((hS.f k0 10 100 rfl).2) g2 ?_
    refine x_iload_n dX12_has_53 2 rfl ?_
    refine xbnd_e h (fun q3 e3 h => ?_)
    refine y_callVi (As := [.int (D.1 (xr S v0 10) (v1).toNatClampNeg), .int v2]) (q := q3) cv_RX12_288 dX12_has_54 k0 rfl (Nat.le_of_ble_eq_true rfl) (by omega) (hself_X12_has k0 e3) ?_
    refine x_if_eq 64 dX12_has_57 (by decide) (fun c => ?_) (fun c => ?_)
    · rw [if_pos c] at h
      refine x_lv (lv' := []) [] rfl ?_
      exact t_X12_has_64 hS hhc hself_X12_has h
    · rw [if_neg c] at h
      refine x_lv (lv' := []) [] rfl ?_
      exact t_X12_has_60 hS hhc hself_X12_has h

def f_X12_has_o (F P : Nat) (S : xSt) (self_X12_has : Nat → Int32 → Int32 → xDt → Option (Int32 × xDt)) (v0 : Nat) (v1 : Int32) (v2 : Int32) (D : xDt) : Option (Int32 × xDt) :=
  xgrd (xin v1 (xl S (xr S v0 8))) (if ((jishr v2 (D.1 (xr S v0 8) (v1).toNatClampNeg)) &&& 1) = 1 then (f_X12_has_60 F P S self_X12_has D) else (xgrd (xin v1 (xl S (xr S v0 9))) (if (D.1 (xr S v0 9) (v1).toNatClampNeg) < 0 then (f_X12_has_37 F P S self_X12_has v0 v1 v2 D) else (xgrd (xin v1 (xl S (xr S v0 9))) ((self_X12_has v0 (D.1 (xr S v0 9) (v1).toNatClampNeg) v2 D).bind fun q4 => if q4.1 = 0 then (f_X12_has_37 F P S self_X12_has v0 v1 v2 q4.2) else (f_X12_has_60 F P S self_X12_has q4.2))))))
set_option maxHeartbeats 4000000 in
theorem S_X12_has_o {F P : Nat} {S : xSt} (hS : xWF S) {hh : Nat} (hhc : 0 ≤ hh) {self_X12_has : Nat → Int32 → Int32 → xDt → Option (Int32 × xDt)} (hself_X12_has : ∀ {v0 : Nat} {v1 : Int32} {v2 : Int32} {D : xDt} {r : Int32 × xDt}, xK S v0 12 → self_X12_has v0 v1 v2 D = some r → xSp md_X12_has (hh, 0, 0) [.ref v0, .int v1, .int v2] (S, D) (xQi S r)) {v0 : Nat} {v1 : Int32} {v2 : Int32} {D : xDt} {r : Int32 × xDt} (k0 : xK S v0 12) (h : f_X12_has_o F P S self_X12_has v0 v1 v2 D = some r) : xSp md_X12_has ((hh + 1), 0, 0) [.ref v0, .int v1, .int v2] (S, D) (xQi S r) := by
  unfold f_X12_has_o at h
  refine xEntry (by decide) (Nat.le_of_ble_eq_true rfl) ?_
  refine x_lv (lv' := [(0, .ref v0), (1, .int v1), (2, .int v2)]) [0, 1, 2] rfl ?_
  refine x_iload_n dX12_has_0 2 rfl ?_
  refine x_aload_n dX12_has_1 0 rfl ?_
  refine y_getr (kd := 100) hS fl_RX12_72 dX12_has_2 rfl k0 ?_
  refine x_iload_n dX12_has_5 1 rfl ?_
  refine xgrd_e h (fun g1 h => ?_)
  refine y_iald dX12_has_6 ((hS.f k0 8 100 rfl).2) g1 ?_
  refine x_ishr dX12_has_7 ?_
  refine x_iconst 1 dX12_has_8 (by decide) ?_
  refine x_iand dX12_has_9 ?_
  refine x_iconst 1 dX12_has_10 (by decide) ?_
  refine x_icmp_eq 60 dX12_has_11 (by decide) (fun c => ?_) (fun c => ?_)
  · rw [if_pos c] at h
    refine x_lv (lv' := []) [] rfl ?_
    exact t_X12_has_60 hS hhc hself_X12_has h
  · rw [if_neg c] at h
    refine x_aload_n dX12_has_14 0 rfl ?_
    refine y_getr (kd := 100) hS fl_RX12_75 dX12_has_15 rfl k0 ?_
    refine x_iload_n dX12_has_18 1 rfl ?_
    refine xgrd_e h (fun g2 h => ?_)
    refine y_iald dX12_has_19 ((hS.f k0 9 100 rfl).2) g2 ?_
    refine x_if_lt 37 dX12_has_20 (by decide) (fun c => ?_) (fun c => ?_)
    · rw [if_pos c] at h
      exact t_X12_has_37 hS hhc hself_X12_has k0 h
    · rw [if_neg c] at h
      refine x_aload_n dX12_has_23 0 rfl ?_
      refine x_aload_n dX12_has_24 0 rfl ?_
      refine y_getr (kd := 100) hS fl_RX12_75 dX12_has_25 rfl k0 ?_
      refine x_iload_n dX12_has_28 1 rfl ?_
      refine xgrd_e h (fun g3 h => ?_)
      refine y_iald dX12_has_29 ((hS.f k0 9 100 rfl).2) g3 ?_
      refine x_iload_n dX12_has_30 2 rfl ?_
      refine xbnd_e h (fun q4 e4 h => ?_)
      refine y_callVi (As := [.int (D.1 (xr S v0 9) (v1).toNatClampNeg), .int v2]) (q := q4) cv_RX12_288 dX12_has_31 k0 rfl (Nat.le_of_ble_eq_true rfl) (by omega) (hself_X12_has k0 e4) ?_
      refine x_if_ne 60 dX12_has_34 (by decide) (fun c => ?_) (fun c => ?_)
      · rw [if_neg c] at h
        refine x_lv (lv' := []) [] rfl ?_
        exact t_X12_has_60 hS hhc hself_X12_has h
      · rw [if_pos c] at h
        exact t_X12_has_37 hS hhc hself_X12_has k0 h

def f_X12_has (F P : Nat) (S : xSt) : Nat → Nat → Int32 → Int32 → xDt → Option (Int32 × xDt)
  | 0 => fun _ _ _ _ => none
  | n + 1 => f_X12_has_o F P S (f_X12_has F P S n)
theorem S_X12_has {F P : Nat} {S : xSt} (hS : xWF S) : ∀ (n : Nat) {v0 : Nat} {v1 : Int32} {v2 : Int32} {D : xDt} {r : Int32 × xDt}, xK S v0 12 → f_X12_has F P S n v0 v1 v2 D = some r → xSp md_X12_has (n + 0, 0, 0) [.ref v0, .int v1, .int v2] (S, D) (xQi S r) := by
  intro n
  induction n with
  | zero => intros; rename_i h; cases h
  | succ n ih =>
    intro v0 v1 v2 D r k0 h
    have := S_X12_has_o hS (hh := n + 0) (by omega) (fun k0 h => ih k0 h) k0 h
    rw [show n + 1 + 0 = n + 0 + 1 by omega]
    exact this

theorem dX12_made_0 : decode cX12_made 0 = .ok (.aload_n 0, 1) := by decide +kernel
theorem dX12_made_1 : decode cX12_made 1 = .ok (.getfield 291, 3) := by decide +kernel
theorem dX12_made_4 : decode cX12_made 4 = .ok (.ifCond .ne 12, 3) := by decide +kernel
theorem dX12_made_7 : decode cX12_made 7 = .ok (.aload_n 0, 1) := by decide +kernel
theorem dX12_made_8 : decode cX12_made 8 = .ok (.getfield 153, 3) := by decide +kernel
theorem dX12_made_11 : decode cX12_made 11 = .ok (.ldc 71, 2) := by decide +kernel
theorem dX12_made_13 : decode cX12_made 13 = .ok (.if_icmp .ne 12, 3) := by decide +kernel
theorem dX12_made_16 : decode cX12_made 16 = .ok (.aload_n 0, 1) := by decide +kernel
theorem dX12_made_17 : decode cX12_made 17 = .ok (.iconst 1, 1) := by decide +kernel
theorem dX12_made_18 : decode cX12_made 18 = .ok (.putfield 291, 3) := by decide +kernel
theorem dX12_made_21 : decode cX12_made 21 = .ok (.sipush 12800, 3) := by decide +kernel
theorem dX12_made_24 : decode cX12_made 24 = .ok (.ireturn, 1) := by decide +kernel
theorem dX12_made_25 : decode cX12_made 25 = .ok (.aload_n 0, 1) := by decide +kernel
theorem dX12_made_26 : decode cX12_made 26 = .ok (.iload_n 1, 1) := by decide +kernel
theorem dX12_made_27 : decode cX12_made 27 = .ok (.iload_n 2, 1) := by decide +kernel
theorem dX12_made_28 : decode cX12_made 28 = .ok (.iload_n 3, 1) := by decide +kernel
theorem dX12_made_29 : decode cX12_made 29 = .ok (.iload 4, 2) := by decide +kernel
theorem dX12_made_31 : decode cX12_made 31 = .ok (.invokevirtual 156, 3) := by decide +kernel
theorem dX12_made_34 : decode cX12_made 34 = .ok (.istore 5, 2) := by decide +kernel
theorem dX12_made_36 : decode cX12_made 36 = .ok (.aload_n 0, 1) := by decide +kernel
theorem dX12_made_37 : decode cX12_made 37 = .ok (.aload_n 0, 1) := by decide +kernel
theorem dX12_made_38 : decode cX12_made 38 = .ok (.getfield 84, 3) := by decide +kernel
theorem dX12_made_41 : decode cX12_made 41 = .ok (.iload 5, 2) := by decide +kernel
theorem dX12_made_43 : decode cX12_made 43 = .ok (.iaload, 1) := by decide +kernel
theorem dX12_made_44 : decode cX12_made 44 = .ok (.sipush 2000, 3) := by decide +kernel
theorem dX12_made_47 : decode cX12_made 47 = .ok (.if_icmp .le 7, 3) := by decide +kernel
theorem dX12_made_50 : decode cX12_made 50 = .ok (.iconst 1, 1) := by decide +kernel
theorem dX12_made_51 : decode cX12_made 51 = .ok (.goto 4, 3) := by decide +kernel
theorem dX12_made_54 : decode cX12_made 54 = .ok (.iconst 0, 1) := by decide +kernel
theorem dX12_made_55 : decode cX12_made 55 = .ok (.putfield 291, 3) := by decide +kernel
theorem dX12_made_58 : decode cX12_made 58 = .ok (.iload 5, 2) := by decide +kernel
theorem dX12_made_60 : decode cX12_made 60 = .ok (.ireturn, 1) := by decide +kernel
def f_X12_made (F P : Nat) (S : xSt) (v0 : Nat) (v1 : Int32) (v2 : Int32) (v3 : Int32) (v4 : Int32) (D : xDt) : Option (Int32 × xDt) :=
  if (D.1 v0 36) = 0 then (if (D.1 v0 13) = 92800 then (xlet (xup D.1 v0 36 1, D.2) fun D6 => some (12800, D6)) else ((f_X12_node F P S v0 v1 v2 v3 v4 D).bind fun q2 => xgrd (xin q2.1 (xl S (xr S v0 12))) (if (q2.2.1 (xr S v0 12) (q2.1).toNatClampNeg) ≤ 2000 then (xlet (xup q2.2.1 v0 36 0, q2.2.2) fun D4 => some (q2.1, D4)) else (xlet (xup q2.2.1 v0 36 1, q2.2.2) fun D5 => some (q2.1, D5))))) else (xlet (xup D.1 v0 36 1, D.2) fun D1 => some (12800, D1))
set_option maxHeartbeats 4000000 in
theorem S_X12_made {F P : Nat} {S : xSt} (hS : xWF S) {v0 : Nat} {v1 : Int32} {v2 : Int32} {v3 : Int32} {v4 : Int32} {D : xDt} {r : Int32 × xDt} (k0 : xK S v0 12) (h : f_X12_made F P S v0 v1 v2 v3 v4 D = some r) : xSp md_X12_made (1, 0, 0) [.ref v0, .int v1, .int v2, .int v3, .int v4] (S, D) (xQi S r) := by
  unfold f_X12_made at h
  refine xEntry (by decide) (Nat.le_of_ble_eq_true rfl) ?_
  refine x_lv (lv' := [(0, .ref v0), (1, .int v1), (2, .int v2), (3, .int v3), (4, .int v4)]) [0, 1, 2, 3, 4] rfl ?_
  refine x_aload_n dX12_made_0 0 rfl ?_
  refine y_geti fl_RX12_291 dX12_made_1 rfl k0 ?_
  refine x_if_ne 16 dX12_made_4 (by decide) (fun c => ?_) (fun c => ?_)
  · rw [if_neg c] at h
    refine x_aload_n dX12_made_16 0 rfl ?_
    refine x_iconst 1 dX12_made_17 (by decide) ?_
    refine xlet_e h (fun D1 eD1 h => ?_)
    refine y_putz rfl fp_RX12_291 dX12_made_18 rfl k0 eD1 ?_
    refine x_sipush 12800 dX12_made_21 (by decide) ?_
    obtain rfl := Option.some.inj h
    exact y_iret rfl dX12_made_24
  · rw [if_pos c] at h
    refine x_aload_n dX12_made_7 0 rfl ?_
    refine y_geti fl_RX12_153 dX12_made_8 rfl k0 ?_
    refine x_ldc 92800 dX12_made_11 wd_1145 ?_
    refine x_icmp_ne 25 dX12_made_13 (by decide) (fun c => ?_) (fun c => ?_)
    · rw [if_neg c] at h
      refine x_aload_n dX12_made_25 0 rfl ?_
      refine x_iload_n dX12_made_26 1 rfl ?_
      refine x_iload_n dX12_made_27 2 rfl ?_
      refine x_iload_n dX12_made_28 3 rfl ?_
      refine x_iload dX12_made_29 4 rfl ?_
      refine xbnd_e h (fun q2 e2 h => ?_)
      refine y_callVi (As := [.int v1, .int v2, .int v3, .int v4]) (q := q2) cv_RX12_156 dX12_made_31 k0 rfl (Nat.le_of_ble_eq_true rfl) (by omega) (S_X12_node hS k0 e2) ?_
      refine y_istore q2.1 rfl [(5, .int q2.1), (0, .ref v0), (1, .int v1), (2, .int v2), (3, .int v3), (4, .int v4)] dX12_made_34 (by show _ < 6; decide) rfl ?_
      refine x_aload_n dX12_made_36 1 rfl ?_
      refine x_aload_n dX12_made_37 1 rfl ?_
      refine y_getr (kd := 100) hS fl_RX12_84 dX12_made_38 rfl k0 ?_
      refine x_iload dX12_made_41 0 rfl ?_
      refine xgrd_e h (fun g3 h => ?_)
      refine y_iald dX12_made_43 ((hS.f k0 12 100 rfl).2) g3 ?_
      refine x_sipush 2000 dX12_made_44 (by decide) ?_
      refine x_icmp_le 54 dX12_made_47 (by decide) (fun c => ?_) (fun c => ?_)
      · rw [if_pos c] at h
        refine x_iconst 0 dX12_made_54 (by decide) ?_
        refine xlet_e h (fun D4 eD4 h => ?_)
        refine y_putz rfl fp_RX12_291 dX12_made_55 rfl k0 eD4 ?_
        refine x_iload dX12_made_58 0 rfl ?_
        obtain rfl := Option.some.inj h
        exact y_iret rfl dX12_made_60
      · rw [if_neg c] at h
        refine x_iconst 1 dX12_made_50 (by decide) ?_
        refine x_goto 55 dX12_made_51 (by decide) ?_
        refine xlet_e h (fun D5 eD5 h => ?_)
        refine y_putz rfl fp_RX12_291 dX12_made_55 rfl k0 eD5 ?_
        refine x_iload dX12_made_58 0 rfl ?_
        obtain rfl := Option.some.inj h
        exact y_iret rfl dX12_made_60
    · rw [if_pos c] at h
      refine x_aload_n dX12_made_16 0 rfl ?_
      refine x_iconst 1 dX12_made_17 (by decide) ?_
      refine xlet_e h (fun D6 eD6 h => ?_)
      refine y_putz rfl fp_RX12_291 dX12_made_18 rfl k0 eD6 ?_
      refine x_sipush 12800 dX12_made_21 (by decide) ?_
      obtain rfl := Option.some.inj h
      exact y_iret rfl dX12_made_24

theorem dX12_reduced_0 : decode cX12_reduced 0 = .ok (.aload_n 0, 1) := by decide +kernel
theorem dX12_reduced_1 : decode cX12_reduced 1 = .ok (.getfield 291, 3) := by decide +kernel
theorem dX12_reduced_4 : decode cX12_reduced 4 = .ok (.ifCond .eq 7, 3) := by decide +kernel
theorem dX12_reduced_7 : decode cX12_reduced 7 = .ok (.sipush 12800, 3) := by decide +kernel
theorem dX12_reduced_10 : decode cX12_reduced 10 = .ok (.ireturn, 1) := by decide +kernel
theorem dX12_reduced_11 : decode cX12_reduced 11 = .ok (.aload_n 0, 1) := by decide +kernel
theorem dX12_reduced_12 : decode cX12_reduced 12 = .ok (.getfield 72, 3) := by decide +kernel
theorem dX12_reduced_15 : decode cX12_reduced 15 = .ok (.iload_n 1, 1) := by decide +kernel
theorem dX12_reduced_16 : decode cX12_reduced 16 = .ok (.iaload, 1) := by decide +kernel
theorem dX12_reduced_17 : decode cX12_reduced 17 = .ok (.istore_n 2, 1) := by decide +kernel
theorem dX12_reduced_18 : decode cX12_reduced 18 = .ok (.iload_n 2, 1) := by decide +kernel
theorem dX12_reduced_19 : decode cX12_reduced 19 = .ok (.iconst 4, 1) := by decide +kernel
theorem dX12_reduced_20 : decode cX12_reduced 20 = .ok (.if_icmp .ge 19, 3) := by decide +kernel
theorem dX12_reduced_23 : decode cX12_reduced 23 = .ok (.aload_n 0, 1) := by decide +kernel
theorem dX12_reduced_24 : decode cX12_reduced 24 = .ok (.iload_n 2, 1) := by decide +kernel
theorem dX12_reduced_25 : decode cX12_reduced 25 = .ok (.bipush (-2), 2) := by decide +kernel
theorem dX12_reduced_27 : decode cX12_reduced 27 = .ok (.bipush (-2), 2) := by decide +kernel
theorem dX12_reduced_29 : decode cX12_reduced 29 = .ok (.aload_n 0, 1) := by decide +kernel
theorem dX12_reduced_30 : decode cX12_reduced 30 = .ok (.getfield 81, 3) := by decide +kernel
theorem dX12_reduced_33 : decode cX12_reduced 33 = .ok (.iload_n 1, 1) := by decide +kernel
theorem dX12_reduced_34 : decode cX12_reduced 34 = .ok (.iaload, 1) := by decide +kernel
theorem dX12_reduced_35 : decode cX12_reduced 35 = .ok (.invokevirtual 295, 3) := by decide +kernel
theorem dX12_reduced_38 : decode cX12_reduced 38 = .ok (.ireturn, 1) := by decide +kernel
theorem dX12_reduced_39 : decode cX12_reduced 39 = .ok (.aload_n 0, 1) := by decide +kernel
theorem dX12_reduced_40 : decode cX12_reduced 40 = .ok (.aload_n 0, 1) := by decide +kernel
theorem dX12_reduced_41 : decode cX12_reduced 41 = .ok (.getfield 75, 3) := by decide +kernel
theorem dX12_reduced_44 : decode cX12_reduced 44 = .ok (.iload_n 1, 1) := by decide +kernel
theorem dX12_reduced_45 : decode cX12_reduced 45 = .ok (.iaload, 1) := by decide +kernel
theorem dX12_reduced_46 : decode cX12_reduced 46 = .ok (.invokevirtual 298, 3) := by decide +kernel
theorem dX12_reduced_49 : decode cX12_reduced 49 = .ok (.istore_n 3, 1) := by decide +kernel
theorem dX12_reduced_50 : decode cX12_reduced 50 = .ok (.aload_n 0, 1) := by decide +kernel
theorem dX12_reduced_51 : decode cX12_reduced 51 = .ok (.getfield 78, 3) := by decide +kernel
theorem dX12_reduced_54 : decode cX12_reduced 54 = .ok (.iload_n 1, 1) := by decide +kernel
theorem dX12_reduced_55 : decode cX12_reduced 55 = .ok (.iaload, 1) := by decide +kernel
theorem dX12_reduced_56 : decode cX12_reduced 56 = .ok (.ifCond .lt 10, 3) := by decide +kernel
theorem dX12_reduced_59 : decode cX12_reduced 59 = .ok (.aload_n 0, 1) := by decide +kernel
theorem dX12_reduced_60 : decode cX12_reduced 60 = .ok (.getfield 291, 3) := by decide +kernel
theorem dX12_reduced_63 : decode cX12_reduced 63 = .ok (.ifCond .eq 8, 3) := by decide +kernel
theorem dX12_reduced_66 : decode cX12_reduced 66 = .ok (.bipush (-2), 2) := by decide +kernel
theorem dX12_reduced_68 : decode cX12_reduced 68 = .ok (.goto 13, 3) := by decide +kernel
theorem dX12_reduced_71 : decode cX12_reduced 71 = .ok (.aload_n 0, 1) := by decide +kernel
theorem dX12_reduced_72 : decode cX12_reduced 72 = .ok (.aload_n 0, 1) := by decide +kernel
theorem dX12_reduced_73 : decode cX12_reduced 73 = .ok (.getfield 78, 3) := by decide +kernel
theorem dX12_reduced_76 : decode cX12_reduced 76 = .ok (.iload_n 1, 1) := by decide +kernel
theorem dX12_reduced_77 : decode cX12_reduced 77 = .ok (.iaload, 1) := by decide +kernel
theorem dX12_reduced_78 : decode cX12_reduced 78 = .ok (.invokevirtual 298, 3) := by decide +kernel
theorem dX12_reduced_81 : decode cX12_reduced 81 = .ok (.istore 4, 2) := by decide +kernel
theorem dX12_reduced_83 : decode cX12_reduced 83 = .ok (.iload_n 2, 1) := by decide +kernel
theorem dX12_reduced_84 : decode cX12_reduced 84 = .ok (.bipush 14, 2) := by decide +kernel
theorem dX12_reduced_86 : decode cX12_reduced 86 = .ok (.if_icmp .ne 11, 3) := by decide +kernel
theorem dX12_reduced_89 : decode cX12_reduced 89 = .ok (.aload_n 0, 1) := by decide +kernel
theorem dX12_reduced_90 : decode cX12_reduced 90 = .ok (.iload_n 3, 1) := by decide +kernel
theorem dX12_reduced_91 : decode cX12_reduced 91 = .ok (.iload 4, 2) := by decide +kernel
theorem dX12_reduced_93 : decode cX12_reduced 93 = .ok (.invokevirtual 301, 3) := by decide +kernel
theorem dX12_reduced_96 : decode cX12_reduced 96 = .ok (.ireturn, 1) := by decide +kernel
theorem dX12_reduced_97 : decode cX12_reduced 97 = .ok (.iload_n 2, 1) := by decide +kernel
theorem dX12_reduced_98 : decode cX12_reduced 98 = .ok (.bipush 15, 2) := by decide +kernel
theorem dX12_reduced_100 : decode cX12_reduced 100 = .ok (.if_icmp .ne 35, 3) := by decide +kernel
theorem dX12_reduced_103 : decode cX12_reduced 103 = .ok (.aload_n 0, 1) := by decide +kernel
theorem dX12_reduced_104 : decode cX12_reduced 104 = .ok (.iconst 4, 1) := by decide +kernel
theorem dX12_reduced_105 : decode cX12_reduced 105 = .ok (.aload_n 0, 1) := by decide +kernel
theorem dX12_reduced_106 : decode cX12_reduced 106 = .ok (.bipush 11, 2) := by decide +kernel
theorem dX12_reduced_108 : decode cX12_reduced 108 = .ok (.iload_n 3, 1) := by decide +kernel
theorem dX12_reduced_109 : decode cX12_reduced 109 = .ok (.aload_n 0, 1) := by decide +kernel
theorem dX12_reduced_110 : decode cX12_reduced 110 = .ok (.iconst 4, 1) := by decide +kernel
theorem dX12_reduced_111 : decode cX12_reduced 111 = .ok (.aload_n 0, 1) := by decide +kernel
theorem dX12_reduced_112 : decode cX12_reduced 112 = .ok (.iload_n 3, 1) := by decide +kernel
theorem dX12_reduced_113 : decode cX12_reduced 113 = .ok (.iload 4, 2) := by decide +kernel
theorem dX12_reduced_115 : decode cX12_reduced 115 = .ok (.invokevirtual 301, 3) := by decide +kernel
theorem dX12_reduced_118 : decode cX12_reduced 118 = .ok (.bipush (-2), 2) := by decide +kernel
theorem dX12_reduced_120 : decode cX12_reduced 120 = .ok (.iconst 0, 1) := by decide +kernel
theorem dX12_reduced_121 : decode cX12_reduced 121 = .ok (.invokevirtual 295, 3) := by decide +kernel
theorem dX12_reduced_124 : decode cX12_reduced 124 = .ok (.iconst 0, 1) := by decide +kernel
theorem dX12_reduced_125 : decode cX12_reduced 125 = .ok (.invokevirtual 295, 3) := by decide +kernel
theorem dX12_reduced_128 : decode cX12_reduced 128 = .ok (.bipush (-2), 2) := by decide +kernel
theorem dX12_reduced_130 : decode cX12_reduced 130 = .ok (.iconst 0, 1) := by decide +kernel
theorem dX12_reduced_131 : decode cX12_reduced 131 = .ok (.invokevirtual 295, 3) := by decide +kernel
theorem dX12_reduced_134 : decode cX12_reduced 134 = .ok (.ireturn, 1) := by decide +kernel
theorem dX12_reduced_135 : decode cX12_reduced 135 = .ok (.aload_n 0, 1) := by decide +kernel
theorem dX12_reduced_136 : decode cX12_reduced 136 = .ok (.iload_n 2, 1) := by decide +kernel
theorem dX12_reduced_137 : decode cX12_reduced 137 = .ok (.iload_n 3, 1) := by decide +kernel
theorem dX12_reduced_138 : decode cX12_reduced 138 = .ok (.iload 4, 2) := by decide +kernel
theorem dX12_reduced_140 : decode cX12_reduced 140 = .ok (.aload_n 0, 1) := by decide +kernel
theorem dX12_reduced_141 : decode cX12_reduced 141 = .ok (.getfield 81, 3) := by decide +kernel
theorem dX12_reduced_144 : decode cX12_reduced 144 = .ok (.iload_n 1, 1) := by decide +kernel
theorem dX12_reduced_145 : decode cX12_reduced 145 = .ok (.iaload, 1) := by decide +kernel
theorem dX12_reduced_146 : decode cX12_reduced 146 = .ok (.invokevirtual 295, 3) := by decide +kernel
theorem dX12_reduced_149 : decode cX12_reduced 149 = .ok (.ireturn, 1) := by decide +kernel
theorem dX12_pushed_0 : decode cX12_pushed 0 = .ok (.aload_n 0, 1) := by decide +kernel
theorem dX12_pushed_1 : decode cX12_pushed 1 = .ok (.getfield 291, 3) := by decide +kernel
theorem dX12_pushed_4 : decode cX12_pushed 4 = .ok (.ifCond .eq 7, 3) := by decide +kernel
theorem dX12_pushed_7 : decode cX12_pushed 7 = .ok (.sipush 12800, 3) := by decide +kernel
theorem dX12_pushed_10 : decode cX12_pushed 10 = .ok (.ireturn, 1) := by decide +kernel
theorem dX12_pushed_11 : decode cX12_pushed 11 = .ok (.aload_n 0, 1) := by decide +kernel
theorem dX12_pushed_12 : decode cX12_pushed 12 = .ok (.getfield 72, 3) := by decide +kernel
theorem dX12_pushed_15 : decode cX12_pushed 15 = .ok (.iload_n 2, 1) := by decide +kernel
theorem dX12_pushed_16 : decode cX12_pushed 16 = .ok (.iaload, 1) := by decide +kernel
theorem dX12_pushed_17 : decode cX12_pushed 17 = .ok (.tableswitch 194 4 13 #[55, 83, 116, 194, 194, 194, 158, 158, 158, 158], 55) := by decide +kernel
theorem dX12_pushed_72 : decode cX12_pushed 72 = .ok (.aload_n 0, 1) := by decide +kernel
theorem dX12_pushed_73 : decode cX12_pushed 73 = .ok (.bipush 11, 2) := by decide +kernel
theorem dX12_pushed_75 : decode cX12_pushed 75 = .ok (.iload_n 1, 1) := by decide +kernel
theorem dX12_pushed_76 : decode cX12_pushed 76 = .ok (.aload_n 0, 1) := by decide +kernel
theorem dX12_pushed_77 : decode cX12_pushed 77 = .ok (.iconst 4, 1) := by decide +kernel
theorem dX12_pushed_78 : decode cX12_pushed 78 = .ok (.aload_n 0, 1) := by decide +kernel
theorem dX12_pushed_79 : decode cX12_pushed 79 = .ok (.iload_n 1, 1) := by decide +kernel
theorem dX12_pushed_80 : decode cX12_pushed 80 = .ok (.aload_n 0, 1) := by decide +kernel
theorem dX12_pushed_81 : decode cX12_pushed 81 = .ok (.getfield 75, 3) := by decide +kernel
theorem dX12_pushed_84 : decode cX12_pushed 84 = .ok (.iload_n 2, 1) := by decide +kernel
theorem dX12_pushed_85 : decode cX12_pushed 85 = .ok (.iaload, 1) := by decide +kernel
theorem dX12_pushed_86 : decode cX12_pushed 86 = .ok (.invokevirtual 301, 3) := by decide +kernel
theorem dX12_pushed_89 : decode cX12_pushed 89 = .ok (.bipush (-2), 2) := by decide +kernel
theorem dX12_pushed_91 : decode cX12_pushed 91 = .ok (.iconst 0, 1) := by decide +kernel
theorem dX12_pushed_92 : decode cX12_pushed 92 = .ok (.invokevirtual 295, 3) := by decide +kernel
theorem dX12_pushed_95 : decode cX12_pushed 95 = .ok (.iconst 0, 1) := by decide +kernel
theorem dX12_pushed_96 : decode cX12_pushed 96 = .ok (.invokevirtual 295, 3) := by decide +kernel
theorem dX12_pushed_99 : decode cX12_pushed 99 = .ok (.ireturn, 1) := by decide +kernel
theorem dX12_pushed_100 : decode cX12_pushed 100 = .ok (.aload_n 0, 1) := by decide +kernel
theorem dX12_pushed_101 : decode cX12_pushed 101 = .ok (.bipush 11, 2) := by decide +kernel
theorem dX12_pushed_103 : decode cX12_pushed 103 = .ok (.iload_n 1, 1) := by decide +kernel
theorem dX12_pushed_104 : decode cX12_pushed 104 = .ok (.aload_n 0, 1) := by decide +kernel
theorem dX12_pushed_105 : decode cX12_pushed 105 = .ok (.iconst 5, 1) := by decide +kernel
theorem dX12_pushed_106 : decode cX12_pushed 106 = .ok (.aload_n 0, 1) := by decide +kernel
theorem dX12_pushed_107 : decode cX12_pushed 107 = .ok (.iload_n 1, 1) := by decide +kernel
theorem dX12_pushed_108 : decode cX12_pushed 108 = .ok (.aload_n 0, 1) := by decide +kernel
theorem dX12_pushed_109 : decode cX12_pushed 109 = .ok (.getfield 75, 3) := by decide +kernel
theorem dX12_pushed_112 : decode cX12_pushed 112 = .ok (.iload_n 2, 1) := by decide +kernel
theorem dX12_pushed_113 : decode cX12_pushed 113 = .ok (.iaload, 1) := by decide +kernel
theorem dX12_pushed_114 : decode cX12_pushed 114 = .ok (.invokevirtual 301, 3) := by decide +kernel
theorem dX12_pushed_117 : decode cX12_pushed 117 = .ok (.bipush (-2), 2) := by decide +kernel
theorem dX12_pushed_119 : decode cX12_pushed 119 = .ok (.aload_n 0, 1) := by decide +kernel
theorem dX12_pushed_120 : decode cX12_pushed 120 = .ok (.getfield 81, 3) := by decide +kernel
theorem dX12_pushed_123 : decode cX12_pushed 123 = .ok (.iload_n 2, 1) := by decide +kernel
theorem dX12_pushed_124 : decode cX12_pushed 124 = .ok (.iaload, 1) := by decide +kernel
theorem dX12_pushed_125 : decode cX12_pushed 125 = .ok (.invokevirtual 295, 3) := by decide +kernel
theorem dX12_pushed_128 : decode cX12_pushed 128 = .ok (.iconst 0, 1) := by decide +kernel
theorem dX12_pushed_129 : decode cX12_pushed 129 = .ok (.invokevirtual 295, 3) := by decide +kernel
theorem dX12_pushed_132 : decode cX12_pushed 132 = .ok (.ireturn, 1) := by decide +kernel
theorem dX12_pushed_133 : decode cX12_pushed 133 = .ok (.aload_n 0, 1) := by decide +kernel
theorem dX12_pushed_134 : decode cX12_pushed 134 = .ok (.bipush 11, 2) := by decide +kernel
theorem dX12_pushed_136 : decode cX12_pushed 136 = .ok (.iload_n 1, 1) := by decide +kernel
theorem dX12_pushed_137 : decode cX12_pushed 137 = .ok (.aload_n 0, 1) := by decide +kernel
theorem dX12_pushed_138 : decode cX12_pushed 138 = .ok (.bipush 6, 2) := by decide +kernel
theorem dX12_pushed_140 : decode cX12_pushed 140 = .ok (.aload_n 0, 1) := by decide +kernel
theorem dX12_pushed_141 : decode cX12_pushed 141 = .ok (.bipush 13, 2) := by decide +kernel
theorem dX12_pushed_143 : decode cX12_pushed 143 = .ok (.iload_n 1, 1) := by decide +kernel
theorem dX12_pushed_144 : decode cX12_pushed 144 = .ok (.aload_n 0, 1) := by decide +kernel
theorem dX12_pushed_145 : decode cX12_pushed 145 = .ok (.iload_n 1, 1) := by decide +kernel
theorem dX12_pushed_146 : decode cX12_pushed 146 = .ok (.aload_n 0, 1) := by decide +kernel
theorem dX12_pushed_147 : decode cX12_pushed 147 = .ok (.getfield 75, 3) := by decide +kernel
theorem dX12_pushed_150 : decode cX12_pushed 150 = .ok (.iload_n 2, 1) := by decide +kernel
theorem dX12_pushed_151 : decode cX12_pushed 151 = .ok (.iaload, 1) := by decide +kernel
theorem dX12_pushed_152 : decode cX12_pushed 152 = .ok (.invokevirtual 301, 3) := by decide +kernel
theorem dX12_pushed_155 : decode cX12_pushed 155 = .ok (.iconst 0, 1) := by decide +kernel
theorem dX12_pushed_156 : decode cX12_pushed 156 = .ok (.invokevirtual 295, 3) := by decide +kernel
theorem dX12_pushed_159 : decode cX12_pushed 159 = .ok (.bipush (-2), 2) := by decide +kernel
theorem dX12_pushed_161 : decode cX12_pushed 161 = .ok (.aload_n 0, 1) := by decide +kernel
theorem dX12_pushed_162 : decode cX12_pushed 162 = .ok (.getfield 81, 3) := by decide +kernel
theorem dX12_pushed_165 : decode cX12_pushed 165 = .ok (.iload_n 2, 1) := by decide +kernel
theorem dX12_pushed_166 : decode cX12_pushed 166 = .ok (.iaload, 1) := by decide +kernel
theorem dX12_pushed_167 : decode cX12_pushed 167 = .ok (.invokevirtual 295, 3) := by decide +kernel
theorem dX12_pushed_170 : decode cX12_pushed 170 = .ok (.iconst 0, 1) := by decide +kernel
theorem dX12_pushed_171 : decode cX12_pushed 171 = .ok (.invokevirtual 295, 3) := by decide +kernel
theorem dX12_pushed_174 : decode cX12_pushed 174 = .ok (.ireturn, 1) := by decide +kernel
theorem dX12_pushed_175 : decode cX12_pushed 175 = .ok (.aload_n 0, 1) := by decide +kernel
theorem dX12_pushed_176 : decode cX12_pushed 176 = .ok (.iload_n 1, 1) := by decide +kernel
theorem dX12_pushed_177 : decode cX12_pushed 177 = .ok (.aload_n 0, 1) := by decide +kernel
theorem dX12_pushed_178 : decode cX12_pushed 178 = .ok (.getfield 75, 3) := by decide +kernel
theorem dX12_pushed_181 : decode cX12_pushed 181 = .ok (.iload_n 2, 1) := by decide +kernel
theorem dX12_pushed_182 : decode cX12_pushed 182 = .ok (.iaload, 1) := by decide +kernel
theorem dX12_pushed_183 : decode cX12_pushed 183 = .ok (.invokevirtual 301, 3) := by decide +kernel
theorem dX12_pushed_186 : decode cX12_pushed 186 = .ok (.istore_n 3, 1) := by decide +kernel
theorem dX12_pushed_187 : decode cX12_pushed 187 = .ok (.aload_n 0, 1) := by decide +kernel
theorem dX12_pushed_188 : decode cX12_pushed 188 = .ok (.aload_n 0, 1) := by decide +kernel
theorem dX12_pushed_189 : decode cX12_pushed 189 = .ok (.getfield 72, 3) := by decide +kernel
theorem dX12_pushed_192 : decode cX12_pushed 192 = .ok (.iload_n 2, 1) := by decide +kernel
theorem dX12_pushed_193 : decode cX12_pushed 193 = .ok (.iaload, 1) := by decide +kernel
theorem dX12_pushed_194 : decode cX12_pushed 194 = .ok (.iload_n 3, 1) := by decide +kernel
theorem dX12_pushed_195 : decode cX12_pushed 195 = .ok (.aload_n 0, 1) := by decide +kernel
theorem dX12_pushed_196 : decode cX12_pushed 196 = .ok (.iload_n 1, 1) := by decide +kernel
theorem dX12_pushed_197 : decode cX12_pushed 197 = .ok (.aload_n 0, 1) := by decide +kernel
theorem dX12_pushed_198 : decode cX12_pushed 198 = .ok (.getfield 78, 3) := by decide +kernel
theorem dX12_pushed_201 : decode cX12_pushed 201 = .ok (.iload_n 2, 1) := by decide +kernel
theorem dX12_pushed_202 : decode cX12_pushed 202 = .ok (.iaload, 1) := by decide +kernel
theorem dX12_pushed_203 : decode cX12_pushed 203 = .ok (.invokevirtual 301, 3) := by decide +kernel
theorem dX12_pushed_206 : decode cX12_pushed 206 = .ok (.iconst 0, 1) := by decide +kernel
theorem dX12_pushed_207 : decode cX12_pushed 207 = .ok (.invokevirtual 295, 3) := by decide +kernel
theorem dX12_pushed_210 : decode cX12_pushed 210 = .ok (.ireturn, 1) := by decide +kernel
theorem dX12_pushed_211 : decode cX12_pushed 211 = .ok (.aload_n 0, 1) := by decide +kernel
theorem dX12_pushed_212 : decode cX12_pushed 212 = .ok (.bipush 11, 2) := by decide +kernel
theorem dX12_pushed_214 : decode cX12_pushed 214 = .ok (.iload_n 1, 1) := by decide +kernel
theorem dX12_pushed_215 : decode cX12_pushed 215 = .ok (.iload_n 2, 1) := by decide +kernel
theorem dX12_pushed_216 : decode cX12_pushed 216 = .ok (.iconst 0, 1) := by decide +kernel
theorem dX12_pushed_217 : decode cX12_pushed 217 = .ok (.invokevirtual 295, 3) := by decide +kernel
theorem dX12_pushed_220 : decode cX12_pushed 220 = .ok (.ireturn, 1) := by decide +kernel
def f_X12_reduced_81 (F P : Nat) (S : xSt) (self_X12_reduced : Nat → Int32 → xDt → Option (Int32 × xDt)) (self_X12_pushed : Nat → Int32 → Int32 → xDt → Option (Int32 × xDt)) (v0 : Nat) (v1 : Int32) (v2 : Int32) (v3 : Int32) (s0 : Int32) (D : xDt) : Option (Int32 × xDt) :=
  if v2 = 14 then ((self_X12_pushed v0 v3 s0 D).bind fun q7 => some (q7.1, q7.2)) else (if v2 = 15 then ((self_X12_pushed v0 v3 s0 D).bind fun q3 => (f_X12_made F P S v0 4 q3.1 (-2) 0 q3.2).bind fun q4 => (f_X12_made F P S v0 11 v3 q4.1 0 q4.2).bind fun q5 => (f_X12_made F P S v0 4 q5.1 (-2) 0 q5.2).bind fun q6 => some (q6.1, q6.2)) else (xgrd (xin v1 (xl S (xr S v0 11))) ((f_X12_made F P S v0 v2 v3 s0 (D.1 (xr S v0 11) (v1).toNatClampNeg) D).bind fun q2 => some (q2.1, q2.2))))
set_option maxHeartbeats 4000000 in
theorem t_X12_reduced_81 {F P : Nat} {S : xSt} (hS : xWF S) {hh : Nat} (hhc : 2 ≤ hh) {self_X12_reduced : Nat → Int32 → xDt → Option (Int32 × xDt)} (hself_X12_reduced : ∀ {v0 : Nat} {v1 : Int32} {D : xDt} {r : Int32 × xDt}, xK S v0 12 → self_X12_reduced v0 v1 D = some r → xSp md_X12_reduced (hh, 0, 0) [.ref v0, .int v1] (S, D) (xQi S r)) {self_X12_pushed : Nat → Int32 → Int32 → xDt → Option (Int32 × xDt)} (hself_X12_pushed : ∀ {v0 : Nat} {v1 : Int32} {v2 : Int32} {D : xDt} {r : Int32 × xDt}, xK S v0 12 → self_X12_pushed v0 v1 v2 D = some r → xSp md_X12_pushed (hh, 0, 0) [.ref v0, .int v1, .int v2] (S, D) (xQi S r)) {v0 : Nat} {v1 : Int32} {v2 : Int32} {v3 : Int32} {s0 : Int32} {D : xDt} {r : Int32 × xDt} (k0 : xK S v0 12) (h : f_X12_reduced_81 F P S self_X12_reduced self_X12_pushed v0 v1 v2 v3 s0 D = some r) : yEx md_X12_reduced (hh + 1) 81 [(0, .ref v0), (1, .int v1), (2, .int v2), (3, .int v3)] [.int s0] S D (xQi S r) := by
  unfold f_X12_reduced_81 at h
  refine y_istore s0 rfl [(4, .int s0), (0, .ref v0), (1, .int v1), (2, .int v2), (3, .int v3)] dX12_reduced_81 (by show _ < 5; decide) rfl ?_
  refine x_iload_n dX12_reduced_83 3 rfl ?_
  refine x_bipush 14 dX12_reduced_84 (by decide) ?_
  refine x_icmp_ne 97 dX12_reduced_86 (by decide) (fun c => ?_) (fun c => ?_)
  · rw [if_neg c] at h
    refine x_iload_n dX12_reduced_97 3 rfl ?_
    refine x_bipush 15 dX12_reduced_98 (by decide) ?_
    refine x_icmp_ne 135 dX12_reduced_100 (by decide) (fun c => ?_) (fun c => ?_)
    · rw [if_neg c] at h
      refine x_aload_n dX12_reduced_135 1 rfl ?_
      refine x_iload_n dX12_reduced_136 3 rfl ?_
      refine x_iload_n dX12_reduced_137 4 rfl ?_
      refine x_iload dX12_reduced_138 0 rfl ?_
      refine x_aload_n dX12_reduced_140 1 rfl ?_
      refine y_getr (kd := 100) hS fl_RX12_81 dX12_reduced_141 rfl k0 ?_
      refine x_iload_n dX12_reduced_144 2 rfl ?_
      refine xgrd_e h (fun g1 h => ?_)
      refine y_iald dX12_reduced_145 ((hS.f k0 11 100 rfl).2) g1 ?_
      refine xbnd_e h (fun q2 e2 h => ?_)
      refine y_callVi (As := [.int v2, .int v3, .int s0, .int (D.1 (xr S v0 11) (v1).toNatClampNeg)]) (q := q2) cv_RX12_295 dX12_reduced_146 k0 rfl (Nat.le_of_ble_eq_true rfl) (by omega) (S_X12_made hS k0 e2) ?_
      obtain rfl := Option.some.inj h
      exact y_iret rfl dX12_reduced_149
    · rw [if_pos c] at h
      refine x_aload_n dX12_reduced_103 1 rfl ?_
      refine x_iconst 4 dX12_reduced_104 (by decide) ?_
      refine x_aload_n dX12_reduced_105 1 rfl ?_
      refine x_bipush 11 dX12_reduced_106 (by decide) ?_
      refine x_iload_n dX12_reduced_108 4 rfl ?_
      refine x_aload_n dX12_reduced_109 1 rfl ?_
      refine x_iconst 4 dX12_reduced_110 (by decide) ?_
      refine x_aload_n dX12_reduced_111 1 rfl ?_
      refine x_iload_n dX12_reduced_112 4 rfl ?_
      refine x_iload dX12_reduced_113 0 rfl ?_
      refine xbnd_e h (fun q3 e3 h => ?_)
      refine y_callVi (As := [.int v3, .int s0]) (q := q3) cv_RX12_301 dX12_reduced_115 k0 rfl (Nat.le_of_ble_eq_true rfl) (by omega) (hself_X12_pushed k0 e3) ?_
      refine x_bipush (-2) dX12_reduced_118 (by decide) ?_
      refine x_iconst 0 dX12_reduced_120 (by decide) ?_
      refine xbnd_e h (fun q4 e4 h => ?_)
      refine y_callVi (As := [.int 4, .int q3.1, .int (-2), .int 0]) (q := q4) cv_RX12_295 dX12_reduced_121 k0 rfl (Nat.le_of_ble_eq_true rfl) (by omega) (S_X12_made hS k0 e4) ?_
      refine x_iconst 0 dX12_reduced_124 (by decide) ?_
      refine xbnd_e h (fun q5 e5 h => ?_)
      refine y_callVi (As := [.int 11, .int v3, .int q4.1, .int 0]) (q := q5) cv_RX12_295 dX12_reduced_125 k0 rfl (Nat.le_of_ble_eq_true rfl) (by omega) (S_X12_made hS k0 e5) ?_
      refine x_bipush (-2) dX12_reduced_128 (by decide) ?_
      refine x_iconst 0 dX12_reduced_130 (by decide) ?_
      refine xbnd_e h (fun q6 e6 h => ?_)
      refine y_callVi (As := [.int 4, .int q5.1, .int (-2), .int 0]) (q := q6) cv_RX12_295 dX12_reduced_131 k0 rfl (Nat.le_of_ble_eq_true rfl) (by omega) (S_X12_made hS k0 e6) ?_
      obtain rfl := Option.some.inj h
      exact y_iret rfl dX12_reduced_134
  · rw [if_pos c] at h
    refine x_aload_n dX12_reduced_89 1 rfl ?_
    refine x_iload_n dX12_reduced_90 4 rfl ?_
    refine x_iload dX12_reduced_91 0 rfl ?_
    refine xbnd_e h (fun q7 e7 h => ?_)
    refine y_callVi (As := [.int v3, .int s0]) (q := q7) cv_RX12_301 dX12_reduced_93 k0 rfl (Nat.le_of_ble_eq_true rfl) (by omega) (hself_X12_pushed k0 e7) ?_
    obtain rfl := Option.some.inj h
    exact y_iret rfl dX12_reduced_96

def f_X12_reduced_66 (F P : Nat) (S : xSt) (self_X12_reduced : Nat → Int32 → xDt → Option (Int32 × xDt)) (self_X12_pushed : Nat → Int32 → Int32 → xDt → Option (Int32 × xDt)) (v0 : Nat) (v1 : Int32) (v2 : Int32) (v3 : Int32) (D : xDt) : Option (Int32 × xDt) :=
  f_X12_reduced_81 F P S self_X12_reduced self_X12_pushed v0 v1 v2 v3 (-2) D
set_option maxHeartbeats 4000000 in
theorem t_X12_reduced_66 {F P : Nat} {S : xSt} (hS : xWF S) {hh : Nat} (hhc : 2 ≤ hh) {self_X12_reduced : Nat → Int32 → xDt → Option (Int32 × xDt)} (hself_X12_reduced : ∀ {v0 : Nat} {v1 : Int32} {D : xDt} {r : Int32 × xDt}, xK S v0 12 → self_X12_reduced v0 v1 D = some r → xSp md_X12_reduced (hh, 0, 0) [.ref v0, .int v1] (S, D) (xQi S r)) {self_X12_pushed : Nat → Int32 → Int32 → xDt → Option (Int32 × xDt)} (hself_X12_pushed : ∀ {v0 : Nat} {v1 : Int32} {v2 : Int32} {D : xDt} {r : Int32 × xDt}, xK S v0 12 → self_X12_pushed v0 v1 v2 D = some r → xSp md_X12_pushed (hh, 0, 0) [.ref v0, .int v1, .int v2] (S, D) (xQi S r)) {v0 : Nat} {v1 : Int32} {v2 : Int32} {v3 : Int32} {D : xDt} {r : Int32 × xDt} (k0 : xK S v0 12) (h : f_X12_reduced_66 F P S self_X12_reduced self_X12_pushed v0 v1 v2 v3 D = some r) : yEx md_X12_reduced (hh + 1) 66 [(0, .ref v0), (1, .int v1), (2, .int v2), (3, .int v3)] [] S D (xQi S r) := by
  unfold f_X12_reduced_66 at h
  refine x_bipush (-2) dX12_reduced_66 (by decide) ?_
  refine x_goto 81 dX12_reduced_68 (by decide) ?_
  exact t_X12_reduced_81 hS hhc hself_X12_reduced hself_X12_pushed k0 h

def f_X12_reduced_o (F P : Nat) (S : xSt) (self_X12_reduced : Nat → Int32 → xDt → Option (Int32 × xDt)) (self_X12_pushed : Nat → Int32 → Int32 → xDt → Option (Int32 × xDt)) (v0 : Nat) (v1 : Int32) (D : xDt) : Option (Int32 × xDt) :=
  if (D.1 v0 36) = 0 then (xgrd (xin v1 (xl S (xr S v0 8))) (xlet (D.1 (xr S v0 8) (v1).toNatClampNeg) fun v2_2 => if 4 ≤ v2_2 then (xgrd (xin v1 (xl S (xr S v0 9))) ((self_X12_reduced v0 (D.1 (xr S v0 9) (v1).toNatClampNeg) D).bind fun q4 => xgrd (xin v1 (xl S (xr S v0 10))) (if (q4.2.1 (xr S v0 10) (v1).toNatClampNeg) < 0 then (f_X12_reduced_66 F P S self_X12_reduced self_X12_pushed v0 v1 v2_2 q4.1 q4.2) else (if (q4.2.1 v0 36) = 0 then (xgrd (xin v1 (xl S (xr S v0 10))) ((self_X12_reduced v0 (q4.2.1 (xr S v0 10) (v1).toNatClampNeg) q4.2).bind fun q7 => f_X12_reduced_81 F P S self_X12_reduced self_X12_pushed v0 v1 v2_2 q4.1 q7.1 q7.2)) else (f_X12_reduced_66 F P S self_X12_reduced self_X12_pushed v0 v1 v2_2 q4.1 q4.2))))) else (xgrd (xin v1 (xl S (xr S v0 11))) ((f_X12_made F P S v0 v2_2 (-2) (-2) (D.1 (xr S v0 11) (v1).toNatClampNeg) D).bind fun q9 => some (q9.1, q9.2))))) else (some (12800, D))
set_option maxHeartbeats 4000000 in
theorem S_X12_reduced_o {F P : Nat} {S : xSt} (hS : xWF S) {hh : Nat} (hhc : 2 ≤ hh) {self_X12_reduced : Nat → Int32 → xDt → Option (Int32 × xDt)} (hself_X12_reduced : ∀ {v0 : Nat} {v1 : Int32} {D : xDt} {r : Int32 × xDt}, xK S v0 12 → self_X12_reduced v0 v1 D = some r → xSp md_X12_reduced (hh, 0, 0) [.ref v0, .int v1] (S, D) (xQi S r)) {self_X12_pushed : Nat → Int32 → Int32 → xDt → Option (Int32 × xDt)} (hself_X12_pushed : ∀ {v0 : Nat} {v1 : Int32} {v2 : Int32} {D : xDt} {r : Int32 × xDt}, xK S v0 12 → self_X12_pushed v0 v1 v2 D = some r → xSp md_X12_pushed (hh, 0, 0) [.ref v0, .int v1, .int v2] (S, D) (xQi S r)) {v0 : Nat} {v1 : Int32} {D : xDt} {r : Int32 × xDt} (k0 : xK S v0 12) (h : f_X12_reduced_o F P S self_X12_reduced self_X12_pushed v0 v1 D = some r) : xSp md_X12_reduced ((hh + 1), 0, 0) [.ref v0, .int v1] (S, D) (xQi S r) := by
  unfold f_X12_reduced_o at h
  refine xEntry (by decide) (Nat.le_of_ble_eq_true rfl) ?_
  refine x_lv (lv' := [(0, .ref v0), (1, .int v1)]) [0, 1] rfl ?_
  refine x_aload_n dX12_reduced_0 0 rfl ?_
  refine y_geti fl_RX12_291 dX12_reduced_1 rfl k0 ?_
  refine x_if_eq 11 dX12_reduced_4 (by decide) (fun c => ?_) (fun c => ?_)
  · rw [if_pos c] at h
    refine x_aload_n dX12_reduced_11 0 rfl ?_
    refine y_getr (kd := 100) hS fl_RX12_72 dX12_reduced_12 rfl k0 ?_
    refine x_iload_n dX12_reduced_15 1 rfl ?_
    refine xgrd_e h (fun g1 h => ?_)
    refine y_iald dX12_reduced_16 ((hS.f k0 8 100 rfl).2) g1 ?_
    refine xlet_e h (fun v2_2 ev2_2 h => ?_)
    refine y_istore_n v2_2 ev2_2 [(2, .int v2_2), (0, .ref v0), (1, .int v1)] dX12_reduced_17 (by show _ < 5; decide) rfl ?_
    refine x_iload_n dX12_reduced_18 0 rfl ?_
    refine x_iconst 4 dX12_reduced_19 (by decide) ?_
    refine x_icmp_ge 39 dX12_reduced_20 (by decide) (fun c => ?_) (fun c => ?_)
    · rw [if_pos c] at h
      refine x_aload_n dX12_reduced_39 1 rfl ?_
      refine x_aload_n dX12_reduced_40 1 rfl ?_
      refine y_getr (kd := 100) hS fl_RX12_75 dX12_reduced_41 rfl k0 ?_
      refine x_iload_n dX12_reduced_44 2 rfl ?_
      refine xgrd_e h (fun g3 h => ?_)
      refine y_iald dX12_reduced_45 ((hS.f k0 9 100 rfl).2) g3 ?_
      refine xbnd_e h (fun q4 e4 h => ?_)
      refine y_callVi (As := [.int (D.1 (xr S v0 9) (v1).toNatClampNeg)]) (q := q4) cv_RX12_298 dX12_reduced_46 k0 rfl (Nat.le_of_ble_eq_true rfl) (by omega) (hself_X12_reduced k0 e4) ?_
      refine y_istore_n q4.1 rfl [(3, .int q4.1), (2, .int v2_2), (0, .ref v0), (1, .int v1)] dX12_reduced_49 (by show _ < 5; decide) rfl ?_
      refine x_aload_n dX12_reduced_50 2 rfl ?_
      refine y_getr (kd := 100) hS fl_RX12_78 dX12_reduced_51 rfl k0 ?_
      refine x_iload_n dX12_reduced_54 3 rfl ?_
      refine xgrd_e h (fun g5 h => ?_)
      refine y_iald dX12_reduced_55 ((hS.f k0 10 100 rfl).2) g5 ?_
      refine x_if_lt 66 dX12_reduced_56 (by decide) (fun c => ?_) (fun c => ?_)
      · rw [if_pos c] at h
        refine x_lv (lv' := [(0, .ref v0), (1, .int v1), (2, .int v2_2), (3, .int q4.1)]) [2, 3, 1, 0] rfl ?_
        exact t_X12_reduced_66 hS hhc hself_X12_reduced hself_X12_pushed k0 h
      · rw [if_neg c] at h
        refine x_aload_n dX12_reduced_59 2 rfl ?_
        refine y_geti fl_RX12_291 dX12_reduced_60 rfl k0 ?_
        refine x_if_eq 71 dX12_reduced_63 (by decide) (fun c => ?_) (fun c => ?_)
        · rw [if_pos c] at h
          refine x_aload_n dX12_reduced_71 2 rfl ?_
          refine x_aload_n dX12_reduced_72 2 rfl ?_
          refine y_getr (kd := 100) hS fl_RX12_78 dX12_reduced_73 rfl k0 ?_
          refine x_iload_n dX12_reduced_76 3 rfl ?_
          refine xgrd_e h (fun g6 h => ?_)
          refine y_iald dX12_reduced_77 ((hS.f k0 10 100 rfl).2) g6 ?_
          refine xbnd_e h (fun q7 e7 h => ?_)
          refine y_callVi (As := [.int (q4.2.1 (xr S v0 10) (v1).toNatClampNeg)]) (q := q7) cv_RX12_298 dX12_reduced_78 k0 rfl (Nat.le_of_ble_eq_true rfl) (by omega) (hself_X12_reduced k0 e7) ?_
          refine x_lv (lv' := [(0, .ref v0), (1, .int v1), (2, .int v2_2), (3, .int q4.1)]) [2, 3, 1, 0] rfl ?_
          exact t_X12_reduced_81 hS hhc hself_X12_reduced hself_X12_pushed k0 h
        · rw [if_neg c] at h
          refine x_lv (lv' := [(0, .ref v0), (1, .int v1), (2, .int v2_2), (3, .int q4.1)]) [2, 3, 1, 0] rfl ?_
          exact t_X12_reduced_66 hS hhc hself_X12_reduced hself_X12_pushed k0 h
    · rw [if_neg c] at h
      refine x_aload_n dX12_reduced_23 1 rfl ?_
      refine x_iload_n dX12_reduced_24 0 rfl ?_
      refine x_bipush (-2) dX12_reduced_25 (by decide) ?_
      refine x_bipush (-2) dX12_reduced_27 (by decide) ?_
      refine x_aload_n dX12_reduced_29 1 rfl ?_
      refine y_getr (kd := 100) hS fl_RX12_81 dX12_reduced_30 rfl k0 ?_
      refine x_iload_n dX12_reduced_33 2 rfl ?_
      refine xgrd_e h (fun g8 h => ?_)
      refine y_iald dX12_reduced_34 ((hS.f k0 11 100 rfl).2) g8 ?_
      refine xbnd_e h (fun q9 e9 h => ?_)
      refine y_callVi (As := [.int v2_2, .int (-2), .int (-2), .int (D.1 (xr S v0 11) (v1).toNatClampNeg)]) (q := q9) cv_RX12_295 dX12_reduced_35 k0 rfl (Nat.le_of_ble_eq_true rfl) (by omega) (S_X12_made hS k0 e9) ?_
      obtain rfl := Option.some.inj h
      exact y_iret rfl dX12_reduced_38
  · rw [if_neg c] at h
    refine x_sipush 12800 dX12_reduced_7 (by decide) ?_
    obtain rfl := Option.some.inj h
    exact y_iret rfl dX12_reduced_10

def f_X12_pushed_o (F P : Nat) (S : xSt) (self_X12_pushed : Nat → Int32 → Int32 → xDt → Option (Int32 × xDt)) (v0 : Nat) (v1 : Int32) (v2 : Int32) (D : xDt) : Option (Int32 × xDt) :=
  if (D.1 v0 36) = 0 then (xgrd (xin v2 (xl S (xr S v0 8))) (if (D.1 (xr S v0 8) (v2).toNatClampNeg) = 4 then (xgrd (xin v2 (xl S (xr S v0 9))) ((self_X12_pushed v0 v1 (D.1 (xr S v0 9) (v2).toNatClampNeg) D).bind fun q3 => (f_X12_made F P S v0 4 q3.1 (-2) 0 q3.2).bind fun q4 => (f_X12_made F P S v0 11 v1 q4.1 0 q4.2).bind fun q5 => some (q5.1, q5.2))) else (if (D.1 (xr S v0 8) (v2).toNatClampNeg) = 5 then (xgrd (xin v2 (xl S (xr S v0 9))) ((self_X12_pushed v0 v1 (D.1 (xr S v0 9) (v2).toNatClampNeg) D).bind fun q7 => xgrd (xin v2 (xl S (xr S v0 11))) ((f_X12_made F P S v0 5 q7.1 (-2) (q7.2.1 (xr S v0 11) (v2).toNatClampNeg) q7.2).bind fun q9 => (f_X12_made F P S v0 11 v1 q9.1 0 q9.2).bind fun q10 => some (q10.1, q10.2)))) else (if (D.1 (xr S v0 8) (v2).toNatClampNeg) = 6 then (xgrd (xin v2 (xl S (xr S v0 9))) ((self_X12_pushed v0 v1 (D.1 (xr S v0 9) (v2).toNatClampNeg) D).bind fun q12 => (f_X12_made F P S v0 13 v1 q12.1 0 q12.2).bind fun q13 => xgrd (xin v2 (xl S (xr S v0 11))) ((f_X12_made F P S v0 6 q13.1 (-2) (q13.2.1 (xr S v0 11) (v2).toNatClampNeg) q13.2).bind fun q15 => (f_X12_made F P S v0 11 v1 q15.1 0 q15.2).bind fun q16 => some (q16.1, q16.2)))) else (if (D.1 (xr S v0 8) (v2).toNatClampNeg) = 7 then ((f_X12_made F P S v0 11 v1 v2 0 D).bind fun q17 => some (q17.1, q17.2)) else (if (D.1 (xr S v0 8) (v2).toNatClampNeg) = 8 then ((f_X12_made F P S v0 11 v1 v2 0 D).bind fun q18 => some (q18.1, q18.2)) else (if (D.1 (xr S v0 8) (v2).toNatClampNeg) = 9 then ((f_X12_made F P S v0 11 v1 v2 0 D).bind fun q19 => some (q19.1, q19.2)) else (if (D.1 (xr S v0 8) (v2).toNatClampNeg) = 10 then (xgrd (xin v2 (xl S (xr S v0 9))) ((self_X12_pushed v0 v1 (D.1 (xr S v0 9) (v2).toNatClampNeg) D).bind fun q21 => xgrd (xin v2 (xl S (xr S v0 8))) (xgrd (xin v2 (xl S (xr S v0 10))) ((self_X12_pushed v0 v1 (q21.2.1 (xr S v0 10) (v2).toNatClampNeg) q21.2).bind fun q24 => (f_X12_made F P S v0 (q21.2.1 (xr S v0 8) (v2).toNatClampNeg) q21.1 q24.1 0 q24.2).bind fun q25 => some (q25.1, q25.2))))) else (if (D.1 (xr S v0 8) (v2).toNatClampNeg) = 11 then (xgrd (xin v2 (xl S (xr S v0 9))) ((self_X12_pushed v0 v1 (D.1 (xr S v0 9) (v2).toNatClampNeg) D).bind fun q27 => xgrd (xin v2 (xl S (xr S v0 8))) (xgrd (xin v2 (xl S (xr S v0 10))) ((self_X12_pushed v0 v1 (q27.2.1 (xr S v0 10) (v2).toNatClampNeg) q27.2).bind fun q30 => (f_X12_made F P S v0 (q27.2.1 (xr S v0 8) (v2).toNatClampNeg) q27.1 q30.1 0 q30.2).bind fun q31 => some (q31.1, q31.2))))) else (if (D.1 (xr S v0 8) (v2).toNatClampNeg) = 12 then (xgrd (xin v2 (xl S (xr S v0 9))) ((self_X12_pushed v0 v1 (D.1 (xr S v0 9) (v2).toNatClampNeg) D).bind fun q33 => xgrd (xin v2 (xl S (xr S v0 8))) (xgrd (xin v2 (xl S (xr S v0 10))) ((self_X12_pushed v0 v1 (q33.2.1 (xr S v0 10) (v2).toNatClampNeg) q33.2).bind fun q36 => (f_X12_made F P S v0 (q33.2.1 (xr S v0 8) (v2).toNatClampNeg) q33.1 q36.1 0 q36.2).bind fun q37 => some (q37.1, q37.2))))) else (if (D.1 (xr S v0 8) (v2).toNatClampNeg) = 13 then (xgrd (xin v2 (xl S (xr S v0 9))) ((self_X12_pushed v0 v1 (D.1 (xr S v0 9) (v2).toNatClampNeg) D).bind fun q39 => xgrd (xin v2 (xl S (xr S v0 8))) (xgrd (xin v2 (xl S (xr S v0 10))) ((self_X12_pushed v0 v1 (q39.2.1 (xr S v0 10) (v2).toNatClampNeg) q39.2).bind fun q42 => (f_X12_made F P S v0 (q39.2.1 (xr S v0 8) (v2).toNatClampNeg) q39.1 q42.1 0 q42.2).bind fun q43 => some (q43.1, q43.2))))) else ((f_X12_made F P S v0 11 v1 v2 0 D).bind fun q44 => some (q44.1, q44.2))))))))))))) else (some (12800, D))
set_option maxHeartbeats 4000000 in
theorem S_X12_pushed_o {F P : Nat} {S : xSt} (hS : xWF S) {hh : Nat} (hhc : 2 ≤ hh) {self_X12_pushed : Nat → Int32 → Int32 → xDt → Option (Int32 × xDt)} (hself_X12_pushed : ∀ {v0 : Nat} {v1 : Int32} {v2 : Int32} {D : xDt} {r : Int32 × xDt}, xK S v0 12 → self_X12_pushed v0 v1 v2 D = some r → xSp md_X12_pushed (hh, 0, 0) [.ref v0, .int v1, .int v2] (S, D) (xQi S r)) {v0 : Nat} {v1 : Int32} {v2 : Int32} {D : xDt} {r : Int32 × xDt} (k0 : xK S v0 12) (h : f_X12_pushed_o F P S self_X12_pushed v0 v1 v2 D = some r) : xSp md_X12_pushed ((hh + 1), 0, 0) [.ref v0, .int v1, .int v2] (S, D) (xQi S r) := by
  unfold f_X12_pushed_o at h
  refine xEntry (by decide) (Nat.le_of_ble_eq_true rfl) ?_
  refine x_lv (lv' := [(0, .ref v0), (1, .int v1), (2, .int v2)]) [0, 1, 2] rfl ?_
  refine x_aload_n dX12_pushed_0 0 rfl ?_
  refine y_geti fl_RX12_291 dX12_pushed_1 rfl k0 ?_
  refine x_if_eq 11 dX12_pushed_4 (by decide) (fun c => ?_) (fun c => ?_)
  · rw [if_pos c] at h
    refine x_aload_n dX12_pushed_11 0 rfl ?_
    refine y_getr (kd := 100) hS fl_RX12_72 dX12_pushed_12 rfl k0 ?_
    refine x_iload_n dX12_pushed_15 2 rfl ?_
    refine xgrd_e h (fun g1 h => ?_)
    refine y_iald dX12_pushed_16 ((hS.f k0 8 100 rfl).2) g1 ?_
    by_cases c0 : (D.1 (xr S v0 8) (v2).toNatClampNeg) = 4
    · rw [if_pos c0] at h
      refine x_tsIn 4 72 c0 dX12_pushed_17 (by decide) (by decide) rfl (by decide) ?_
      refine x_aload_n dX12_pushed_72 0 rfl ?_
      refine x_bipush 11 dX12_pushed_73 (by decide) ?_
      refine x_iload_n dX12_pushed_75 1 rfl ?_
      refine x_aload_n dX12_pushed_76 0 rfl ?_
      refine x_iconst 4 dX12_pushed_77 (by decide) ?_
      refine x_aload_n dX12_pushed_78 0 rfl ?_
      refine x_iload_n dX12_pushed_79 1 rfl ?_
      refine x_aload_n dX12_pushed_80 0 rfl ?_
      refine y_getr (kd := 100) hS fl_RX12_75 dX12_pushed_81 rfl k0 ?_
      refine x_iload_n dX12_pushed_84 2 rfl ?_
      refine xgrd_e h (fun g2 h => ?_)
      refine y_iald dX12_pushed_85 ((hS.f k0 9 100 rfl).2) g2 ?_
      refine xbnd_e h (fun q3 e3 h => ?_)
      refine y_callVi (As := [.int v1, .int (D.1 (xr S v0 9) (v2).toNatClampNeg)]) (q := q3) cv_RX12_301 dX12_pushed_86 k0 rfl (Nat.le_of_ble_eq_true rfl) (by omega) (hself_X12_pushed k0 e3) ?_
      refine x_bipush (-2) dX12_pushed_89 (by decide) ?_
      refine x_iconst 0 dX12_pushed_91 (by decide) ?_
      refine xbnd_e h (fun q4 e4 h => ?_)
      refine y_callVi (As := [.int 4, .int q3.1, .int (-2), .int 0]) (q := q4) cv_RX12_295 dX12_pushed_92 k0 rfl (Nat.le_of_ble_eq_true rfl) (by omega) (S_X12_made hS k0 e4) ?_
      refine x_iconst 0 dX12_pushed_95 (by decide) ?_
      refine xbnd_e h (fun q5 e5 h => ?_)
      refine y_callVi (As := [.int 11, .int v1, .int q4.1, .int 0]) (q := q5) cv_RX12_295 dX12_pushed_96 k0 rfl (Nat.le_of_ble_eq_true rfl) (by omega) (S_X12_made hS k0 e5) ?_
      obtain rfl := Option.some.inj h
      exact y_iret rfl dX12_pushed_99
    · rw [if_neg c0] at h
      by_cases c1 : (D.1 (xr S v0 8) (v2).toNatClampNeg) = 5
      · rw [if_pos c1] at h
        refine x_tsIn 5 100 c1 dX12_pushed_17 (by decide) (by decide) rfl (by decide) ?_
        refine x_aload_n dX12_pushed_100 0 rfl ?_
        refine x_bipush 11 dX12_pushed_101 (by decide) ?_
        refine x_iload_n dX12_pushed_103 1 rfl ?_
        refine x_aload_n dX12_pushed_104 0 rfl ?_
        refine x_iconst 5 dX12_pushed_105 (by decide) ?_
        refine x_aload_n dX12_pushed_106 0 rfl ?_
        refine x_iload_n dX12_pushed_107 1 rfl ?_
        refine x_aload_n dX12_pushed_108 0 rfl ?_
        refine y_getr (kd := 100) hS fl_RX12_75 dX12_pushed_109 rfl k0 ?_
        refine x_iload_n dX12_pushed_112 2 rfl ?_
        refine xgrd_e h (fun g6 h => ?_)
        refine y_iald dX12_pushed_113 ((hS.f k0 9 100 rfl).2) g6 ?_
        refine xbnd_e h (fun q7 e7 h => ?_)
        refine y_callVi (As := [.int v1, .int (D.1 (xr S v0 9) (v2).toNatClampNeg)]) (q := q7) cv_RX12_301 dX12_pushed_114 k0 rfl (Nat.le_of_ble_eq_true rfl) (by omega) (hself_X12_pushed k0 e7) ?_
        refine x_bipush (-2) dX12_pushed_117 (by decide) ?_
        refine x_aload_n dX12_pushed_119 0 rfl ?_
        refine y_getr (kd := 100) hS fl_RX12_81 dX12_pushed_120 rfl k0 ?_
        refine x_iload_n dX12_pushed_123 2 rfl ?_
        refine xgrd_e h (fun g8 h => ?_)
        refine y_iald dX12_pushed_124 ((hS.f k0 11 100 rfl).2) g8 ?_
        refine xbnd_e h (fun q9 e9 h => ?_)
        refine y_callVi (As := [.int 5, .int q7.1, .int (-2), .int (q7.2.1 (xr S v0 11) (v2).toNatClampNeg)]) (q := q9) cv_RX12_295 dX12_pushed_125 k0 rfl (Nat.le_of_ble_eq_true rfl) (by omega) (S_X12_made hS k0 e9) ?_
        refine x_iconst 0 dX12_pushed_128 (by decide) ?_
        refine xbnd_e h (fun q10 e10 h => ?_)
        refine y_callVi (As := [.int 11, .int v1, .int q9.1, .int 0]) (q := q10) cv_RX12_295 dX12_pushed_129 k0 rfl (Nat.le_of_ble_eq_true rfl) (by omega) (S_X12_made hS k0 e10) ?_
        obtain rfl := Option.some.inj h
        exact y_iret rfl dX12_pushed_132
      · rw [if_neg c1] at h
        by_cases c2 : (D.1 (xr S v0 8) (v2).toNatClampNeg) = 6
        · rw [if_pos c2] at h
          refine x_tsIn 6 133 c2 dX12_pushed_17 (by decide) (by decide) rfl (by decide) ?_
          refine x_aload_n dX12_pushed_133 0 rfl ?_
          refine x_bipush 11 dX12_pushed_134 (by decide) ?_
          refine x_iload_n dX12_pushed_136 1 rfl ?_
          refine x_aload_n dX12_pushed_137 0 rfl ?_
          refine x_bipush 6 dX12_pushed_138 (by decide) ?_
          refine x_aload_n dX12_pushed_140 0 rfl ?_
          refine x_bipush 13 dX12_pushed_141 (by decide) ?_
          refine x_iload_n dX12_pushed_143 1 rfl ?_
          refine x_aload_n dX12_pushed_144 0 rfl ?_
          refine x_iload_n dX12_pushed_145 1 rfl ?_
          refine x_aload_n dX12_pushed_146 0 rfl ?_
          refine y_getr (kd := 100) hS fl_RX12_75 dX12_pushed_147 rfl k0 ?_
          refine x_iload_n dX12_pushed_150 2 rfl ?_
          refine xgrd_e h (fun g11 h => ?_)
          refine y_iald dX12_pushed_151 ((hS.f k0 9 100 rfl).2) g11 ?_
          refine xbnd_e h (fun q12 e12 h => ?_)
          refine y_callVi (As := [.int v1, .int (D.1 (xr S v0 9) (v2).toNatClampNeg)]) (q := q12) cv_RX12_301 dX12_pushed_152 k0 rfl (Nat.le_of_ble_eq_true rfl) (by omega) (hself_X12_pushed k0 e12) ?_
          refine x_iconst 0 dX12_pushed_155 (by decide) ?_
          refine xbnd_e h (fun q13 e13 h => ?_)
          refine y_callVi (As := [.int 13, .int v1, .int q12.1, .int 0]) (q := q13) cv_RX12_295 dX12_pushed_156 k0 rfl (Nat.le_of_ble_eq_true rfl) (by omega) (S_X12_made hS k0 e13) ?_
          refine x_bipush (-2) dX12_pushed_159 (by decide) ?_
          refine x_aload_n dX12_pushed_161 0 rfl ?_
          refine y_getr (kd := 100) hS fl_RX12_81 dX12_pushed_162 rfl k0 ?_
          refine x_iload_n dX12_pushed_165 2 rfl ?_
          refine xgrd_e h (fun g14 h => ?_)
          refine y_iald dX12_pushed_166 ((hS.f k0 11 100 rfl).2) g14 ?_
          refine xbnd_e h (fun q15 e15 h => ?_)
          refine y_callVi (As := [.int 6, .int q13.1, .int (-2), .int (q13.2.1 (xr S v0 11) (v2).toNatClampNeg)]) (q := q15) cv_RX12_295 dX12_pushed_167 k0 rfl (Nat.le_of_ble_eq_true rfl) (by omega) (S_X12_made hS k0 e15) ?_
          refine x_iconst 0 dX12_pushed_170 (by decide) ?_
          refine xbnd_e h (fun q16 e16 h => ?_)
          refine y_callVi (As := [.int 11, .int v1, .int q15.1, .int 0]) (q := q16) cv_RX12_295 dX12_pushed_171 k0 rfl (Nat.le_of_ble_eq_true rfl) (by omega) (S_X12_made hS k0 e16) ?_
          obtain rfl := Option.some.inj h
          exact y_iret rfl dX12_pushed_174
        · rw [if_neg c2] at h
          by_cases c3 : (D.1 (xr S v0 8) (v2).toNatClampNeg) = 7
          · rw [if_pos c3] at h
            refine x_tsIn 7 211 c3 dX12_pushed_17 (by decide) (by decide) rfl (by decide) ?_
            refine x_aload_n dX12_pushed_211 0 rfl ?_
            refine x_bipush 11 dX12_pushed_212 (by decide) ?_
            refine x_iload_n dX12_pushed_214 1 rfl ?_
            refine x_iload_n dX12_pushed_215 2 rfl ?_
            refine x_iconst 0 dX12_pushed_216 (by decide) ?_
            refine xbnd_e h (fun q17 e17 h => ?_)
            refine y_callVi (As := [.int 11, .int v1, .int v2, .int 0]) (q := q17) cv_RX12_295 dX12_pushed_217 k0 rfl (Nat.le_of_ble_eq_true rfl) (by omega) (S_X12_made hS k0 e17) ?_
            obtain rfl := Option.some.inj h
            exact y_iret rfl dX12_pushed_220
          · rw [if_neg c3] at h
            by_cases c4 : (D.1 (xr S v0 8) (v2).toNatClampNeg) = 8
            · rw [if_pos c4] at h
              refine x_tsIn 8 211 c4 dX12_pushed_17 (by decide) (by decide) rfl (by decide) ?_
              refine x_aload_n dX12_pushed_211 0 rfl ?_
              refine x_bipush 11 dX12_pushed_212 (by decide) ?_
              refine x_iload_n dX12_pushed_214 1 rfl ?_
              refine x_iload_n dX12_pushed_215 2 rfl ?_
              refine x_iconst 0 dX12_pushed_216 (by decide) ?_
              refine xbnd_e h (fun q18 e18 h => ?_)
              refine y_callVi (As := [.int 11, .int v1, .int v2, .int 0]) (q := q18) cv_RX12_295 dX12_pushed_217 k0 rfl (Nat.le_of_ble_eq_true rfl) (by omega) (S_X12_made hS k0 e18) ?_
              obtain rfl := Option.some.inj h
              exact y_iret rfl dX12_pushed_220
            · rw [if_neg c4] at h
              by_cases c5 : (D.1 (xr S v0 8) (v2).toNatClampNeg) = 9
              · rw [if_pos c5] at h
                refine x_tsIn 9 211 c5 dX12_pushed_17 (by decide) (by decide) rfl (by decide) ?_
                refine x_aload_n dX12_pushed_211 0 rfl ?_
                refine x_bipush 11 dX12_pushed_212 (by decide) ?_
                refine x_iload_n dX12_pushed_214 1 rfl ?_
                refine x_iload_n dX12_pushed_215 2 rfl ?_
                refine x_iconst 0 dX12_pushed_216 (by decide) ?_
                refine xbnd_e h (fun q19 e19 h => ?_)
                refine y_callVi (As := [.int 11, .int v1, .int v2, .int 0]) (q := q19) cv_RX12_295 dX12_pushed_217 k0 rfl (Nat.le_of_ble_eq_true rfl) (by omega) (S_X12_made hS k0 e19) ?_
                obtain rfl := Option.some.inj h
                exact y_iret rfl dX12_pushed_220
              · rw [if_neg c5] at h
                by_cases c6 : (D.1 (xr S v0 8) (v2).toNatClampNeg) = 10
                · rw [if_pos c6] at h
                  refine x_tsIn 10 175 c6 dX12_pushed_17 (by decide) (by decide) rfl (by decide) ?_
                  refine x_aload_n dX12_pushed_175 0 rfl ?_
                  refine x_iload_n dX12_pushed_176 1 rfl ?_
                  refine x_aload_n dX12_pushed_177 0 rfl ?_
                  refine y_getr (kd := 100) hS fl_RX12_75 dX12_pushed_178 rfl k0 ?_
                  refine x_iload_n dX12_pushed_181 2 rfl ?_
                  refine xgrd_e h (fun g20 h => ?_)
                  refine y_iald dX12_pushed_182 ((hS.f k0 9 100 rfl).2) g20 ?_
                  refine xbnd_e h (fun q21 e21 h => ?_)
                  refine y_callVi (As := [.int v1, .int (D.1 (xr S v0 9) (v2).toNatClampNeg)]) (q := q21) cv_RX12_301 dX12_pushed_183 k0 rfl (Nat.le_of_ble_eq_true rfl) (by omega) (hself_X12_pushed k0 e21) ?_
                  refine y_istore_n q21.1 rfl [(3, .int q21.1), (0, .ref v0), (1, .int v1), (2, .int v2)] dX12_pushed_186 (by show _ < 4; decide) rfl ?_
                  refine x_aload_n dX12_pushed_187 1 rfl ?_
                  refine x_aload_n dX12_pushed_188 1 rfl ?_
                  refine y_getr (kd := 100) hS fl_RX12_72 dX12_pushed_189 rfl k0 ?_
                  refine x_iload_n dX12_pushed_192 3 rfl ?_
                  refine xgrd_e h (fun g22 h => ?_)
                  refine y_iald dX12_pushed_193 ((hS.f k0 8 100 rfl).2) g22 ?_
                  refine x_iload_n dX12_pushed_194 0 rfl ?_
                  refine x_aload_n dX12_pushed_195 1 rfl ?_
                  refine x_iload_n dX12_pushed_196 2 rfl ?_
                  refine x_aload_n dX12_pushed_197 1 rfl ?_
                  refine y_getr (kd := 100) hS fl_RX12_78 dX12_pushed_198 rfl k0 ?_
                  refine x_iload_n dX12_pushed_201 3 rfl ?_
                  refine xgrd_e h (fun g23 h => ?_)
                  refine y_iald dX12_pushed_202 ((hS.f k0 10 100 rfl).2) g23 ?_
                  refine xbnd_e h (fun q24 e24 h => ?_)
                  refine y_callVi (As := [.int v1, .int (q21.2.1 (xr S v0 10) (v2).toNatClampNeg)]) (q := q24) cv_RX12_301 dX12_pushed_203 k0 rfl (Nat.le_of_ble_eq_true rfl) (by omega) (hself_X12_pushed k0 e24) ?_
                  refine x_iconst 0 dX12_pushed_206 (by decide) ?_
                  refine xbnd_e h (fun q25 e25 h => ?_)
                  refine y_callVi (As := [.int (q21.2.1 (xr S v0 8) (v2).toNatClampNeg), .int q21.1, .int q24.1, .int 0]) (q := q25) cv_RX12_295 dX12_pushed_207 k0 rfl (Nat.le_of_ble_eq_true rfl) (by omega) (S_X12_made hS k0 e25) ?_
                  obtain rfl := Option.some.inj h
                  exact y_iret rfl dX12_pushed_210
                · rw [if_neg c6] at h
                  by_cases c7 : (D.1 (xr S v0 8) (v2).toNatClampNeg) = 11
                  · rw [if_pos c7] at h
                    refine x_tsIn 11 175 c7 dX12_pushed_17 (by decide) (by decide) rfl (by decide) ?_
                    refine x_aload_n dX12_pushed_175 0 rfl ?_
                    refine x_iload_n dX12_pushed_176 1 rfl ?_
                    refine x_aload_n dX12_pushed_177 0 rfl ?_
                    refine y_getr (kd := 100) hS fl_RX12_75 dX12_pushed_178 rfl k0 ?_
                    refine x_iload_n dX12_pushed_181 2 rfl ?_
                    refine xgrd_e h (fun g26 h => ?_)
                    refine y_iald dX12_pushed_182 ((hS.f k0 9 100 rfl).2) g26 ?_
                    refine xbnd_e h (fun q27 e27 h => ?_)
                    refine y_callVi (As := [.int v1, .int (D.1 (xr S v0 9) (v2).toNatClampNeg)]) (q := q27) cv_RX12_301 dX12_pushed_183 k0 rfl (Nat.le_of_ble_eq_true rfl) (by omega) (hself_X12_pushed k0 e27) ?_
                    refine y_istore_n q27.1 rfl [(3, .int q27.1), (0, .ref v0), (1, .int v1), (2, .int v2)] dX12_pushed_186 (by show _ < 4; decide) rfl ?_
                    refine x_aload_n dX12_pushed_187 1 rfl ?_
                    refine x_aload_n dX12_pushed_188 1 rfl ?_
                    refine y_getr (kd := 100) hS fl_RX12_72 dX12_pushed_189 rfl k0 ?_
                    refine x_iload_n dX12_pushed_192 3 rfl ?_
                    refine xgrd_e h (fun g28 h => ?_)
                    refine y_iald dX12_pushed_193 ((hS.f k0 8 100 rfl).2) g28 ?_
                    refine x_iload_n dX12_pushed_194 0 rfl ?_
                    refine x_aload_n dX12_pushed_195 1 rfl ?_
                    refine x_iload_n dX12_pushed_196 2 rfl ?_
                    refine x_aload_n dX12_pushed_197 1 rfl ?_
                    refine y_getr (kd := 100) hS fl_RX12_78 dX12_pushed_198 rfl k0 ?_
                    refine x_iload_n dX12_pushed_201 3 rfl ?_
                    refine xgrd_e h (fun g29 h => ?_)
                    refine y_iald dX12_pushed_202 ((hS.f k0 10 100 rfl).2) g29 ?_
                    refine xbnd_e h (fun q30 e30 h => ?_)
                    refine y_callVi (As := [.int v1, .int (q27.2.1 (xr S v0 10) (v2).toNatClampNeg)]) (q := q30) cv_RX12_301 dX12_pushed_203 k0 rfl (Nat.le_of_ble_eq_true rfl) (by omega) (hself_X12_pushed k0 e30) ?_
                    refine x_iconst 0 dX12_pushed_206 (by decide) ?_
                    refine xbnd_e h (fun q31 e31 h => ?_)
                    refine y_callVi (As := [.int (q27.2.1 (xr S v0 8) (v2).toNatClampNeg), .int q27.1, .int q30.1, .int 0]) (q := q31) cv_RX12_295 dX12_pushed_207 k0 rfl (Nat.le_of_ble_eq_true rfl) (by omega) (S_X12_made hS k0 e31) ?_
                    obtain rfl := Option.some.inj h
                    exact y_iret rfl dX12_pushed_210
                  · rw [if_neg c7] at h
                    by_cases c8 : (D.1 (xr S v0 8) (v2).toNatClampNeg) = 12
                    · rw [if_pos c8] at h
                      refine x_tsIn 12 175 c8 dX12_pushed_17 (by decide) (by decide) rfl (by decide) ?_
                      refine x_aload_n dX12_pushed_175 0 rfl ?_
                      refine x_iload_n dX12_pushed_176 1 rfl ?_
                      refine x_aload_n dX12_pushed_177 0 rfl ?_
                      refine y_getr (kd := 100) hS fl_RX12_75 dX12_pushed_178 rfl k0 ?_
                      refine x_iload_n dX12_pushed_181 2 rfl ?_
                      refine xgrd_e h (fun g32 h => ?_)
                      refine y_iald dX12_pushed_182 ((hS.f k0 9 100 rfl).2) g32 ?_
                      refine xbnd_e h (fun q33 e33 h => ?_)
                      refine y_callVi (As := [.int v1, .int (D.1 (xr S v0 9) (v2).toNatClampNeg)]) (q := q33) cv_RX12_301 dX12_pushed_183 k0 rfl (Nat.le_of_ble_eq_true rfl) (by omega) (hself_X12_pushed k0 e33) ?_
                      refine y_istore_n q33.1 rfl [(3, .int q33.1), (0, .ref v0), (1, .int v1), (2, .int v2)] dX12_pushed_186 (by show _ < 4; decide) rfl ?_
                      refine x_aload_n dX12_pushed_187 1 rfl ?_
                      refine x_aload_n dX12_pushed_188 1 rfl ?_
                      refine y_getr (kd := 100) hS fl_RX12_72 dX12_pushed_189 rfl k0 ?_
                      refine x_iload_n dX12_pushed_192 3 rfl ?_
                      refine xgrd_e h (fun g34 h => ?_)
                      refine y_iald dX12_pushed_193 ((hS.f k0 8 100 rfl).2) g34 ?_
                      refine x_iload_n dX12_pushed_194 0 rfl ?_
                      refine x_aload_n dX12_pushed_195 1 rfl ?_
                      refine x_iload_n dX12_pushed_196 2 rfl ?_
                      refine x_aload_n dX12_pushed_197 1 rfl ?_
                      refine y_getr (kd := 100) hS fl_RX12_78 dX12_pushed_198 rfl k0 ?_
                      refine x_iload_n dX12_pushed_201 3 rfl ?_
                      refine xgrd_e h (fun g35 h => ?_)
                      refine y_iald dX12_pushed_202 ((hS.f k0 10 100 rfl).2) g35 ?_
                      refine xbnd_e h (fun q36 e36 h => ?_)
                      refine y_callVi (As := [.int v1, .int (q33.2.1 (xr S v0 10) (v2).toNatClampNeg)]) (q := q36) cv_RX12_301 dX12_pushed_203 k0 rfl (Nat.le_of_ble_eq_true rfl) (by omega) (hself_X12_pushed k0 e36) ?_
                      refine x_iconst 0 dX12_pushed_206 (by decide) ?_
                      refine xbnd_e h (fun q37 e37 h => ?_)
                      refine y_callVi (As := [.int (q33.2.1 (xr S v0 8) (v2).toNatClampNeg), .int q33.1, .int q36.1, .int 0]) (q := q37) cv_RX12_295 dX12_pushed_207 k0 rfl (Nat.le_of_ble_eq_true rfl) (by omega) (S_X12_made hS k0 e37) ?_
                      obtain rfl := Option.some.inj h
                      exact y_iret rfl dX12_pushed_210
                    · rw [if_neg c8] at h
                      by_cases c9 : (D.1 (xr S v0 8) (v2).toNatClampNeg) = 13
                      · rw [if_pos c9] at h
                        refine x_tsIn 13 175 c9 dX12_pushed_17 (by decide) (by decide) rfl (by decide) ?_
                        refine x_aload_n dX12_pushed_175 0 rfl ?_
                        refine x_iload_n dX12_pushed_176 1 rfl ?_
                        refine x_aload_n dX12_pushed_177 0 rfl ?_
                        refine y_getr (kd := 100) hS fl_RX12_75 dX12_pushed_178 rfl k0 ?_
                        refine x_iload_n dX12_pushed_181 2 rfl ?_
                        refine xgrd_e h (fun g38 h => ?_)
                        refine y_iald dX12_pushed_182 ((hS.f k0 9 100 rfl).2) g38 ?_
                        refine xbnd_e h (fun q39 e39 h => ?_)
                        refine y_callVi (As := [.int v1, .int (D.1 (xr S v0 9) (v2).toNatClampNeg)]) (q := q39) cv_RX12_301 dX12_pushed_183 k0 rfl (Nat.le_of_ble_eq_true rfl) (by omega) (hself_X12_pushed k0 e39) ?_
                        refine y_istore_n q39.1 rfl [(3, .int q39.1), (0, .ref v0), (1, .int v1), (2, .int v2)] dX12_pushed_186 (by show _ < 4; decide) rfl ?_
                        refine x_aload_n dX12_pushed_187 1 rfl ?_
                        refine x_aload_n dX12_pushed_188 1 rfl ?_
                        refine y_getr (kd := 100) hS fl_RX12_72 dX12_pushed_189 rfl k0 ?_
                        refine x_iload_n dX12_pushed_192 3 rfl ?_
                        refine xgrd_e h (fun g40 h => ?_)
                        refine y_iald dX12_pushed_193 ((hS.f k0 8 100 rfl).2) g40 ?_
                        refine x_iload_n dX12_pushed_194 0 rfl ?_
                        refine x_aload_n dX12_pushed_195 1 rfl ?_
                        refine x_iload_n dX12_pushed_196 2 rfl ?_
                        refine x_aload_n dX12_pushed_197 1 rfl ?_
                        refine y_getr (kd := 100) hS fl_RX12_78 dX12_pushed_198 rfl k0 ?_
                        refine x_iload_n dX12_pushed_201 3 rfl ?_
                        refine xgrd_e h (fun g41 h => ?_)
                        refine y_iald dX12_pushed_202 ((hS.f k0 10 100 rfl).2) g41 ?_
                        refine xbnd_e h (fun q42 e42 h => ?_)
                        refine y_callVi (As := [.int v1, .int (q39.2.1 (xr S v0 10) (v2).toNatClampNeg)]) (q := q42) cv_RX12_301 dX12_pushed_203 k0 rfl (Nat.le_of_ble_eq_true rfl) (by omega) (hself_X12_pushed k0 e42) ?_
                        refine x_iconst 0 dX12_pushed_206 (by decide) ?_
                        refine xbnd_e h (fun q43 e43 h => ?_)
                        refine y_callVi (As := [.int (q39.2.1 (xr S v0 8) (v2).toNatClampNeg), .int q39.1, .int q42.1, .int 0]) (q := q43) cv_RX12_295 dX12_pushed_207 k0 rfl (Nat.le_of_ble_eq_true rfl) (by omega) (S_X12_made hS k0 e43) ?_
                        obtain rfl := Option.some.inj h
                        exact y_iret rfl dX12_pushed_210
                      · rw [if_neg c9] at h
                        refine x_tsOut 211 dX12_pushed_17 (by have := lv_neT c0 (a := 4) (by decide); have := lv_neT c1 (a := 5) (by decide); have := lv_neT c2 (a := 6) (by decide); have := lv_neT c3 (a := 7) (by decide); have := lv_neT c4 (a := 8) (by decide); have := lv_neT c5 (a := 9) (by decide); have := lv_neT c6 (a := 10) (by decide); have := lv_neT c7 (a := 11) (by decide); have := lv_neT c8 (a := 12) (by decide); have := lv_neT c9 (a := 13) (by decide); omega) (by decide) ?_
                        refine x_aload_n dX12_pushed_211 0 rfl ?_
                        refine x_bipush 11 dX12_pushed_212 (by decide) ?_
                        refine x_iload_n dX12_pushed_214 1 rfl ?_
                        refine x_iload_n dX12_pushed_215 2 rfl ?_
                        refine x_iconst 0 dX12_pushed_216 (by decide) ?_
                        refine xbnd_e h (fun q44 e44 h => ?_)
                        refine y_callVi (As := [.int 11, .int v1, .int v2, .int 0]) (q := q44) cv_RX12_295 dX12_pushed_217 k0 rfl (Nat.le_of_ble_eq_true rfl) (by omega) (S_X12_made hS k0 e44) ?_
                        obtain rfl := Option.some.inj h
                        exact y_iret rfl dX12_pushed_220
  · rw [if_neg c] at h
    refine x_sipush 12800 dX12_pushed_7 (by decide) ?_
    obtain rfl := Option.some.inj h
    exact y_iret rfl dX12_pushed_10

def f_X12_reduced_all (F P : Nat) (S : xSt) : Nat → (Nat → Int32 → xDt → Option (Int32 × xDt)) × (Nat → Int32 → Int32 → xDt → Option (Int32 × xDt))
  | 0 => (fun _ _ _ => none, fun _ _ _ _ => none)
  | n + 1 => (f_X12_reduced_o F P S (f_X12_reduced_all F P S n).1 (f_X12_reduced_all F P S n).2, f_X12_pushed_o F P S (f_X12_reduced_all F P S n).2)
def f_X12_reduced (F P : Nat) (S : xSt) (n : Nat) : Nat → Int32 → xDt → Option (Int32 × xDt) := (f_X12_reduced_all F P S n).1
def f_X12_pushed (F P : Nat) (S : xSt) (n : Nat) : Nat → Int32 → Int32 → xDt → Option (Int32 × xDt) := (f_X12_reduced_all F P S n).2
theorem S_X12_reduced_all {F P : Nat} {S : xSt} (hS : xWF S) : ∀ (n : Nat), (∀ {v0 : Nat} {v1 : Int32} {D : xDt} {r : Int32 × xDt}, xK S v0 12 → f_X12_reduced F P S n v0 v1 D = some r → xSp md_X12_reduced (n + 2, 0, 0) [.ref v0, .int v1] (S, D) (xQi S r)) ∧ (∀ {v0 : Nat} {v1 : Int32} {v2 : Int32} {D : xDt} {r : Int32 × xDt}, xK S v0 12 → f_X12_pushed F P S n v0 v1 v2 D = some r → xSp md_X12_pushed (n + 2, 0, 0) [.ref v0, .int v1, .int v2] (S, D) (xQi S r)) := by
  intro n
  induction n with
  | zero => exact ⟨(by intros; rename_i h; cases h), (by intros; rename_i h; cases h)⟩
  | succ n ih =>
    obtain ⟨ih_X12_reduced, ih_X12_pushed⟩ := ih
    rw [show n + 1 + 2 = n + 2 + 1 by omega]
    exact ⟨fun k0 h => S_X12_reduced_o hS (hh := n + 2) (by omega) (fun k0 h => ih_X12_reduced k0 h) (fun k0 h => ih_X12_pushed k0 h) k0 h, fun k0 h => S_X12_pushed_o hS (hh := n + 2) (by omega) (fun k0 h => ih_X12_pushed k0 h) k0 h⟩
theorem S_X12_reduced {F P : Nat} {S : xSt} (hS : xWF S) (n : Nat) {v0 : Nat} {v1 : Int32} {D : xDt} {r : Int32 × xDt} (k0 : xK S v0 12) (h : f_X12_reduced F P S n v0 v1 D = some r) : xSp md_X12_reduced (n + 2, 0, 0) [.ref v0, .int v1] (S, D) (xQi S r) := (S_X12_reduced_all hS n).1 k0 h
theorem S_X12_pushed {F P : Nat} {S : xSt} (hS : xWF S) (n : Nat) {v0 : Nat} {v1 : Int32} {v2 : Int32} {D : xDt} {r : Int32 × xDt} (k0 : xK S v0 12) (h : f_X12_pushed F P S n v0 v1 v2 D = some r) : xSp md_X12_pushed (n + 2, 0, 0) [.ref v0, .int v1, .int v2] (S, D) (xQi S r) := (S_X12_reduced_all hS n).2 k0 h

theorem dX12_reduce_0 : decode cX12_reduce 0 = .ok (.aload_n 0, 1) := by decide +kernel
theorem dX12_reduce_1 : decode cX12_reduce 1 = .ok (.aload_n 0, 1) := by decide +kernel
theorem dX12_reduce_2 : decode cX12_reduce 2 = .ok (.getfield 160, 3) := by decide +kernel
theorem dX12_reduce_5 : decode cX12_reduce 5 = .ok (.sipush 896, 3) := by decide +kernel
theorem dX12_reduce_8 : decode cX12_reduce 8 = .ok (.invokevirtual 288, 3) := by decide +kernel
theorem dX12_reduce_11 : decode cX12_reduce 11 = .ok (.ifCond .eq 5, 3) := by decide +kernel
theorem dX12_reduce_14 : decode cX12_reduce 14 = .ok (.iconst (-1), 1) := by decide +kernel
theorem dX12_reduce_15 : decode cX12_reduce 15 = .ok (.ireturn, 1) := by decide +kernel
theorem dX12_reduce_16 : decode cX12_reduce 16 = .ok (.aload_n 0, 1) := by decide +kernel
theorem dX12_reduce_17 : decode cX12_reduce 17 = .ok (.sipush 12800, 3) := by decide +kernel
theorem dX12_reduce_20 : decode cX12_reduce 20 = .ok (.putfield 153, 3) := by decide +kernel
theorem dX12_reduce_23 : decode cX12_reduce 23 = .ok (.aload_n 0, 1) := by decide +kernel
theorem dX12_reduce_24 : decode cX12_reduce 24 = .ok (.iconst 0, 1) := by decide +kernel
theorem dX12_reduce_25 : decode cX12_reduce 25 = .ok (.putfield 291, 3) := by decide +kernel
theorem dX12_reduce_28 : decode cX12_reduce 28 = .ok (.aload_n 0, 1) := by decide +kernel
theorem dX12_reduce_29 : decode cX12_reduce 29 = .ok (.aload_n 0, 1) := by decide +kernel
theorem dX12_reduce_30 : decode cX12_reduce 30 = .ok (.getfield 160, 3) := by decide +kernel
theorem dX12_reduce_33 : decode cX12_reduce 33 = .ok (.invokevirtual 298, 3) := by decide +kernel
theorem dX12_reduce_36 : decode cX12_reduce 36 = .ok (.istore_n 1, 1) := by decide +kernel
theorem dX12_reduce_37 : decode cX12_reduce 37 = .ok (.aload_n 0, 1) := by decide +kernel
theorem dX12_reduce_38 : decode cX12_reduce 38 = .ok (.getfield 291, 3) := by decide +kernel
theorem dX12_reduce_41 : decode cX12_reduce 41 = .ok (.ifCond .ne 15, 3) := by decide +kernel
theorem dX12_reduce_44 : decode cX12_reduce 44 = .ok (.aload_n 0, 1) := by decide +kernel
theorem dX12_reduce_45 : decode cX12_reduce 45 = .ok (.getfield 84, 3) := by decide +kernel
theorem dX12_reduce_48 : decode cX12_reduce 48 = .ok (.iload_n 1, 1) := by decide +kernel
theorem dX12_reduce_49 : decode cX12_reduce 49 = .ok (.iaload, 1) := by decide +kernel
theorem dX12_reduce_50 : decode cX12_reduce 50 = .ok (.sipush 2000, 3) := by decide +kernel
theorem dX12_reduce_53 : decode cX12_reduce 53 = .ok (.if_icmp .le 6, 3) := by decide +kernel
theorem dX12_reduce_56 : decode cX12_reduce 56 = .ok (.bipush (-3), 2) := by decide +kernel
theorem dX12_reduce_58 : decode cX12_reduce 58 = .ok (.ireturn, 1) := by decide +kernel
theorem dX12_reduce_59 : decode cX12_reduce 59 = .ok (.aload_n 0, 1) := by decide +kernel
theorem dX12_reduce_60 : decode cX12_reduce 60 = .ok (.getfield 153, 3) := by decide +kernel
theorem dX12_reduce_63 : decode cX12_reduce 63 = .ok (.istore_n 2, 1) := by decide +kernel
theorem dX12_reduce_64 : decode cX12_reduce 64 = .ok (.aload_n 0, 1) := by decide +kernel
theorem dX12_reduce_65 : decode cX12_reduce 65 = .ok (.getfield 84, 3) := by decide +kernel
theorem dX12_reduce_68 : decode cX12_reduce 68 = .ok (.iload_n 1, 1) := by decide +kernel
theorem dX12_reduce_69 : decode cX12_reduce 69 = .ok (.iaload, 1) := by decide +kernel
theorem dX12_reduce_70 : decode cX12_reduce 70 = .ok (.istore_n 3, 1) := by decide +kernel
theorem dX12_reduce_71 : decode cX12_reduce 71 = .ok (.aload_n 0, 1) := by decide +kernel
theorem dX12_reduce_72 : decode cX12_reduce 72 = .ok (.aload_n 0, 1) := by decide +kernel
theorem dX12_reduce_73 : decode cX12_reduce 73 = .ok (.iload_n 1, 1) := by decide +kernel
theorem dX12_reduce_74 : decode cX12_reduce 74 = .ok (.iload_n 2, 1) := by decide +kernel
theorem dX12_reduce_75 : decode cX12_reduce 75 = .ok (.iload_n 3, 1) := by decide +kernel
theorem dX12_reduce_76 : decode cX12_reduce 76 = .ok (.invokevirtual 213, 3) := by decide +kernel
theorem dX12_reduce_79 : decode cX12_reduce 79 = .ok (.putfield 160, 3) := by decide +kernel
theorem dX12_reduce_82 : decode cX12_reduce 82 = .ok (.iload_n 3, 1) := by decide +kernel
theorem dX12_reduce_83 : decode cX12_reduce 83 = .ok (.ireturn, 1) := by decide +kernel
def f_X12_reduce (F P : Nat) (S : xSt) (v0 : Nat) (D : xDt) : Option (Int32 × xDt) :=
  (f_X12_has F P S P v0 (D.1 v0 14) 896 D).bind fun q1 => if q1.1 = 0 then (xlet (xup q1.2.1 v0 13 12800, q1.2.2) fun D2 => xlet (xup D2.1 v0 36 0, D2.2) fun D3 => (f_X12_reduced F P S P v0 (D3.1 v0 14) D3).bind fun q4 => if (q4.2.1 v0 36) = 0 then (xgrd (xin q4.1 (xl S (xr S v0 12))) (if (q4.2.1 (xr S v0 12) (q4.1).toNatClampNeg) ≤ 2000 then (xlet (q4.2.1 v0 13) fun v2_6 => xgrd (xin q4.1 (xl S (xr S v0 12))) (xlet (q4.2.1 (xr S v0 12) (q4.1).toNatClampNeg) fun v3_8 => (f_X12_moved F P S v0 q4.1 v2_6 v3_8 q4.2).bind fun q9 => xlet (xup q9.2.1 v0 14 q9.1, q9.2.2) fun D10 => some (v3_8, D10))) else (some ((-3), q4.2)))) else (some ((-3), q4.2))) else (some ((-1), q1.2))
set_option maxHeartbeats 4000000 in
theorem S_X12_reduce {F P : Nat} {S : xSt} (hS : xWF S) {v0 : Nat} {D : xDt} {r : Int32 × xDt} (k0 : xK S v0 12) (h : f_X12_reduce F P S v0 D = some r) : xSp md_X12_reduce ((P + 3), 0, 0) [.ref v0] (S, D) (xQi S r) := by
  unfold f_X12_reduce at h
  refine xEntry (by decide) (Nat.le_of_ble_eq_true rfl) ?_
  refine x_lv (lv' := [(0, .ref v0)]) [0] rfl ?_
  refine x_aload_n dX12_reduce_0 0 rfl ?_
  refine x_aload_n dX12_reduce_1 0 rfl ?_
  refine y_geti fl_RX12_160 dX12_reduce_2 rfl k0 ?_
  refine x_sipush 896 dX12_reduce_5 (by decide) ?_
  refine xbnd_e h (fun q1 e1 h => ?_)
  refine y_callVi (As := [.int (D.1 v0 14), .int 896]) (q := q1) cv_RX12_288 dX12_reduce_8 k0 rfl (Nat.le_of_ble_eq_true rfl) (by omega) (S_X12_has hS P k0 e1) ?_
  refine x_if_eq 16 dX12_reduce_11 (by decide) (fun c => ?_) (fun c => ?_)
  · rw [if_pos c] at h
    refine x_aload_n dX12_reduce_16 0 rfl ?_
    refine x_sipush 12800 dX12_reduce_17 (by decide) ?_
    refine xlet_e h (fun D2 eD2 h => ?_)
    refine y_puti fp_RX12_153 dX12_reduce_20 rfl k0 eD2 ?_
    refine x_aload_n dX12_reduce_23 0 rfl ?_
    refine x_iconst 0 dX12_reduce_24 (by decide) ?_
    refine xlet_e h (fun D3 eD3 h => ?_)
    refine y_putz rfl fp_RX12_291 dX12_reduce_25 rfl k0 eD3 ?_
    refine x_aload_n dX12_reduce_28 0 rfl ?_
    refine x_aload_n dX12_reduce_29 0 rfl ?_
    refine y_geti fl_RX12_160 dX12_reduce_30 rfl k0 ?_
    refine xbnd_e h (fun q4 e4 h => ?_)
    refine y_callVi (As := [.int (D3.1 v0 14)]) (q := q4) cv_RX12_298 dX12_reduce_33 k0 rfl (Nat.le_of_ble_eq_true rfl) (by omega) (S_X12_reduced hS P k0 e4) ?_
    refine y_istore_n q4.1 rfl [(1, .int q4.1), (0, .ref v0)] dX12_reduce_36 (by show _ < 4; decide) rfl ?_
    refine x_aload_n dX12_reduce_37 1 rfl ?_
    refine y_geti fl_RX12_291 dX12_reduce_38 rfl k0 ?_
    refine x_if_ne 56 dX12_reduce_41 (by decide) (fun c => ?_) (fun c => ?_)
    · rw [if_neg c] at h
      refine x_bipush (-3) dX12_reduce_56 (by decide) ?_
      obtain rfl := Option.some.inj h
      exact y_iret rfl dX12_reduce_58
    · rw [if_pos c] at h
      refine x_aload_n dX12_reduce_44 1 rfl ?_
      refine y_getr (kd := 100) hS fl_RX12_84 dX12_reduce_45 rfl k0 ?_
      refine x_iload_n dX12_reduce_48 0 rfl ?_
      refine xgrd_e h (fun g5 h => ?_)
      refine y_iald dX12_reduce_49 ((hS.f k0 12 100 rfl).2) g5 ?_
      refine x_sipush 2000 dX12_reduce_50 (by decide) ?_
      refine x_icmp_le 59 dX12_reduce_53 (by decide) (fun c => ?_) (fun c => ?_)
      · rw [if_pos c] at h
        refine x_aload_n dX12_reduce_59 1 rfl ?_
        refine y_geti fl_RX12_153 dX12_reduce_60 rfl k0 ?_
        refine xlet_e h (fun v2_6 ev2_6 h => ?_)
        refine y_istore_n v2_6 ev2_6 [(2, .int v2_6), (1, .int q4.1), (0, .ref v0)] dX12_reduce_63 (by show _ < 4; decide) rfl ?_
        refine x_aload_n dX12_reduce_64 2 rfl ?_
        refine y_getr (kd := 100) hS fl_RX12_84 dX12_reduce_65 rfl k0 ?_
        refine x_iload_n dX12_reduce_68 1 rfl ?_
        refine xgrd_e h (fun g7 h => ?_)
        refine y_iald dX12_reduce_69 ((hS.f k0 12 100 rfl).2) g7 ?_
        refine xlet_e h (fun v3_8 ev3_8 h => ?_)
        refine y_istore_n v3_8 ev3_8 [(3, .int v3_8), (2, .int v2_6), (1, .int q4.1), (0, .ref v0)] dX12_reduce_70 (by show _ < 4; decide) rfl ?_
        refine x_aload_n dX12_reduce_71 3 rfl ?_
        refine x_aload_n dX12_reduce_72 3 rfl ?_
        refine x_iload_n dX12_reduce_73 2 rfl ?_
        refine x_iload_n dX12_reduce_74 1 rfl ?_
        refine x_iload_n dX12_reduce_75 0 rfl ?_
        refine xbnd_e h (fun q9 e9 h => ?_)
        refine y_callVi (As := [.int q4.1, .int v2_6, .int v3_8]) (q := q9) cv_RX12_213 dX12_reduce_76 k0 rfl (Nat.le_of_ble_eq_true rfl) (by omega) (S_X12_moved hS k0 e9) ?_
        refine xlet_e h (fun D10 eD10 h => ?_)
        refine y_puti fp_RX12_160 dX12_reduce_79 rfl k0 eD10 ?_
        refine x_iload_n dX12_reduce_82 0 rfl ?_
        obtain rfl := Option.some.inj h
        exact y_iret rfl dX12_reduce_83
      · rw [if_neg c] at h
        refine x_bipush (-3) dX12_reduce_56 (by decide) ?_
        obtain rfl := Option.some.inj h
        exact y_iret rfl dX12_reduce_58
  · rw [if_neg c] at h
    refine x_iconst (-1) dX12_reduce_14 (by decide) ?_
    obtain rfl := Option.some.inj h
    exact y_iret rfl dX12_reduce_15

theorem dX12_shared_0 : decode cX12_shared 0 = .ok (.sipush 12800, 3) := by decide +kernel
theorem dX12_shared_3 : decode cX12_shared 3 = .ok (.istore 5, 2) := by decide +kernel
theorem dX12_shared_5 : decode cX12_shared 5 = .ok (.iload 5, 2) := by decide +kernel
theorem dX12_shared_7 : decode cX12_shared 7 = .ok (.aload_n 0, 1) := by decide +kernel
theorem dX12_shared_8 : decode cX12_shared 8 = .ok (.getfield 153, 3) := by decide +kernel
theorem dX12_shared_11 : decode cX12_shared 11 = .ok (.if_icmp .ge 57, 3) := by decide +kernel
theorem dX12_shared_14 : decode cX12_shared 14 = .ok (.aload_n 0, 1) := by decide +kernel
theorem dX12_shared_15 : decode cX12_shared 15 = .ok (.getfield 72, 3) := by decide +kernel
theorem dX12_shared_18 : decode cX12_shared 18 = .ok (.iload 5, 2) := by decide +kernel
theorem dX12_shared_20 : decode cX12_shared 20 = .ok (.iaload, 1) := by decide +kernel
theorem dX12_shared_21 : decode cX12_shared 21 = .ok (.iload_n 1, 1) := by decide +kernel
theorem dX12_shared_22 : decode cX12_shared 22 = .ok (.if_icmp .ne 40, 3) := by decide +kernel
theorem dX12_shared_25 : decode cX12_shared 25 = .ok (.aload_n 0, 1) := by decide +kernel
theorem dX12_shared_26 : decode cX12_shared 26 = .ok (.getfield 75, 3) := by decide +kernel
theorem dX12_shared_29 : decode cX12_shared 29 = .ok (.iload 5, 2) := by decide +kernel
theorem dX12_shared_31 : decode cX12_shared 31 = .ok (.iaload, 1) := by decide +kernel
theorem dX12_shared_32 : decode cX12_shared 32 = .ok (.iload_n 2, 1) := by decide +kernel
theorem dX12_shared_33 : decode cX12_shared 33 = .ok (.if_icmp .ne 29, 3) := by decide +kernel
theorem dX12_shared_36 : decode cX12_shared 36 = .ok (.aload_n 0, 1) := by decide +kernel
theorem dX12_shared_37 : decode cX12_shared 37 = .ok (.getfield 78, 3) := by decide +kernel
theorem dX12_shared_40 : decode cX12_shared 40 = .ok (.iload 5, 2) := by decide +kernel
theorem dX12_shared_42 : decode cX12_shared 42 = .ok (.iaload, 1) := by decide +kernel
theorem dX12_shared_43 : decode cX12_shared 43 = .ok (.iload_n 3, 1) := by decide +kernel
theorem dX12_shared_44 : decode cX12_shared 44 = .ok (.if_icmp .ne 18, 3) := by decide +kernel
theorem dX12_shared_47 : decode cX12_shared 47 = .ok (.aload_n 0, 1) := by decide +kernel
theorem dX12_shared_48 : decode cX12_shared 48 = .ok (.getfield 81, 3) := by decide +kernel
theorem dX12_shared_51 : decode cX12_shared 51 = .ok (.iload 5, 2) := by decide +kernel
theorem dX12_shared_53 : decode cX12_shared 53 = .ok (.iaload, 1) := by decide +kernel
theorem dX12_shared_54 : decode cX12_shared 54 = .ok (.iload 4, 2) := by decide +kernel
theorem dX12_shared_56 : decode cX12_shared 56 = .ok (.if_icmp .ne 6, 3) := by decide +kernel
theorem dX12_shared_59 : decode cX12_shared 59 = .ok (.iload 5, 2) := by decide +kernel
theorem dX12_shared_61 : decode cX12_shared 61 = .ok (.ireturn, 1) := by decide +kernel
theorem dX12_shared_62 : decode cX12_shared 62 = .ok (.iinc 5 1, 3) := by decide +kernel
theorem dX12_shared_65 : decode cX12_shared 65 = .ok (.goto (-60), 3) := by decide +kernel
theorem dX12_shared_68 : decode cX12_shared 68 = .ok (.aload_n 0, 1) := by decide +kernel
theorem dX12_shared_69 : decode cX12_shared 69 = .ok (.iload_n 1, 1) := by decide +kernel
theorem dX12_shared_70 : decode cX12_shared 70 = .ok (.iload_n 2, 1) := by decide +kernel
theorem dX12_shared_71 : decode cX12_shared 71 = .ok (.iload_n 3, 1) := by decide +kernel
theorem dX12_shared_72 : decode cX12_shared 72 = .ok (.iload 4, 2) := by decide +kernel
theorem dX12_shared_74 : decode cX12_shared 74 = .ok (.invokevirtual 156, 3) := by decide +kernel
theorem dX12_shared_77 : decode cX12_shared 77 = .ok (.ireturn, 1) := by decide +kernel
def f_X12_shared_62 (F P : Nat) (S : xSt) (rec_5 : Nat → Int32 → Int32 → Int32 → Int32 → Int32 → xDt → Option (Int32 × xDt)) (v0 : Nat) (v1 : Int32) (v2 : Int32) (v3 : Int32) (v4 : Int32) (v5 : Int32) (D : xDt) : Option (Int32 × xDt) :=
  xlet (v5 + 1) fun v5_1 => rec_5 v0 v1 v2 v3 v4 v5_1 D
set_option maxHeartbeats 4000000 in
theorem t_X12_shared_62 {F P : Nat} {S : xSt} (hS : xWF S) {rec_5 : Nat → Int32 → Int32 → Int32 → Int32 → Int32 → xDt → Option (Int32 × xDt)} (hrec_5 : ∀ {v0 : Nat} {v1 : Int32} {v2 : Int32} {v3 : Int32} {v4 : Int32} {v5 : Int32} {D : xDt} {r : Int32 × xDt}, xK S v0 12 → rec_5 v0 v1 v2 v3 v4 v5 D = some r → yEx md_X12_shared 1 5 [(0, .ref v0), (1, .int v1), (2, .int v2), (3, .int v3), (4, .int v4), (5, .int v5)] [] S D (xQi S r)) {v0 : Nat} {v1 : Int32} {v2 : Int32} {v3 : Int32} {v4 : Int32} {v5 : Int32} {D : xDt} {r : Int32 × xDt} (k0 : xK S v0 12) (h : f_X12_shared_62 F P S rec_5 v0 v1 v2 v3 v4 v5 D = some r) : yEx md_X12_shared 1 62 [(0, .ref v0), (1, .int v1), (2, .int v2), (3, .int v3), (4, .int v4), (5, .int v5)] [] S D (xQi S r) := by
  unfold f_X12_shared_62 at h
  refine xlet_e h (fun v5_1 ev5_1 h => ?_)
  refine y_iinc v5_1 ev5_1 (by decide) [(5, .int v5_1), (0, .ref v0), (1, .int v1), (2, .int v2), (3, .int v3), (4, .int v4)] dX12_shared_62 5 rfl (by show _ < 6; decide) rfl ?_
  refine x_goto 5 dX12_shared_65 (by decide) ?_
  refine x_lv (lv' := [(0, .ref v0), (1, .int v1), (2, .int v2), (3, .int v3), (4, .int v4), (5, .int v5_1)]) [1, 2, 3, 4, 5, 0] rfl ?_
  exact hrec_5 k0 h

def f_X12_shared_5s (F P : Nat) (S : xSt) (rec_5 : Nat → Int32 → Int32 → Int32 → Int32 → Int32 → xDt → Option (Int32 × xDt)) (v0 : Nat) (v1 : Int32) (v2 : Int32) (v3 : Int32) (v4 : Int32) (v5 : Int32) (D : xDt) : Option (Int32 × xDt) :=
  if (D.1 v0 13) ≤ v5 then ((f_X12_node F P S v0 v1 v2 v3 v4 D).bind fun q1 => some (q1.1, q1.2)) else (xgrd (xin v5 (xl S (xr S v0 8))) (if (D.1 (xr S v0 8) (v5).toNatClampNeg) = v1 then (xgrd (xin v5 (xl S (xr S v0 9))) (if (D.1 (xr S v0 9) (v5).toNatClampNeg) = v2 then (xgrd (xin v5 (xl S (xr S v0 10))) (if (D.1 (xr S v0 10) (v5).toNatClampNeg) = v3 then (xgrd (xin v5 (xl S (xr S v0 11))) (if (D.1 (xr S v0 11) (v5).toNatClampNeg) = v4 then (some (v5, D)) else (f_X12_shared_62 F P S rec_5 v0 v1 v2 v3 v4 v5 D))) else (f_X12_shared_62 F P S rec_5 v0 v1 v2 v3 v4 v5 D))) else (f_X12_shared_62 F P S rec_5 v0 v1 v2 v3 v4 v5 D))) else (f_X12_shared_62 F P S rec_5 v0 v1 v2 v3 v4 v5 D)))
def f_X12_shared_5 (F P : Nat) (S : xSt) : Nat → Nat → Int32 → Int32 → Int32 → Int32 → Int32 → xDt → Option (Int32 × xDt)
  | 0 => fun _ _ _ _ _ _ _ => none
  | n + 1 => f_X12_shared_5s F P S (f_X12_shared_5 F P S n)
set_option maxHeartbeats 4000000 in
theorem t_X12_shared_5s {F P : Nat} {S : xSt} (hS : xWF S) {rec_5 : Nat → Int32 → Int32 → Int32 → Int32 → Int32 → xDt → Option (Int32 × xDt)} (hrec_5 : ∀ {v0 : Nat} {v1 : Int32} {v2 : Int32} {v3 : Int32} {v4 : Int32} {v5 : Int32} {D : xDt} {r : Int32 × xDt}, xK S v0 12 → rec_5 v0 v1 v2 v3 v4 v5 D = some r → yEx md_X12_shared 1 5 [(0, .ref v0), (1, .int v1), (2, .int v2), (3, .int v3), (4, .int v4), (5, .int v5)] [] S D (xQi S r)) {v0 : Nat} {v1 : Int32} {v2 : Int32} {v3 : Int32} {v4 : Int32} {v5 : Int32} {D : xDt} {r : Int32 × xDt} (k0 : xK S v0 12) (h : f_X12_shared_5s F P S rec_5 v0 v1 v2 v3 v4 v5 D = some r) : yEx md_X12_shared 1 5 [(0, .ref v0), (1, .int v1), (2, .int v2), (3, .int v3), (4, .int v4), (5, .int v5)] [] S D (xQi S r) := by
  unfold f_X12_shared_5s at h
  refine x_iload dX12_shared_5 5 rfl ?_
  refine x_aload_n dX12_shared_7 0 rfl ?_
  refine y_geti fl_RX12_153 dX12_shared_8 rfl k0 ?_
  refine x_icmp_ge 68 dX12_shared_11 (by decide) (fun c => ?_) (fun c => ?_)
  · rw [if_pos c] at h
    refine x_aload_n dX12_shared_68 0 rfl ?_
    refine x_iload_n dX12_shared_69 1 rfl ?_
    refine x_iload_n dX12_shared_70 2 rfl ?_
    refine x_iload_n dX12_shared_71 3 rfl ?_
    refine x_iload dX12_shared_72 4 rfl ?_
    refine xbnd_e h (fun q1 e1 h => ?_)
    refine y_callVi (As := [.int v1, .int v2, .int v3, .int v4]) (q := q1) cv_RX12_156 dX12_shared_74 k0 rfl (Nat.le_of_ble_eq_true rfl) (by omega) (S_X12_node hS k0 e1) ?_
    obtain rfl := Option.some.inj h
    exact y_iret rfl dX12_shared_77
  · rw [if_neg c] at h
    refine x_aload_n dX12_shared_14 0 rfl ?_
    refine y_getr (kd := 100) hS fl_RX12_72 dX12_shared_15 rfl k0 ?_
    refine x_iload dX12_shared_18 5 rfl ?_
    refine xgrd_e h (fun g2 h => ?_)
    refine y_iald dX12_shared_20 ((hS.f k0 8 100 rfl).2) g2 ?_
    refine x_iload_n dX12_shared_21 1 rfl ?_
    refine x_icmp_ne 62 dX12_shared_22 (by decide) (fun c => ?_) (fun c => ?_)
    · rw [if_neg c] at h
      exact t_X12_shared_62 hS hrec_5 k0 h
    · rw [if_pos c] at h
      refine x_aload_n dX12_shared_25 0 rfl ?_
      refine y_getr (kd := 100) hS fl_RX12_75 dX12_shared_26 rfl k0 ?_
      refine x_iload dX12_shared_29 5 rfl ?_
      refine xgrd_e h (fun g3 h => ?_)
      refine y_iald dX12_shared_31 ((hS.f k0 9 100 rfl).2) g3 ?_
      refine x_iload_n dX12_shared_32 2 rfl ?_
      refine x_icmp_ne 62 dX12_shared_33 (by decide) (fun c => ?_) (fun c => ?_)
      · rw [if_neg c] at h
        exact t_X12_shared_62 hS hrec_5 k0 h
      · rw [if_pos c] at h
        refine x_aload_n dX12_shared_36 0 rfl ?_
        refine y_getr (kd := 100) hS fl_RX12_78 dX12_shared_37 rfl k0 ?_
        refine x_iload dX12_shared_40 5 rfl ?_
        refine xgrd_e h (fun g4 h => ?_)
        refine y_iald dX12_shared_42 ((hS.f k0 10 100 rfl).2) g4 ?_
        refine x_iload_n dX12_shared_43 3 rfl ?_
        refine x_icmp_ne 62 dX12_shared_44 (by decide) (fun c => ?_) (fun c => ?_)
        · rw [if_neg c] at h
          exact t_X12_shared_62 hS hrec_5 k0 h
        · rw [if_pos c] at h
          refine x_aload_n dX12_shared_47 0 rfl ?_
          refine y_getr (kd := 100) hS fl_RX12_81 dX12_shared_48 rfl k0 ?_
          refine x_iload dX12_shared_51 5 rfl ?_
          refine xgrd_e h (fun g5 h => ?_)
          refine y_iald dX12_shared_53 ((hS.f k0 11 100 rfl).2) g5 ?_
          refine x_iload dX12_shared_54 4 rfl ?_
          refine x_icmp_ne 62 dX12_shared_56 (by decide) (fun c => ?_) (fun c => ?_)
          · rw [if_neg c] at h
            exact t_X12_shared_62 hS hrec_5 k0 h
          · rw [if_pos c] at h
            refine x_iload dX12_shared_59 5 rfl ?_
            obtain rfl := Option.some.inj h
            exact y_iret rfl dX12_shared_61
theorem t_X12_shared_5 {F P : Nat} {S : xSt} (hS : xWF S) : ∀ (n : Nat) {v0 : Nat} {v1 : Int32} {v2 : Int32} {v3 : Int32} {v4 : Int32} {v5 : Int32} {D : xDt} {r : Int32 × xDt}, xK S v0 12 → f_X12_shared_5 F P S n v0 v1 v2 v3 v4 v5 D = some r → yEx md_X12_shared 1 5 [(0, .ref v0), (1, .int v1), (2, .int v2), (3, .int v3), (4, .int v4), (5, .int v5)] [] S D (xQi S r) := by
  intro n
  induction n with
  | zero => intros; rename_i h; cases h
  | succ n ih =>
    intro v0 v1 v2 v3 v4 v5 D r k0 h
    exact t_X12_shared_5s hS (fun k0 h => ih k0 h) k0 h

def f_X12_shared (F P : Nat) (S : xSt) (v0 : Nat) (v1 : Int32) (v2 : Int32) (v3 : Int32) (v4 : Int32) (D : xDt) : Option (Int32 × xDt) :=
  f_X12_shared_5 F P S F v0 v1 v2 v3 v4 12800 D
set_option maxHeartbeats 4000000 in
theorem S_X12_shared {F P : Nat} {S : xSt} (hS : xWF S) {v0 : Nat} {v1 : Int32} {v2 : Int32} {v3 : Int32} {v4 : Int32} {D : xDt} {r : Int32 × xDt} (k0 : xK S v0 12) (h : f_X12_shared F P S v0 v1 v2 v3 v4 D = some r) : xSp md_X12_shared (1, 0, 0) [.ref v0, .int v1, .int v2, .int v3, .int v4] (S, D) (xQi S r) := by
  unfold f_X12_shared at h
  refine xEntry (by decide) (Nat.le_of_ble_eq_true rfl) ?_
  refine x_lv (lv' := [(0, .ref v0), (1, .int v1), (2, .int v2), (3, .int v3), (4, .int v4)]) [0, 1, 2, 3, 4] rfl ?_
  refine x_sipush 12800 dX12_shared_0 (by decide) ?_
  refine y_istore 12800 rfl [(5, .int 12800), (0, .ref v0), (1, .int v1), (2, .int v2), (3, .int v3), (4, .int v4)] dX12_shared_3 (by show _ < 6; decide) rfl ?_
  refine x_lv (lv' := [(0, .ref v0), (1, .int v1), (2, .int v2), (3, .int v3), (4, .int v4), (5, .int 12800)]) [1, 2, 3, 4, 5, 0] rfl ?_
  exact t_X12_shared_5 hS F k0 h

theorem dX12_plain_0 : decode cX12_plain 0 = .ok (.aload_n 0, 1) := by decide +kernel
theorem dX12_plain_1 : decode cX12_plain 1 = .ok (.getfield 72, 3) := by decide +kernel
theorem dX12_plain_4 : decode cX12_plain 4 = .ok (.iload_n 1, 1) := by decide +kernel
theorem dX12_plain_5 : decode cX12_plain 5 = .ok (.iaload, 1) := by decide +kernel
theorem dX12_plain_6 : decode cX12_plain 6 = .ok (.istore_n 2, 1) := by decide +kernel
theorem dX12_plain_7 : decode cX12_plain 7 = .ok (.aload_n 0, 1) := by decide +kernel
theorem dX12_plain_8 : decode cX12_plain 8 = .ok (.getfield 75, 3) := by decide +kernel
theorem dX12_plain_11 : decode cX12_plain 11 = .ok (.iload_n 1, 1) := by decide +kernel
theorem dX12_plain_12 : decode cX12_plain 12 = .ok (.iaload, 1) := by decide +kernel
theorem dX12_plain_13 : decode cX12_plain 13 = .ok (.ifCond .ge 8, 3) := by decide +kernel
theorem dX12_plain_16 : decode cX12_plain 16 = .ok (.bipush (-2), 2) := by decide +kernel
theorem dX12_plain_18 : decode cX12_plain 18 = .ok (.goto 13, 3) := by decide +kernel
theorem dX12_plain_21 : decode cX12_plain 21 = .ok (.aload_n 0, 1) := by decide +kernel
theorem dX12_plain_22 : decode cX12_plain 22 = .ok (.aload_n 0, 1) := by decide +kernel
theorem dX12_plain_23 : decode cX12_plain 23 = .ok (.getfield 75, 3) := by decide +kernel
theorem dX12_plain_26 : decode cX12_plain 26 = .ok (.iload_n 1, 1) := by decide +kernel
theorem dX12_plain_27 : decode cX12_plain 27 = .ok (.iaload, 1) := by decide +kernel
theorem dX12_plain_28 : decode cX12_plain 28 = .ok (.invokevirtual 304, 3) := by decide +kernel
theorem dX12_plain_31 : decode cX12_plain 31 = .ok (.istore_n 3, 1) := by decide +kernel
theorem dX12_plain_32 : decode cX12_plain 32 = .ok (.aload_n 0, 1) := by decide +kernel
theorem dX12_plain_33 : decode cX12_plain 33 = .ok (.getfield 78, 3) := by decide +kernel
theorem dX12_plain_36 : decode cX12_plain 36 = .ok (.iload_n 1, 1) := by decide +kernel
theorem dX12_plain_37 : decode cX12_plain 37 = .ok (.iaload, 1) := by decide +kernel
theorem dX12_plain_38 : decode cX12_plain 38 = .ok (.ifCond .ge 8, 3) := by decide +kernel
theorem dX12_plain_41 : decode cX12_plain 41 = .ok (.bipush (-2), 2) := by decide +kernel
theorem dX12_plain_43 : decode cX12_plain 43 = .ok (.goto 13, 3) := by decide +kernel
theorem dX12_plain_46 : decode cX12_plain 46 = .ok (.aload_n 0, 1) := by decide +kernel
theorem dX12_plain_47 : decode cX12_plain 47 = .ok (.aload_n 0, 1) := by decide +kernel
theorem dX12_plain_48 : decode cX12_plain 48 = .ok (.getfield 78, 3) := by decide +kernel
theorem dX12_plain_51 : decode cX12_plain 51 = .ok (.iload_n 1, 1) := by decide +kernel
theorem dX12_plain_52 : decode cX12_plain 52 = .ok (.iaload, 1) := by decide +kernel
theorem dX12_plain_53 : decode cX12_plain 53 = .ok (.invokevirtual 304, 3) := by decide +kernel
theorem dX12_plain_56 : decode cX12_plain 56 = .ok (.istore 4, 2) := by decide +kernel
theorem dX12_plain_58 : decode cX12_plain 58 = .ok (.iload_n 2, 1) := by decide +kernel
theorem dX12_plain_59 : decode cX12_plain 59 = .ok (.bipush 6, 2) := by decide +kernel
theorem dX12_plain_61 : decode cX12_plain 61 = .ok (.if_icmp .ne 34, 3) := by decide +kernel
theorem dX12_plain_64 : decode cX12_plain 64 = .ok (.aload_n 0, 1) := by decide +kernel
theorem dX12_plain_65 : decode cX12_plain 65 = .ok (.iconst 4, 1) := by decide +kernel
theorem dX12_plain_66 : decode cX12_plain 66 = .ok (.aload_n 0, 1) := by decide +kernel
theorem dX12_plain_67 : decode cX12_plain 67 = .ok (.iconst 5, 1) := by decide +kernel
theorem dX12_plain_68 : decode cX12_plain 68 = .ok (.aload_n 0, 1) := by decide +kernel
theorem dX12_plain_69 : decode cX12_plain 69 = .ok (.iconst 4, 1) := by decide +kernel
theorem dX12_plain_70 : decode cX12_plain 70 = .ok (.iload_n 3, 1) := by decide +kernel
theorem dX12_plain_71 : decode cX12_plain 71 = .ok (.bipush (-2), 2) := by decide +kernel
theorem dX12_plain_73 : decode cX12_plain 73 = .ok (.iconst 0, 1) := by decide +kernel
theorem dX12_plain_74 : decode cX12_plain 74 = .ok (.invokevirtual 307, 3) := by decide +kernel
theorem dX12_plain_77 : decode cX12_plain 77 = .ok (.bipush (-2), 2) := by decide +kernel
theorem dX12_plain_79 : decode cX12_plain 79 = .ok (.aload_n 0, 1) := by decide +kernel
theorem dX12_plain_80 : decode cX12_plain 80 = .ok (.getfield 81, 3) := by decide +kernel
theorem dX12_plain_83 : decode cX12_plain 83 = .ok (.iload_n 1, 1) := by decide +kernel
theorem dX12_plain_84 : decode cX12_plain 84 = .ok (.iaload, 1) := by decide +kernel
theorem dX12_plain_85 : decode cX12_plain 85 = .ok (.invokevirtual 307, 3) := by decide +kernel
theorem dX12_plain_88 : decode cX12_plain 88 = .ok (.bipush (-2), 2) := by decide +kernel
theorem dX12_plain_90 : decode cX12_plain 90 = .ok (.iconst 0, 1) := by decide +kernel
theorem dX12_plain_91 : decode cX12_plain 91 = .ok (.invokevirtual 307, 3) := by decide +kernel
theorem dX12_plain_94 : decode cX12_plain 94 = .ok (.ireturn, 1) := by decide +kernel
theorem dX12_plain_95 : decode cX12_plain 95 = .ok (.iload_n 2, 1) := by decide +kernel
theorem dX12_plain_96 : decode cX12_plain 96 = .ok (.bipush 7, 2) := by decide +kernel
theorem dX12_plain_98 : decode cX12_plain 98 = .ok (.if_icmp .eq 18, 3) := by decide +kernel
theorem dX12_plain_101 : decode cX12_plain 101 = .ok (.aload_n 0, 1) := by decide +kernel
theorem dX12_plain_102 : decode cX12_plain 102 = .ok (.iload_n 2, 1) := by decide +kernel
theorem dX12_plain_103 : decode cX12_plain 103 = .ok (.iload_n 3, 1) := by decide +kernel
theorem dX12_plain_104 : decode cX12_plain 104 = .ok (.iload 4, 2) := by decide +kernel
theorem dX12_plain_106 : decode cX12_plain 106 = .ok (.aload_n 0, 1) := by decide +kernel
theorem dX12_plain_107 : decode cX12_plain 107 = .ok (.getfield 81, 3) := by decide +kernel
theorem dX12_plain_110 : decode cX12_plain 110 = .ok (.iload_n 1, 1) := by decide +kernel
theorem dX12_plain_111 : decode cX12_plain 111 = .ok (.iaload, 1) := by decide +kernel
theorem dX12_plain_112 : decode cX12_plain 112 = .ok (.invokevirtual 307, 3) := by decide +kernel
theorem dX12_plain_115 : decode cX12_plain 115 = .ok (.ireturn, 1) := by decide +kernel
theorem dX12_plain_116 : decode cX12_plain 116 = .ok (.bipush (-2), 2) := by decide +kernel
theorem dX12_plain_118 : decode cX12_plain 118 = .ok (.istore 5, 2) := by decide +kernel
theorem dX12_plain_120 : decode cX12_plain 120 = .ok (.iconst 0, 1) := by decide +kernel
theorem dX12_plain_121 : decode cX12_plain 121 = .ok (.istore 6, 2) := by decide +kernel
theorem dX12_plain_123 : decode cX12_plain 123 = .ok (.iload 6, 2) := by decide +kernel
theorem dX12_plain_125 : decode cX12_plain 125 = .ok (.iconst 4, 1) := by decide +kernel
theorem dX12_plain_126 : decode cX12_plain 126 = .ok (.if_icmp .ge 61, 3) := by decide +kernel
theorem dX12_plain_129 : decode cX12_plain 129 = .ok (.aload_n 0, 1) := by decide +kernel
theorem dX12_plain_130 : decode cX12_plain 130 = .ok (.getfield 81, 3) := by decide +kernel
theorem dX12_plain_133 : decode cX12_plain 133 = .ok (.iload_n 1, 1) := by decide +kernel
theorem dX12_plain_134 : decode cX12_plain 134 = .ok (.iaload, 1) := by decide +kernel
theorem dX12_plain_135 : decode cX12_plain 135 = .ok (.iload 6, 2) := by decide +kernel
theorem dX12_plain_137 : decode cX12_plain 137 = .ok (.ishr, 1) := by decide +kernel
theorem dX12_plain_138 : decode cX12_plain 138 = .ok (.iconst 1, 1) := by decide +kernel
theorem dX12_plain_139 : decode cX12_plain 139 = .ok (.iand, 1) := by decide +kernel
theorem dX12_plain_140 : decode cX12_plain 140 = .ok (.iconst 1, 1) := by decide +kernel
theorem dX12_plain_141 : decode cX12_plain 141 = .ok (.if_icmp .ne 40, 3) := by decide +kernel
theorem dX12_plain_144 : decode cX12_plain 144 = .ok (.aload_n 0, 1) := by decide +kernel
theorem dX12_plain_145 : decode cX12_plain 145 = .ok (.iconst 5, 1) := by decide +kernel
theorem dX12_plain_146 : decode cX12_plain 146 = .ok (.iload_n 3, 1) := by decide +kernel
theorem dX12_plain_147 : decode cX12_plain 147 = .ok (.bipush (-2), 2) := by decide +kernel
theorem dX12_plain_149 : decode cX12_plain 149 = .ok (.iconst 1, 1) := by decide +kernel
theorem dX12_plain_150 : decode cX12_plain 150 = .ok (.iload 6, 2) := by decide +kernel
theorem dX12_plain_152 : decode cX12_plain 152 = .ok (.ishl, 1) := by decide +kernel
theorem dX12_plain_153 : decode cX12_plain 153 = .ok (.invokevirtual 307, 3) := by decide +kernel
theorem dX12_plain_156 : decode cX12_plain 156 = .ok (.istore 7, 2) := by decide +kernel
theorem dX12_plain_158 : decode cX12_plain 158 = .ok (.iload 5, 2) := by decide +kernel
theorem dX12_plain_160 : decode cX12_plain 160 = .ok (.ifCond .ge 8, 3) := by decide +kernel
theorem dX12_plain_163 : decode cX12_plain 163 = .ok (.iload 7, 2) := by decide +kernel
theorem dX12_plain_165 : decode cX12_plain 165 = .ok (.goto 14, 3) := by decide +kernel
theorem dX12_plain_168 : decode cX12_plain 168 = .ok (.aload_n 0, 1) := by decide +kernel
theorem dX12_plain_169 : decode cX12_plain 169 = .ok (.bipush 13, 2) := by decide +kernel
theorem dX12_plain_171 : decode cX12_plain 171 = .ok (.iload 5, 2) := by decide +kernel
theorem dX12_plain_173 : decode cX12_plain 173 = .ok (.iload 7, 2) := by decide +kernel
theorem dX12_plain_175 : decode cX12_plain 175 = .ok (.iconst 0, 1) := by decide +kernel
theorem dX12_plain_176 : decode cX12_plain 176 = .ok (.invokevirtual 307, 3) := by decide +kernel
theorem dX12_plain_179 : decode cX12_plain 179 = .ok (.istore 5, 2) := by decide +kernel
theorem dX12_plain_181 : decode cX12_plain 181 = .ok (.iinc 6 1, 3) := by decide +kernel
theorem dX12_plain_184 : decode cX12_plain 184 = .ok (.goto (-61), 3) := by decide +kernel
theorem dX12_plain_187 : decode cX12_plain 187 = .ok (.iload 5, 2) := by decide +kernel
theorem dX12_plain_189 : decode cX12_plain 189 = .ok (.ireturn, 1) := by decide +kernel
def f_X12_plain_181 (F P : Nat) (S : xSt) (self_X12_plain : Nat → Int32 → xDt → Option (Int32 × xDt)) (rec_123 : Nat → Int32 → Int32 → Int32 → Int32 → xDt → Option (Int32 × xDt)) (v0 : Nat) (v1 : Int32) (v3 : Int32) (v5 : Int32) (v6 : Int32) (D : xDt) : Option (Int32 × xDt) :=
  xlet (v6 + 1) fun v6_1 => rec_123 v0 v1 v3 v5 v6_1 D
set_option maxHeartbeats 4000000 in
theorem t_X12_plain_181 {F P : Nat} {S : xSt} (hS : xWF S) {hh : Nat} (hhc : 2 ≤ hh) {self_X12_plain : Nat → Int32 → xDt → Option (Int32 × xDt)} (hself_X12_plain : ∀ {v0 : Nat} {v1 : Int32} {D : xDt} {r : Int32 × xDt}, xK S v0 12 → self_X12_plain v0 v1 D = some r → xSp md_X12_plain (hh, 0, 0) [.ref v0, .int v1] (S, D) (xQi S r)) {rec_123 : Nat → Int32 → Int32 → Int32 → Int32 → xDt → Option (Int32 × xDt)} (hrec_123 : ∀ {v0 : Nat} {v1 : Int32} {v3 : Int32} {v5 : Int32} {v6 : Int32} {D : xDt} {r : Int32 × xDt}, xK S v0 12 → rec_123 v0 v1 v3 v5 v6 D = some r → yEx md_X12_plain (hh + 1) 123 [(0, .ref v0), (1, .int v1), (3, .int v3), (5, .int v5), (6, .int v6)] [] S D (xQi S r)) {v0 : Nat} {v1 : Int32} {v3 : Int32} {v5 : Int32} {v6 : Int32} {D : xDt} {r : Int32 × xDt} (k0 : xK S v0 12) (h : f_X12_plain_181 F P S self_X12_plain rec_123 v0 v1 v3 v5 v6 D = some r) : yEx md_X12_plain (hh + 1) 181 [(0, .ref v0), (1, .int v1), (3, .int v3), (5, .int v5), (6, .int v6)] [] S D (xQi S r) := by
  unfold f_X12_plain_181 at h
  refine xlet_e h (fun v6_1 ev6_1 h => ?_)
  refine y_iinc v6_1 ev6_1 (by decide) [(6, .int v6_1), (0, .ref v0), (1, .int v1), (3, .int v3), (5, .int v5)] dX12_plain_181 4 rfl (by show _ < 8; decide) rfl ?_
  refine x_goto 123 dX12_plain_184 (by decide) ?_
  refine x_lv (lv' := [(0, .ref v0), (1, .int v1), (3, .int v3), (5, .int v5), (6, .int v6_1)]) [1, 2, 3, 4, 0] rfl ?_
  exact hrec_123 k0 h

def f_X12_plain_179 (F P : Nat) (S : xSt) (self_X12_plain : Nat → Int32 → xDt → Option (Int32 × xDt)) (rec_123 : Nat → Int32 → Int32 → Int32 → Int32 → xDt → Option (Int32 × xDt)) (v0 : Nat) (v1 : Int32) (v3 : Int32) (v6 : Int32) (s0 : Int32) (D : xDt) : Option (Int32 × xDt) :=
  f_X12_plain_181 F P S self_X12_plain rec_123 v0 v1 v3 s0 v6 D
set_option maxHeartbeats 4000000 in
theorem t_X12_plain_179 {F P : Nat} {S : xSt} (hS : xWF S) {hh : Nat} (hhc : 2 ≤ hh) {self_X12_plain : Nat → Int32 → xDt → Option (Int32 × xDt)} (hself_X12_plain : ∀ {v0 : Nat} {v1 : Int32} {D : xDt} {r : Int32 × xDt}, xK S v0 12 → self_X12_plain v0 v1 D = some r → xSp md_X12_plain (hh, 0, 0) [.ref v0, .int v1] (S, D) (xQi S r)) {rec_123 : Nat → Int32 → Int32 → Int32 → Int32 → xDt → Option (Int32 × xDt)} (hrec_123 : ∀ {v0 : Nat} {v1 : Int32} {v3 : Int32} {v5 : Int32} {v6 : Int32} {D : xDt} {r : Int32 × xDt}, xK S v0 12 → rec_123 v0 v1 v3 v5 v6 D = some r → yEx md_X12_plain (hh + 1) 123 [(0, .ref v0), (1, .int v1), (3, .int v3), (5, .int v5), (6, .int v6)] [] S D (xQi S r)) {v0 : Nat} {v1 : Int32} {v3 : Int32} {v6 : Int32} {s0 : Int32} {D : xDt} {r : Int32 × xDt} (k0 : xK S v0 12) (h : f_X12_plain_179 F P S self_X12_plain rec_123 v0 v1 v3 v6 s0 D = some r) : yEx md_X12_plain (hh + 1) 179 [(0, .ref v0), (1, .int v1), (3, .int v3), (6, .int v6)] [.int s0] S D (xQi S r) := by
  unfold f_X12_plain_179 at h
  refine y_istore s0 rfl [(5, .int s0), (0, .ref v0), (1, .int v1), (3, .int v3), (6, .int v6)] dX12_plain_179 (by show _ < 8; decide) rfl ?_
  refine x_lv (lv' := [(0, .ref v0), (1, .int v1), (3, .int v3), (5, .int s0), (6, .int v6)]) [1, 2, 3, 0, 4] rfl ?_
  exact t_X12_plain_181 hS hhc hself_X12_plain hrec_123 k0 h

def f_X12_plain_123s (F P : Nat) (S : xSt) (self_X12_plain : Nat → Int32 → xDt → Option (Int32 × xDt)) (rec_123 : Nat → Int32 → Int32 → Int32 → Int32 → xDt → Option (Int32 × xDt)) (v0 : Nat) (v1 : Int32) (v3 : Int32) (v5 : Int32) (v6 : Int32) (D : xDt) : Option (Int32 × xDt) :=
  if 4 ≤ v6 then (some (v5, D)) else (xgrd (xin v1 (xl S (xr S v0 11))) (if ((jishr (D.1 (xr S v0 11) (v1).toNatClampNeg) v6) &&& 1) = 1 then ((f_X12_shared F P S v0 5 v3 (-2) (jishl 1 v6) D).bind fun q2 => if 0 ≤ v5 then ((f_X12_shared F P S v0 13 v5 q2.1 0 q2.2).bind fun q3 => f_X12_plain_179 F P S self_X12_plain rec_123 v0 v1 v3 v6 q3.1 q3.2) else (f_X12_plain_179 F P S self_X12_plain rec_123 v0 v1 v3 v6 q2.1 q2.2)) else (f_X12_plain_181 F P S self_X12_plain rec_123 v0 v1 v3 v5 v6 D)))
def f_X12_plain_123 (F P : Nat) (S : xSt) (self_X12_plain : Nat → Int32 → xDt → Option (Int32 × xDt)) : Nat → Nat → Int32 → Int32 → Int32 → Int32 → xDt → Option (Int32 × xDt)
  | 0 => fun _ _ _ _ _ _ => none
  | n + 1 => f_X12_plain_123s F P S self_X12_plain (f_X12_plain_123 F P S self_X12_plain n)
set_option maxHeartbeats 4000000 in
theorem t_X12_plain_123s {F P : Nat} {S : xSt} (hS : xWF S) {hh : Nat} (hhc : 2 ≤ hh) {self_X12_plain : Nat → Int32 → xDt → Option (Int32 × xDt)} (hself_X12_plain : ∀ {v0 : Nat} {v1 : Int32} {D : xDt} {r : Int32 × xDt}, xK S v0 12 → self_X12_plain v0 v1 D = some r → xSp md_X12_plain (hh, 0, 0) [.ref v0, .int v1] (S, D) (xQi S r)) {rec_123 : Nat → Int32 → Int32 → Int32 → Int32 → xDt → Option (Int32 × xDt)} (hrec_123 : ∀ {v0 : Nat} {v1 : Int32} {v3 : Int32} {v5 : Int32} {v6 : Int32} {D : xDt} {r : Int32 × xDt}, xK S v0 12 → rec_123 v0 v1 v3 v5 v6 D = some r → yEx md_X12_plain (hh + 1) 123 [(0, .ref v0), (1, .int v1), (3, .int v3), (5, .int v5), (6, .int v6)] [] S D (xQi S r)) {v0 : Nat} {v1 : Int32} {v3 : Int32} {v5 : Int32} {v6 : Int32} {D : xDt} {r : Int32 × xDt} (k0 : xK S v0 12) (h : f_X12_plain_123s F P S self_X12_plain rec_123 v0 v1 v3 v5 v6 D = some r) : yEx md_X12_plain (hh + 1) 123 [(0, .ref v0), (1, .int v1), (3, .int v3), (5, .int v5), (6, .int v6)] [] S D (xQi S r) := by
  unfold f_X12_plain_123s at h
  refine x_iload dX12_plain_123 4 rfl ?_
  refine x_iconst 4 dX12_plain_125 (by decide) ?_
  refine x_icmp_ge 187 dX12_plain_126 (by decide) (fun c => ?_) (fun c => ?_)
  · rw [if_pos c] at h
    refine x_iload dX12_plain_187 3 rfl ?_
    obtain rfl := Option.some.inj h
    exact y_iret rfl dX12_plain_189
  · rw [if_neg c] at h
    refine x_aload_n dX12_plain_129 0 rfl ?_
    refine y_getr (kd := 100) hS fl_RX12_81 dX12_plain_130 rfl k0 ?_
    refine x_iload_n dX12_plain_133 1 rfl ?_
    refine xgrd_e h (fun g1 h => ?_)
    refine y_iald dX12_plain_134 ((hS.f k0 11 100 rfl).2) g1 ?_
    refine x_iload dX12_plain_135 4 rfl ?_
    refine x_ishr dX12_plain_137 ?_
    refine x_iconst 1 dX12_plain_138 (by decide) ?_
    refine x_iand dX12_plain_139 ?_
    refine x_iconst 1 dX12_plain_140 (by decide) ?_
    refine x_icmp_ne 181 dX12_plain_141 (by decide) (fun c => ?_) (fun c => ?_)
    · rw [if_neg c] at h
      exact t_X12_plain_181 hS hhc hself_X12_plain hrec_123 k0 h
    · rw [if_pos c] at h
      refine x_aload_n dX12_plain_144 0 rfl ?_
      refine x_iconst 5 dX12_plain_145 (by decide) ?_
      refine x_iload_n dX12_plain_146 2 rfl ?_
      refine x_bipush (-2) dX12_plain_147 (by decide) ?_
      refine x_iconst 1 dX12_plain_149 (by decide) ?_
      refine x_iload dX12_plain_150 4 rfl ?_
      refine x_ishl dX12_plain_152 ?_
      refine xbnd_e h (fun q2 e2 h => ?_)
      refine y_callVi (As := [.int 5, .int v3, .int (-2), .int (jishl 1 v6)]) (q := q2) cv_RX12_307 dX12_plain_153 k0 rfl (Nat.le_of_ble_eq_true rfl) (by omega) (S_X12_shared hS k0 e2) ?_
      refine y_istore q2.1 rfl [(7, .int q2.1), (0, .ref v0), (1, .int v1), (3, .int v3), (5, .int v5), (6, .int v6)] dX12_plain_156 (by show _ < 8; decide) rfl ?_
      refine x_iload dX12_plain_158 4 rfl ?_
      refine x_if_ge 168 dX12_plain_160 (by decide) (fun c => ?_) (fun c => ?_)
      · rw [if_pos c] at h
        refine x_aload_n dX12_plain_168 1 rfl ?_
        refine x_bipush 13 dX12_plain_169 (by decide) ?_
        refine x_iload dX12_plain_171 4 rfl ?_
        refine x_iload dX12_plain_173 0 rfl ?_
        refine x_iconst 0 dX12_plain_175 (by decide) ?_
        refine xbnd_e h (fun q3 e3 h => ?_)
        refine y_callVi (As := [.int 13, .int v5, .int q2.1, .int 0]) (q := q3) cv_RX12_307 dX12_plain_176 k0 rfl (Nat.le_of_ble_eq_true rfl) (by omega) (S_X12_shared hS k0 e3) ?_
        refine x_lv (lv' := [(0, .ref v0), (1, .int v1), (3, .int v3), (6, .int v6)]) [1, 2, 3, 5] rfl ?_
        exact t_X12_plain_179 hS hhc hself_X12_plain hrec_123 k0 h
      · rw [if_neg c] at h
        refine x_iload dX12_plain_163 0 rfl ?_
        refine x_goto 179 dX12_plain_165 (by decide) ?_
        refine x_lv (lv' := [(0, .ref v0), (1, .int v1), (3, .int v3), (6, .int v6)]) [1, 2, 3, 5] rfl ?_
        exact t_X12_plain_179 hS hhc hself_X12_plain hrec_123 k0 h
theorem t_X12_plain_123 {F P : Nat} {S : xSt} (hS : xWF S) {hh : Nat} (hhc : 2 ≤ hh) {self_X12_plain : Nat → Int32 → xDt → Option (Int32 × xDt)} (hself_X12_plain : ∀ {v0 : Nat} {v1 : Int32} {D : xDt} {r : Int32 × xDt}, xK S v0 12 → self_X12_plain v0 v1 D = some r → xSp md_X12_plain (hh, 0, 0) [.ref v0, .int v1] (S, D) (xQi S r)) : ∀ (n : Nat) {v0 : Nat} {v1 : Int32} {v3 : Int32} {v5 : Int32} {v6 : Int32} {D : xDt} {r : Int32 × xDt}, xK S v0 12 → f_X12_plain_123 F P S self_X12_plain n v0 v1 v3 v5 v6 D = some r → yEx md_X12_plain (hh + 1) 123 [(0, .ref v0), (1, .int v1), (3, .int v3), (5, .int v5), (6, .int v6)] [] S D (xQi S r) := by
  intro n
  induction n with
  | zero => intros; rename_i h; cases h
  | succ n ih =>
    intro v0 v1 v3 v5 v6 D r k0 h
    exact t_X12_plain_123s hS hhc hself_X12_plain (fun k0 h => ih k0 h) k0 h

def f_X12_plain_56 (F P : Nat) (S : xSt) (self_X12_plain : Nat → Int32 → xDt → Option (Int32 × xDt)) (v0 : Nat) (v1 : Int32) (v2 : Int32) (v3 : Int32) (s0 : Int32) (D : xDt) : Option (Int32 × xDt) :=
  if v2 = 6 then ((f_X12_shared F P S v0 4 v3 (-2) 0 D).bind fun q3 => xgrd (xin v1 (xl S (xr S v0 11))) ((f_X12_shared F P S v0 5 q3.1 (-2) (q3.2.1 (xr S v0 11) (v1).toNatClampNeg) q3.2).bind fun q5 => (f_X12_shared F P S v0 4 q5.1 (-2) 0 q5.2).bind fun q6 => some (q6.1, q6.2))) else (if v2 = 7 then (f_X12_plain_123 F P S self_X12_plain F v0 v1 v3 (-2) 0 D) else (xgrd (xin v1 (xl S (xr S v0 11))) ((f_X12_shared F P S v0 v2 v3 s0 (D.1 (xr S v0 11) (v1).toNatClampNeg) D).bind fun q2 => some (q2.1, q2.2))))
set_option maxHeartbeats 4000000 in
theorem t_X12_plain_56 {F P : Nat} {S : xSt} (hS : xWF S) {hh : Nat} (hhc : 2 ≤ hh) {self_X12_plain : Nat → Int32 → xDt → Option (Int32 × xDt)} (hself_X12_plain : ∀ {v0 : Nat} {v1 : Int32} {D : xDt} {r : Int32 × xDt}, xK S v0 12 → self_X12_plain v0 v1 D = some r → xSp md_X12_plain (hh, 0, 0) [.ref v0, .int v1] (S, D) (xQi S r)) {v0 : Nat} {v1 : Int32} {v2 : Int32} {v3 : Int32} {s0 : Int32} {D : xDt} {r : Int32 × xDt} (k0 : xK S v0 12) (h : f_X12_plain_56 F P S self_X12_plain v0 v1 v2 v3 s0 D = some r) : yEx md_X12_plain (hh + 1) 56 [(0, .ref v0), (1, .int v1), (2, .int v2), (3, .int v3)] [.int s0] S D (xQi S r) := by
  unfold f_X12_plain_56 at h
  refine y_istore s0 rfl [(4, .int s0), (0, .ref v0), (1, .int v1), (2, .int v2), (3, .int v3)] dX12_plain_56 (by show _ < 8; decide) rfl ?_
  refine x_iload_n dX12_plain_58 3 rfl ?_
  refine x_bipush 6 dX12_plain_59 (by decide) ?_
  refine x_icmp_ne 95 dX12_plain_61 (by decide) (fun c => ?_) (fun c => ?_)
  · rw [if_neg c] at h
    refine x_iload_n dX12_plain_95 3 rfl ?_
    refine x_bipush 7 dX12_plain_96 (by decide) ?_
    refine x_icmp_eq 116 dX12_plain_98 (by decide) (fun c => ?_) (fun c => ?_)
    · rw [if_pos c] at h
      refine x_bipush (-2) dX12_plain_116 (by decide) ?_
      refine y_istore (-2) rfl [(5, .int (-2)), (4, .int s0), (0, .ref v0), (1, .int v1), (2, .int v2), (3, .int v3)] dX12_plain_118 (by show _ < 8; decide) rfl ?_
      refine x_iconst 0 dX12_plain_120 (by decide) ?_
      refine y_istore 0 rfl [(6, .int 0), (5, .int (-2)), (4, .int s0), (0, .ref v0), (1, .int v1), (2, .int v2), (3, .int v3)] dX12_plain_121 (by show _ < 8; decide) rfl ?_
      refine x_lv (lv' := [(0, .ref v0), (1, .int v1), (3, .int v3), (5, .int (-2)), (6, .int 0)]) [3, 4, 6, 1, 0] rfl ?_
      exact t_X12_plain_123 hS hhc hself_X12_plain F k0 h
    · rw [if_neg c] at h
      refine x_aload_n dX12_plain_101 1 rfl ?_
      refine x_iload_n dX12_plain_102 3 rfl ?_
      refine x_iload_n dX12_plain_103 4 rfl ?_
      refine x_iload dX12_plain_104 0 rfl ?_
      refine x_aload_n dX12_plain_106 1 rfl ?_
      refine y_getr (kd := 100) hS fl_RX12_81 dX12_plain_107 rfl k0 ?_
      refine x_iload_n dX12_plain_110 2 rfl ?_
      refine xgrd_e h (fun g1 h => ?_)
      refine y_iald dX12_plain_111 ((hS.f k0 11 100 rfl).2) g1 ?_
      refine xbnd_e h (fun q2 e2 h => ?_)
      refine y_callVi (As := [.int v2, .int v3, .int s0, .int (D.1 (xr S v0 11) (v1).toNatClampNeg)]) (q := q2) cv_RX12_307 dX12_plain_112 k0 rfl (Nat.le_of_ble_eq_true rfl) (by omega) (S_X12_shared hS k0 e2) ?_
      obtain rfl := Option.some.inj h
      exact y_iret rfl dX12_plain_115
  · rw [if_pos c] at h
    refine x_aload_n dX12_plain_64 1 rfl ?_
    refine x_iconst 4 dX12_plain_65 (by decide) ?_
    refine x_aload_n dX12_plain_66 1 rfl ?_
    refine x_iconst 5 dX12_plain_67 (by decide) ?_
    refine x_aload_n dX12_plain_68 1 rfl ?_
    refine x_iconst 4 dX12_plain_69 (by decide) ?_
    refine x_iload_n dX12_plain_70 4 rfl ?_
    refine x_bipush (-2) dX12_plain_71 (by decide) ?_
    refine x_iconst 0 dX12_plain_73 (by decide) ?_
    refine xbnd_e h (fun q3 e3 h => ?_)
    refine y_callVi (As := [.int 4, .int v3, .int (-2), .int 0]) (q := q3) cv_RX12_307 dX12_plain_74 k0 rfl (Nat.le_of_ble_eq_true rfl) (by omega) (S_X12_shared hS k0 e3) ?_
    refine x_bipush (-2) dX12_plain_77 (by decide) ?_
    refine x_aload_n dX12_plain_79 1 rfl ?_
    refine y_getr (kd := 100) hS fl_RX12_81 dX12_plain_80 rfl k0 ?_
    refine x_iload_n dX12_plain_83 2 rfl ?_
    refine xgrd_e h (fun g4 h => ?_)
    refine y_iald dX12_plain_84 ((hS.f k0 11 100 rfl).2) g4 ?_
    refine xbnd_e h (fun q5 e5 h => ?_)
    refine y_callVi (As := [.int 5, .int q3.1, .int (-2), .int (q3.2.1 (xr S v0 11) (v1).toNatClampNeg)]) (q := q5) cv_RX12_307 dX12_plain_85 k0 rfl (Nat.le_of_ble_eq_true rfl) (by omega) (S_X12_shared hS k0 e5) ?_
    refine x_bipush (-2) dX12_plain_88 (by decide) ?_
    refine x_iconst 0 dX12_plain_90 (by decide) ?_
    refine xbnd_e h (fun q6 e6 h => ?_)
    refine y_callVi (As := [.int 4, .int q5.1, .int (-2), .int 0]) (q := q6) cv_RX12_307 dX12_plain_91 k0 rfl (Nat.le_of_ble_eq_true rfl) (by omega) (S_X12_shared hS k0 e6) ?_
    obtain rfl := Option.some.inj h
    exact y_iret rfl dX12_plain_94

def f_X12_plain_31 (F P : Nat) (S : xSt) (self_X12_plain : Nat → Int32 → xDt → Option (Int32 × xDt)) (v0 : Nat) (v1 : Int32) (v2 : Int32) (s0 : Int32) (D : xDt) : Option (Int32 × xDt) :=
  xgrd (xin v1 (xl S (xr S v0 10))) (if 0 ≤ (D.1 (xr S v0 10) (v1).toNatClampNeg) then (xgrd (xin v1 (xl S (xr S v0 10))) ((self_X12_plain v0 (D.1 (xr S v0 10) (v1).toNatClampNeg) D).bind fun q3 => f_X12_plain_56 F P S self_X12_plain v0 v1 v2 s0 q3.1 q3.2)) else (f_X12_plain_56 F P S self_X12_plain v0 v1 v2 s0 (-2) D))
set_option maxHeartbeats 4000000 in
theorem t_X12_plain_31 {F P : Nat} {S : xSt} (hS : xWF S) {hh : Nat} (hhc : 2 ≤ hh) {self_X12_plain : Nat → Int32 → xDt → Option (Int32 × xDt)} (hself_X12_plain : ∀ {v0 : Nat} {v1 : Int32} {D : xDt} {r : Int32 × xDt}, xK S v0 12 → self_X12_plain v0 v1 D = some r → xSp md_X12_plain (hh, 0, 0) [.ref v0, .int v1] (S, D) (xQi S r)) {v0 : Nat} {v1 : Int32} {v2 : Int32} {s0 : Int32} {D : xDt} {r : Int32 × xDt} (k0 : xK S v0 12) (h : f_X12_plain_31 F P S self_X12_plain v0 v1 v2 s0 D = some r) : yEx md_X12_plain (hh + 1) 31 [(0, .ref v0), (1, .int v1), (2, .int v2)] [.int s0] S D (xQi S r) := by
  unfold f_X12_plain_31 at h
  refine y_istore_n s0 rfl [(3, .int s0), (0, .ref v0), (1, .int v1), (2, .int v2)] dX12_plain_31 (by show _ < 8; decide) rfl ?_
  refine x_aload_n dX12_plain_32 1 rfl ?_
  refine y_getr (kd := 100) hS fl_RX12_78 dX12_plain_33 rfl k0 ?_
  refine x_iload_n dX12_plain_36 2 rfl ?_
  refine xgrd_e h (fun g1 h => ?_)
  refine y_iald dX12_plain_37 ((hS.f k0 10 100 rfl).2) g1 ?_
  refine x_if_ge 46 dX12_plain_38 (by decide) (fun c => ?_) (fun c => ?_)
  · rw [if_pos c] at h
    refine x_aload_n dX12_plain_46 1 rfl ?_
    refine x_aload_n dX12_plain_47 1 rfl ?_
    refine y_getr (kd := 100) hS fl_RX12_78 dX12_plain_48 rfl k0 ?_
    refine x_iload_n dX12_plain_51 2 rfl ?_
    refine xgrd_e h (fun g2 h => ?_)
    refine y_iald dX12_plain_52 ((hS.f k0 10 100 rfl).2) g2 ?_
    refine xbnd_e h (fun q3 e3 h => ?_)
    refine y_callVi (As := [.int (D.1 (xr S v0 10) (v1).toNatClampNeg)]) (q := q3) cv_RX12_304 dX12_plain_53 k0 rfl (Nat.le_of_ble_eq_true rfl) (by omega) (hself_X12_plain k0 e3) ?_
    refine x_lv (lv' := [(0, .ref v0), (1, .int v1), (2, .int v2), (3, .int s0)]) [1, 2, 3, 0] rfl ?_
    exact t_X12_plain_56 hS hhc hself_X12_plain k0 h
  · rw [if_neg c] at h
    refine x_bipush (-2) dX12_plain_41 (by decide) ?_
    refine x_goto 56 dX12_plain_43 (by decide) ?_
    refine x_lv (lv' := [(0, .ref v0), (1, .int v1), (2, .int v2), (3, .int s0)]) [1, 2, 3, 0] rfl ?_
    exact t_X12_plain_56 hS hhc hself_X12_plain k0 h

def f_X12_plain_o (F P : Nat) (S : xSt) (self_X12_plain : Nat → Int32 → xDt → Option (Int32 × xDt)) (v0 : Nat) (v1 : Int32) (D : xDt) : Option (Int32 × xDt) :=
  xgrd (xin v1 (xl S (xr S v0 8))) (xlet (D.1 (xr S v0 8) (v1).toNatClampNeg) fun v2_2 => xgrd (xin v1 (xl S (xr S v0 9))) (if 0 ≤ (D.1 (xr S v0 9) (v1).toNatClampNeg) then (xgrd (xin v1 (xl S (xr S v0 9))) ((self_X12_plain v0 (D.1 (xr S v0 9) (v1).toNatClampNeg) D).bind fun q5 => f_X12_plain_31 F P S self_X12_plain v0 v1 v2_2 q5.1 q5.2)) else (f_X12_plain_31 F P S self_X12_plain v0 v1 v2_2 (-2) D)))
set_option maxHeartbeats 4000000 in
theorem S_X12_plain_o {F P : Nat} {S : xSt} (hS : xWF S) {hh : Nat} (hhc : 2 ≤ hh) {self_X12_plain : Nat → Int32 → xDt → Option (Int32 × xDt)} (hself_X12_plain : ∀ {v0 : Nat} {v1 : Int32} {D : xDt} {r : Int32 × xDt}, xK S v0 12 → self_X12_plain v0 v1 D = some r → xSp md_X12_plain (hh, 0, 0) [.ref v0, .int v1] (S, D) (xQi S r)) {v0 : Nat} {v1 : Int32} {D : xDt} {r : Int32 × xDt} (k0 : xK S v0 12) (h : f_X12_plain_o F P S self_X12_plain v0 v1 D = some r) : xSp md_X12_plain ((hh + 1), 0, 0) [.ref v0, .int v1] (S, D) (xQi S r) := by
  unfold f_X12_plain_o at h
  refine xEntry (by decide) (Nat.le_of_ble_eq_true rfl) ?_
  refine x_lv (lv' := [(0, .ref v0), (1, .int v1)]) [0, 1] rfl ?_
  refine x_aload_n dX12_plain_0 0 rfl ?_
  refine y_getr (kd := 100) hS fl_RX12_72 dX12_plain_1 rfl k0 ?_
  refine x_iload_n dX12_plain_4 1 rfl ?_
  refine xgrd_e h (fun g1 h => ?_)
  refine y_iald dX12_plain_5 ((hS.f k0 8 100 rfl).2) g1 ?_
  refine xlet_e h (fun v2_2 ev2_2 h => ?_)
  refine y_istore_n v2_2 ev2_2 [(2, .int v2_2), (0, .ref v0), (1, .int v1)] dX12_plain_6 (by show _ < 8; decide) rfl ?_
  refine x_aload_n dX12_plain_7 1 rfl ?_
  refine y_getr (kd := 100) hS fl_RX12_75 dX12_plain_8 rfl k0 ?_
  refine x_iload_n dX12_plain_11 2 rfl ?_
  refine xgrd_e h (fun g3 h => ?_)
  refine y_iald dX12_plain_12 ((hS.f k0 9 100 rfl).2) g3 ?_
  refine x_if_ge 21 dX12_plain_13 (by decide) (fun c => ?_) (fun c => ?_)
  · rw [if_pos c] at h
    refine x_aload_n dX12_plain_21 1 rfl ?_
    refine x_aload_n dX12_plain_22 1 rfl ?_
    refine y_getr (kd := 100) hS fl_RX12_75 dX12_plain_23 rfl k0 ?_
    refine x_iload_n dX12_plain_26 2 rfl ?_
    refine xgrd_e h (fun g4 h => ?_)
    refine y_iald dX12_plain_27 ((hS.f k0 9 100 rfl).2) g4 ?_
    refine xbnd_e h (fun q5 e5 h => ?_)
    refine y_callVi (As := [.int (D.1 (xr S v0 9) (v1).toNatClampNeg)]) (q := q5) cv_RX12_304 dX12_plain_28 k0 rfl (Nat.le_of_ble_eq_true rfl) (by omega) (hself_X12_plain k0 e5) ?_
    refine x_lv (lv' := [(0, .ref v0), (1, .int v1), (2, .int v2_2)]) [1, 2, 0] rfl ?_
    exact t_X12_plain_31 hS hhc hself_X12_plain k0 h
  · rw [if_neg c] at h
    refine x_bipush (-2) dX12_plain_16 (by decide) ?_
    refine x_goto 31 dX12_plain_18 (by decide) ?_
    refine x_lv (lv' := [(0, .ref v0), (1, .int v1), (2, .int v2_2)]) [1, 2, 0] rfl ?_
    exact t_X12_plain_31 hS hhc hself_X12_plain k0 h

def f_X12_plain (F P : Nat) (S : xSt) : Nat → Nat → Int32 → xDt → Option (Int32 × xDt)
  | 0 => fun _ _ _ => none
  | n + 1 => f_X12_plain_o F P S (f_X12_plain F P S n)
theorem S_X12_plain {F P : Nat} {S : xSt} (hS : xWF S) : ∀ (n : Nat) {v0 : Nat} {v1 : Int32} {D : xDt} {r : Int32 × xDt}, xK S v0 12 → f_X12_plain F P S n v0 v1 D = some r → xSp md_X12_plain (n + 2, 0, 0) [.ref v0, .int v1] (S, D) (xQi S r) := by
  intro n
  induction n with
  | zero => intros; rename_i h; cases h
  | succ n ih =>
    intro v0 v1 D r k0 h
    have := S_X12_plain_o hS (hh := n + 2) (by omega) (fun k0 h => ih k0 h) k0 h
    rw [show n + 1 + 2 = n + 2 + 1 by omega]
    exact this

theorem dX12_inBase_0 : decode cX12_inBase 0 = .ok (.iconst 0, 1) := by decide +kernel
theorem dX12_inBase_1 : decode cX12_inBase 1 = .ok (.istore_n 2, 1) := by decide +kernel
theorem dX12_inBase_2 : decode cX12_inBase 2 = .ok (.iload_n 2, 1) := by decide +kernel
theorem dX12_inBase_3 : decode cX12_inBase 3 = .ok (.aload_n 0, 1) := by decide +kernel
theorem dX12_inBase_4 : decode cX12_inBase 4 = .ok (.getfield 310, 3) := by decide +kernel
theorem dX12_inBase_7 : decode cX12_inBase 7 = .ok (.if_icmp .ge 20, 3) := by decide +kernel
theorem dX12_inBase_10 : decode cX12_inBase 10 = .ok (.aload_n 0, 1) := by decide +kernel
theorem dX12_inBase_11 : decode cX12_inBase 11 = .ok (.getfield 134, 3) := by decide +kernel
theorem dX12_inBase_14 : decode cX12_inBase 14 = .ok (.iload_n 2, 1) := by decide +kernel
theorem dX12_inBase_15 : decode cX12_inBase 15 = .ok (.iaload, 1) := by decide +kernel
theorem dX12_inBase_16 : decode cX12_inBase 16 = .ok (.iload_n 1, 1) := by decide +kernel
theorem dX12_inBase_17 : decode cX12_inBase 17 = .ok (.if_icmp .ne 4, 3) := by decide +kernel
theorem dX12_inBase_20 : decode cX12_inBase 20 = .ok (.return_, 1) := by decide +kernel
theorem dX12_inBase_21 : decode cX12_inBase 21 = .ok (.iinc 2 1, 3) := by decide +kernel
theorem dX12_inBase_24 : decode cX12_inBase 24 = .ok (.goto (-22), 3) := by decide +kernel
theorem dX12_inBase_27 : decode cX12_inBase 27 = .ok (.aload_n 0, 1) := by decide +kernel
theorem dX12_inBase_28 : decode cX12_inBase 28 = .ok (.getfield 134, 3) := by decide +kernel
theorem dX12_inBase_31 : decode cX12_inBase 31 = .ok (.aload_n 0, 1) := by decide +kernel
theorem dX12_inBase_32 : decode cX12_inBase 32 = .ok (.getfield 310, 3) := by decide +kernel
theorem dX12_inBase_35 : decode cX12_inBase 35 = .ok (.iload_n 1, 1) := by decide +kernel
theorem dX12_inBase_36 : decode cX12_inBase 36 = .ok (.iastore, 1) := by decide +kernel
theorem dX12_inBase_37 : decode cX12_inBase 37 = .ok (.aload_n 0, 1) := by decide +kernel
theorem dX12_inBase_38 : decode cX12_inBase 38 = .ok (.dup, 1) := by decide +kernel
theorem dX12_inBase_39 : decode cX12_inBase 39 = .ok (.getfield 310, 3) := by decide +kernel
theorem dX12_inBase_42 : decode cX12_inBase 42 = .ok (.iconst 1, 1) := by decide +kernel
theorem dX12_inBase_43 : decode cX12_inBase 43 = .ok (.iadd, 1) := by decide +kernel
theorem dX12_inBase_44 : decode cX12_inBase 44 = .ok (.putfield 310, 3) := by decide +kernel
theorem dX12_inBase_47 : decode cX12_inBase 47 = .ok (.return_, 1) := by decide +kernel
def f_X12_inBase_2s (F P : Nat) (S : xSt) (rec_2 : Nat → Int32 → Int32 → xDt → Option (xDt)) (v0 : Nat) (v1 : Int32) (v2 : Int32) (D : xDt) : Option (xDt) :=
  if (D.1 v0 38) ≤ v2 then (xgrd (xin (D.1 v0 38) (xl S (xr S v0 37))) (xlet (xup D.1 (xr S v0 37) (D.1 v0 38).toNatClampNeg v1, D.2) fun D2 => xlet (xup D2.1 v0 38 ((D2.1 v0 38) + 1), D2.2) fun D3 => some D3)) else (xgrd (xin v2 (xl S (xr S v0 37))) (if (D.1 (xr S v0 37) (v2).toNatClampNeg) = v1 then (some D) else (xlet (v2 + 1) fun v2_5 => rec_2 v0 v1 v2_5 D)))
def f_X12_inBase_2 (F P : Nat) (S : xSt) : Nat → Nat → Int32 → Int32 → xDt → Option (xDt)
  | 0 => fun _ _ _ _ => none
  | n + 1 => f_X12_inBase_2s F P S (f_X12_inBase_2 F P S n)
set_option maxHeartbeats 4000000 in
theorem t_X12_inBase_2s {F P : Nat} {S : xSt} (hS : xWF S) {rec_2 : Nat → Int32 → Int32 → xDt → Option (xDt)} (hrec_2 : ∀ {v0 : Nat} {v1 : Int32} {v2 : Int32} {D : xDt} {r : xDt}, xK S v0 12 → rec_2 v0 v1 v2 D = some r → yEx md_X12_inBase 0 2 [(0, .ref v0), (1, .int v1), (2, .int v2)] [] S D (xQv S r)) {v0 : Nat} {v1 : Int32} {v2 : Int32} {D : xDt} {r : xDt} (k0 : xK S v0 12) (h : f_X12_inBase_2s F P S rec_2 v0 v1 v2 D = some r) : yEx md_X12_inBase 0 2 [(0, .ref v0), (1, .int v1), (2, .int v2)] [] S D (xQv S r) := by
  unfold f_X12_inBase_2s at h
  refine x_iload_n dX12_inBase_2 2 rfl ?_
  refine x_aload_n dX12_inBase_3 0 rfl ?_
  refine y_geti fl_RX12_310 dX12_inBase_4 rfl k0 ?_
  refine x_icmp_ge 27 dX12_inBase_7 (by decide) (fun c => ?_) (fun c => ?_)
  · rw [if_pos c] at h
    refine x_aload_n dX12_inBase_27 0 rfl ?_
    refine y_getr (kd := 100) hS fl_RX12_134 dX12_inBase_28 rfl k0 ?_
    refine x_aload_n dX12_inBase_31 0 rfl ?_
    refine y_geti fl_RX12_310 dX12_inBase_32 rfl k0 ?_
    refine x_iload_n dX12_inBase_35 1 rfl ?_
    refine xgrd_e h (fun g1 h => ?_)
    refine xlet_e h (fun D2 eD2 h => ?_)
    refine y_iast dX12_inBase_36 ((hS.f k0 37 100 rfl).2) g1 eD2 ?_
    refine x_aload_n dX12_inBase_37 0 rfl ?_
    refine x_dup dX12_inBase_38 rfl ?_
    refine y_geti fl_RX12_310 dX12_inBase_39 rfl k0 ?_
    refine x_iconst 1 dX12_inBase_42 (by decide) ?_
    refine x_iadd dX12_inBase_43 ?_
    refine xlet_e h (fun D3 eD3 h => ?_)
    refine y_puti fp_RX12_310 dX12_inBase_44 rfl k0 eD3 ?_
    obtain rfl := Option.some.inj h
    exact y_vret rfl dX12_inBase_47
  · rw [if_neg c] at h
    refine x_aload_n dX12_inBase_10 0 rfl ?_
    refine y_getr (kd := 100) hS fl_RX12_134 dX12_inBase_11 rfl k0 ?_
    refine x_iload_n dX12_inBase_14 2 rfl ?_
    refine xgrd_e h (fun g4 h => ?_)
    refine y_iald dX12_inBase_15 ((hS.f k0 37 100 rfl).2) g4 ?_
    refine x_iload_n dX12_inBase_16 1 rfl ?_
    refine x_icmp_ne 21 dX12_inBase_17 (by decide) (fun c => ?_) (fun c => ?_)
    · rw [if_neg c] at h
      refine xlet_e h (fun v2_5 ev2_5 h => ?_)
      refine y_iinc v2_5 ev2_5 (by decide) [(2, .int v2_5), (0, .ref v0), (1, .int v1)] dX12_inBase_21 2 rfl (by show _ < 3; decide) rfl ?_
      refine x_goto 2 dX12_inBase_24 (by decide) ?_
      refine x_lv (lv' := [(0, .ref v0), (1, .int v1), (2, .int v2_5)]) [1, 2, 0] rfl ?_
      exact hrec_2 k0 h
    · rw [if_pos c] at h
      obtain rfl := Option.some.inj h
      exact y_vret rfl dX12_inBase_20
theorem t_X12_inBase_2 {F P : Nat} {S : xSt} (hS : xWF S) : ∀ (n : Nat) {v0 : Nat} {v1 : Int32} {v2 : Int32} {D : xDt} {r : xDt}, xK S v0 12 → f_X12_inBase_2 F P S n v0 v1 v2 D = some r → yEx md_X12_inBase 0 2 [(0, .ref v0), (1, .int v1), (2, .int v2)] [] S D (xQv S r) := by
  intro n
  induction n with
  | zero => intros; rename_i h; cases h
  | succ n ih =>
    intro v0 v1 v2 D r k0 h
    exact t_X12_inBase_2s hS (fun k0 h => ih k0 h) k0 h

def f_X12_inBase (F P : Nat) (S : xSt) (v0 : Nat) (v1 : Int32) (D : xDt) : Option (xDt) :=
  f_X12_inBase_2 F P S F v0 v1 0 D
set_option maxHeartbeats 4000000 in
theorem S_X12_inBase {F P : Nat} {S : xSt} (hS : xWF S) {v0 : Nat} {v1 : Int32} {D : xDt} {r : xDt} (k0 : xK S v0 12) (h : f_X12_inBase F P S v0 v1 D = some r) : xSp md_X12_inBase (0, 0, 0) [.ref v0, .int v1] (S, D) (xQv S r) := by
  unfold f_X12_inBase at h
  refine xEntry (by decide) (Nat.le_of_ble_eq_true rfl) ?_
  refine x_lv (lv' := [(0, .ref v0), (1, .int v1)]) [0, 1] rfl ?_
  refine x_iconst 0 dX12_inBase_0 (by decide) ?_
  refine y_istore_n 0 rfl [(2, .int 0), (0, .ref v0), (1, .int v1)] dX12_inBase_1 (by show _ < 3; decide) rfl ?_
  refine x_lv (lv' := [(0, .ref v0), (1, .int v1), (2, .int 0)]) [1, 2, 0] rfl ?_
  exact t_X12_inBase_2 hS F k0 h

theorem dX12_placeInBase_0 : decode cX12_placeInBase 0 = .ok (.bipush (-2), 2) := by decide +kernel
theorem dX12_placeInBase_2 : decode cX12_placeInBase 2 = .ok (.istore_n 2, 1) := by decide +kernel
theorem dX12_placeInBase_3 : decode cX12_placeInBase 3 = .ok (.iconst 0, 1) := by decide +kernel
theorem dX12_placeInBase_4 : decode cX12_placeInBase 4 = .ok (.istore_n 3, 1) := by decide +kernel
theorem dX12_placeInBase_5 : decode cX12_placeInBase 5 = .ok (.iload_n 3, 1) := by decide +kernel
theorem dX12_placeInBase_6 : decode cX12_placeInBase 6 = .ok (.aload_n 0, 1) := by decide +kernel
theorem dX12_placeInBase_7 : decode cX12_placeInBase 7 = .ok (.getfield 310, 3) := by decide +kernel
theorem dX12_placeInBase_10 : decode cX12_placeInBase 10 = .ok (.if_icmp .ge 25, 3) := by decide +kernel
theorem dX12_placeInBase_13 : decode cX12_placeInBase 13 = .ok (.aload_n 0, 1) := by decide +kernel
theorem dX12_placeInBase_14 : decode cX12_placeInBase 14 = .ok (.getfield 134, 3) := by decide +kernel
theorem dX12_placeInBase_17 : decode cX12_placeInBase 17 = .ok (.iload_n 3, 1) := by decide +kernel
theorem dX12_placeInBase_18 : decode cX12_placeInBase 18 = .ok (.iaload, 1) := by decide +kernel
theorem dX12_placeInBase_19 : decode cX12_placeInBase 19 = .ok (.iload_n 1, 1) := by decide +kernel
theorem dX12_placeInBase_20 : decode cX12_placeInBase 20 = .ok (.if_icmp .ne 7, 3) := by decide +kernel
theorem dX12_placeInBase_23 : decode cX12_placeInBase 23 = .ok (.iload_n 3, 1) := by decide +kernel
theorem dX12_placeInBase_24 : decode cX12_placeInBase 24 = .ok (.goto 4, 3) := by decide +kernel
theorem dX12_placeInBase_27 : decode cX12_placeInBase 27 = .ok (.iload_n 2, 1) := by decide +kernel
theorem dX12_placeInBase_28 : decode cX12_placeInBase 28 = .ok (.istore_n 2, 1) := by decide +kernel
theorem dX12_placeInBase_29 : decode cX12_placeInBase 29 = .ok (.iinc 3 1, 3) := by decide +kernel
theorem dX12_placeInBase_32 : decode cX12_placeInBase 32 = .ok (.goto (-27), 3) := by decide +kernel
theorem dX12_placeInBase_35 : decode cX12_placeInBase 35 = .ok (.iload_n 2, 1) := by decide +kernel
theorem dX12_placeInBase_36 : decode cX12_placeInBase 36 = .ok (.ireturn, 1) := by decide +kernel
def f_X12_placeInBase_28 (F P : Nat) (S : xSt) (rec_5 : Nat → Int32 → Int32 → Int32 → xDt → Option (Int32 × xDt)) (v0 : Nat) (v1 : Int32) (v3 : Int32) (s0 : Int32) (D : xDt) : Option (Int32 × xDt) :=
  xlet (v3 + 1) fun v3_1 => rec_5 v0 v1 s0 v3_1 D
set_option maxHeartbeats 4000000 in
theorem t_X12_placeInBase_28 {F P : Nat} {S : xSt} (hS : xWF S) {rec_5 : Nat → Int32 → Int32 → Int32 → xDt → Option (Int32 × xDt)} (hrec_5 : ∀ {v0 : Nat} {v1 : Int32} {v2 : Int32} {v3 : Int32} {D : xDt} {r : Int32 × xDt}, xK S v0 12 → rec_5 v0 v1 v2 v3 D = some r → yEx md_X12_placeInBase 0 5 [(0, .ref v0), (1, .int v1), (2, .int v2), (3, .int v3)] [] S D (xQi S r)) {v0 : Nat} {v1 : Int32} {v3 : Int32} {s0 : Int32} {D : xDt} {r : Int32 × xDt} (k0 : xK S v0 12) (h : f_X12_placeInBase_28 F P S rec_5 v0 v1 v3 s0 D = some r) : yEx md_X12_placeInBase 0 28 [(0, .ref v0), (1, .int v1), (3, .int v3)] [.int s0] S D (xQi S r) := by
  unfold f_X12_placeInBase_28 at h
  refine y_istore_n s0 rfl [(2, .int s0), (0, .ref v0), (1, .int v1), (3, .int v3)] dX12_placeInBase_28 (by show _ < 4; decide) rfl ?_
  refine xlet_e h (fun v3_1 ev3_1 h => ?_)
  refine y_iinc v3_1 ev3_1 (by decide) [(3, .int v3_1), (2, .int s0), (0, .ref v0), (1, .int v1)] dX12_placeInBase_29 3 rfl (by show _ < 4; decide) rfl ?_
  refine x_goto 5 dX12_placeInBase_32 (by decide) ?_
  refine x_lv (lv' := [(0, .ref v0), (1, .int v1), (2, .int s0), (3, .int v3_1)]) [2, 3, 1, 0] rfl ?_
  exact hrec_5 k0 h

def f_X12_placeInBase_5s (F P : Nat) (S : xSt) (rec_5 : Nat → Int32 → Int32 → Int32 → xDt → Option (Int32 × xDt)) (v0 : Nat) (v1 : Int32) (v2 : Int32) (v3 : Int32) (D : xDt) : Option (Int32 × xDt) :=
  if (D.1 v0 38) ≤ v3 then (some (v2, D)) else (xgrd (xin v3 (xl S (xr S v0 37))) (if (D.1 (xr S v0 37) (v3).toNatClampNeg) = v1 then (f_X12_placeInBase_28 F P S rec_5 v0 v1 v3 v3 D) else (f_X12_placeInBase_28 F P S rec_5 v0 v1 v3 v2 D)))
def f_X12_placeInBase_5 (F P : Nat) (S : xSt) : Nat → Nat → Int32 → Int32 → Int32 → xDt → Option (Int32 × xDt)
  | 0 => fun _ _ _ _ _ => none
  | n + 1 => f_X12_placeInBase_5s F P S (f_X12_placeInBase_5 F P S n)
set_option maxHeartbeats 4000000 in
theorem t_X12_placeInBase_5s {F P : Nat} {S : xSt} (hS : xWF S) {rec_5 : Nat → Int32 → Int32 → Int32 → xDt → Option (Int32 × xDt)} (hrec_5 : ∀ {v0 : Nat} {v1 : Int32} {v2 : Int32} {v3 : Int32} {D : xDt} {r : Int32 × xDt}, xK S v0 12 → rec_5 v0 v1 v2 v3 D = some r → yEx md_X12_placeInBase 0 5 [(0, .ref v0), (1, .int v1), (2, .int v2), (3, .int v3)] [] S D (xQi S r)) {v0 : Nat} {v1 : Int32} {v2 : Int32} {v3 : Int32} {D : xDt} {r : Int32 × xDt} (k0 : xK S v0 12) (h : f_X12_placeInBase_5s F P S rec_5 v0 v1 v2 v3 D = some r) : yEx md_X12_placeInBase 0 5 [(0, .ref v0), (1, .int v1), (2, .int v2), (3, .int v3)] [] S D (xQi S r) := by
  unfold f_X12_placeInBase_5s at h
  refine x_iload_n dX12_placeInBase_5 3 rfl ?_
  refine x_aload_n dX12_placeInBase_6 0 rfl ?_
  refine y_geti fl_RX12_310 dX12_placeInBase_7 rfl k0 ?_
  refine x_icmp_ge 35 dX12_placeInBase_10 (by decide) (fun c => ?_) (fun c => ?_)
  · rw [if_pos c] at h
    refine x_iload_n dX12_placeInBase_35 2 rfl ?_
    obtain rfl := Option.some.inj h
    exact y_iret rfl dX12_placeInBase_36
  · rw [if_neg c] at h
    refine x_aload_n dX12_placeInBase_13 0 rfl ?_
    refine y_getr (kd := 100) hS fl_RX12_134 dX12_placeInBase_14 rfl k0 ?_
    refine x_iload_n dX12_placeInBase_17 3 rfl ?_
    refine xgrd_e h (fun g1 h => ?_)
    refine y_iald dX12_placeInBase_18 ((hS.f k0 37 100 rfl).2) g1 ?_
    refine x_iload_n dX12_placeInBase_19 1 rfl ?_
    refine x_icmp_ne 27 dX12_placeInBase_20 (by decide) (fun c => ?_) (fun c => ?_)
    · rw [if_neg c] at h
      refine x_iload_n dX12_placeInBase_27 2 rfl ?_
      refine x_lv (lv' := [(0, .ref v0), (1, .int v1), (3, .int v3)]) [0, 1, 3] rfl ?_
      exact t_X12_placeInBase_28 hS hrec_5 k0 h
    · rw [if_pos c] at h
      refine x_iload_n dX12_placeInBase_23 3 rfl ?_
      refine x_goto 28 dX12_placeInBase_24 (by decide) ?_
      refine x_lv (lv' := [(0, .ref v0), (1, .int v1), (3, .int v3)]) [0, 1, 3] rfl ?_
      exact t_X12_placeInBase_28 hS hrec_5 k0 h
theorem t_X12_placeInBase_5 {F P : Nat} {S : xSt} (hS : xWF S) : ∀ (n : Nat) {v0 : Nat} {v1 : Int32} {v2 : Int32} {v3 : Int32} {D : xDt} {r : Int32 × xDt}, xK S v0 12 → f_X12_placeInBase_5 F P S n v0 v1 v2 v3 D = some r → yEx md_X12_placeInBase 0 5 [(0, .ref v0), (1, .int v1), (2, .int v2), (3, .int v3)] [] S D (xQi S r) := by
  intro n
  induction n with
  | zero => intros; rename_i h; cases h
  | succ n ih =>
    intro v0 v1 v2 v3 D r k0 h
    exact t_X12_placeInBase_5s hS (fun k0 h => ih k0 h) k0 h

def f_X12_placeInBase (F P : Nat) (S : xSt) (v0 : Nat) (v1 : Int32) (D : xDt) : Option (Int32 × xDt) :=
  f_X12_placeInBase_5 F P S F v0 v1 (-2) 0 D
set_option maxHeartbeats 4000000 in
theorem S_X12_placeInBase {F P : Nat} {S : xSt} (hS : xWF S) {v0 : Nat} {v1 : Int32} {D : xDt} {r : Int32 × xDt} (k0 : xK S v0 12) (h : f_X12_placeInBase F P S v0 v1 D = some r) : xSp md_X12_placeInBase (0, 0, 0) [.ref v0, .int v1] (S, D) (xQi S r) := by
  unfold f_X12_placeInBase at h
  refine xEntry (by decide) (Nat.le_of_ble_eq_true rfl) ?_
  refine x_lv (lv' := [(0, .ref v0), (1, .int v1)]) [0, 1] rfl ?_
  refine x_bipush (-2) dX12_placeInBase_0 (by decide) ?_
  refine y_istore_n (-2) rfl [(2, .int (-2)), (0, .ref v0), (1, .int v1)] dX12_placeInBase_2 (by show _ < 4; decide) rfl ?_
  refine x_iconst 0 dX12_placeInBase_3 (by decide) ?_
  refine y_istore_n 0 rfl [(3, .int 0), (2, .int (-2)), (0, .ref v0), (1, .int v1)] dX12_placeInBase_4 (by show _ < 4; decide) rfl ?_
  refine x_lv (lv' := [(0, .ref v0), (1, .int v1), (2, .int (-2)), (3, .int 0)]) [2, 3, 1, 0] rfl ?_
  exact t_X12_placeInBase_5 hS F k0 h

