/-! printed by wip/whole/gen.py: the methods as plain functions, each proved to be what its bytecode does -/
theorem dX1_merge_0 : decode cX1_merge 0 = .ok (.iload_n 1, 1) := by decide +kernel
theorem dX1_merge_1 : decode cX1_merge 1 = .ok (.bipush 8, 2) := by decide +kernel
theorem dX1_merge_3 : decode cX1_merge 3 = .ok (.imul, 1) := by decide +kernel
theorem dX1_merge_4 : decode cX1_merge 4 = .ok (.istore 4, 2) := by decide +kernel
theorem dX1_merge_6 : decode cX1_merge 6 = .ok (.aload_n 0, 1) := by decide +kernel
theorem dX1_merge_7 : decode cX1_merge 7 = .ok (.getfield 17, 3) := by decide +kernel
theorem dX1_merge_10 : decode cX1_merge 10 = .ok (.iload 4, 2) := by decide +kernel
theorem dX1_merge_12 : decode cX1_merge 12 = .ok (.iload_n 2, 1) := by decide +kernel
theorem dX1_merge_13 : decode cX1_merge 13 = .ok (.iadd, 1) := by decide +kernel
theorem dX1_merge_14 : decode cX1_merge 14 = .ok (.iaload, 1) := by decide +kernel
theorem dX1_merge_15 : decode cX1_merge 15 = .ok (.aload_n 0, 1) := by decide +kernel
theorem dX1_merge_16 : decode cX1_merge 16 = .ok (.getfield 17, 3) := by decide +kernel
theorem dX1_merge_19 : decode cX1_merge 19 = .ok (.iload 4, 2) := by decide +kernel
theorem dX1_merge_21 : decode cX1_merge 21 = .ok (.iload_n 3, 1) := by decide +kernel
theorem dX1_merge_22 : decode cX1_merge 22 = .ok (.iadd, 1) := by decide +kernel
theorem dX1_merge_23 : decode cX1_merge 23 = .ok (.iaload, 1) := by decide +kernel
theorem dX1_merge_24 : decode cX1_merge 24 = .ok (.ior, 1) := by decide +kernel
theorem dX1_merge_25 : decode cX1_merge 25 = .ok (.istore 5, 2) := by decide +kernel
theorem dX1_merge_27 : decode cX1_merge 27 = .ok (.iconst 0, 1) := by decide +kernel
theorem dX1_merge_28 : decode cX1_merge 28 = .ok (.istore 6, 2) := by decide +kernel
theorem dX1_merge_30 : decode cX1_merge 30 = .ok (.iload 6, 2) := by decide +kernel
theorem dX1_merge_32 : decode cX1_merge 32 = .ok (.aload_n 0, 1) := by decide +kernel
theorem dX1_merge_33 : decode cX1_merge 33 = .ok (.getfield 34, 3) := by decide +kernel
theorem dX1_merge_36 : decode cX1_merge 36 = .ok (.if_icmp .ge 31, 3) := by decide +kernel
theorem dX1_merge_39 : decode cX1_merge 39 = .ok (.iload 5, 2) := by decide +kernel
theorem dX1_merge_41 : decode cX1_merge 41 = .ok (.iload 6, 2) := by decide +kernel
theorem dX1_merge_43 : decode cX1_merge 43 = .ok (.ishr, 1) := by decide +kernel
theorem dX1_merge_44 : decode cX1_merge 44 = .ok (.iconst 1, 1) := by decide +kernel
theorem dX1_merge_45 : decode cX1_merge 45 = .ok (.iand, 1) := by decide +kernel
theorem dX1_merge_46 : decode cX1_merge 46 = .ok (.ifCond .eq 15, 3) := by decide +kernel
theorem dX1_merge_49 : decode cX1_merge 49 = .ok (.aload_n 0, 1) := by decide +kernel
theorem dX1_merge_50 : decode cX1_merge 50 = .ok (.getfield 17, 3) := by decide +kernel
theorem dX1_merge_53 : decode cX1_merge 53 = .ok (.iload 4, 2) := by decide +kernel
theorem dX1_merge_55 : decode cX1_merge 55 = .ok (.iload 6, 2) := by decide +kernel
theorem dX1_merge_57 : decode cX1_merge 57 = .ok (.iadd, 1) := by decide +kernel
theorem dX1_merge_58 : decode cX1_merge 58 = .ok (.iload 5, 2) := by decide +kernel
theorem dX1_merge_60 : decode cX1_merge 60 = .ok (.iastore, 1) := by decide +kernel
theorem dX1_merge_61 : decode cX1_merge 61 = .ok (.iinc 6 1, 3) := by decide +kernel
theorem dX1_merge_64 : decode cX1_merge 64 = .ok (.goto (-34), 3) := by decide +kernel
theorem dX1_merge_67 : decode cX1_merge 67 = .ok (.iload 5, 2) := by decide +kernel
theorem dX1_merge_69 : decode cX1_merge 69 = .ok (.invokestatic 43, 3) := by decide +kernel
theorem dX1_merge_72 : decode cX1_merge 72 = .ok (.ireturn, 1) := by decide +kernel
def f_X1_merge_61 (F P : Nat) (S : xSt) (rec_30 : Nat → Int32 → Int32 → Int32 → xDt → Option (Int32 × xDt)) (v0 : Nat) (v4 : Int32) (v5 : Int32) (v6 : Int32) (D : xDt) : Option (Int32 × xDt) :=
  xlet (v6 + 1) fun v6_1 => rec_30 v0 v4 v5 v6_1 D
set_option maxHeartbeats 4000000 in
theorem t_X1_merge_61 {F P : Nat} {S : xSt} (hS : xWF S) {rec_30 : Nat → Int32 → Int32 → Int32 → xDt → Option (Int32 × xDt)} (hrec_30 : ∀ {v0 : Nat} {v4 : Int32} {v5 : Int32} {v6 : Int32} {D : xDt} {r : Int32 × xDt}, xK S v0 1 → rec_30 v0 v4 v5 v6 D = some r → yEx md_X1_merge 1 30 [(0, .ref v0), (4, .int v4), (5, .int v5), (6, .int v6)] [] S D (xQi S r)) {v0 : Nat} {v4 : Int32} {v5 : Int32} {v6 : Int32} {D : xDt} {r : Int32 × xDt} (k0 : xK S v0 1) (h : f_X1_merge_61 F P S rec_30 v0 v4 v5 v6 D = some r) : yEx md_X1_merge 1 61 [(0, .ref v0), (4, .int v4), (5, .int v5), (6, .int v6)] [] S D (xQi S r) := by
  unfold f_X1_merge_61 at h
  refine xlet_e h (fun v6_1 ev6_1 h => ?_)
  refine y_iinc v6_1 ev6_1 (by decide) [(6, .int v6_1), (0, .ref v0), (4, .int v4), (5, .int v5)] dX1_merge_61 3 rfl (by show _ < 7; decide) rfl ?_
  refine x_goto 30 dX1_merge_64 (by decide) ?_
  refine x_lv (lv' := [(0, .ref v0), (4, .int v4), (5, .int v5), (6, .int v6_1)]) [1, 2, 3, 0] rfl ?_
  exact hrec_30 k0 h

def f_X1_merge_30s (F P : Nat) (S : xSt) (rec_30 : Nat → Int32 → Int32 → Int32 → xDt → Option (Int32 × xDt)) (v0 : Nat) (v4 : Int32) (v5 : Int32) (v6 : Int32) (D : xDt) : Option (Int32 × xDt) :=
  if (D.1 v0 0) ≤ v6 then ((f_J6_bitCount_0f7a4 F P S v5 D).bind fun q1 => some (q1.1, q1.2)) else (if ((jishr v5 v6) &&& 1) = 0 then (f_X1_merge_61 F P S rec_30 v0 v4 v5 v6 D) else (xgrd (xin (v4 + v6) (xl S (xr S v0 2))) (xlet (xup D.1 (xr S v0 2) (v4 + v6).toNatClampNeg v5, D.2) fun D3 => f_X1_merge_61 F P S rec_30 v0 v4 v5 v6 D3)))
def f_X1_merge_30 (F P : Nat) (S : xSt) : Nat → Nat → Int32 → Int32 → Int32 → xDt → Option (Int32 × xDt)
  | 0 => fun _ _ _ _ _ => none
  | n + 1 => f_X1_merge_30s F P S (f_X1_merge_30 F P S n)
set_option maxHeartbeats 4000000 in
theorem t_X1_merge_30s {F P : Nat} {S : xSt} (hS : xWF S) {rec_30 : Nat → Int32 → Int32 → Int32 → xDt → Option (Int32 × xDt)} (hrec_30 : ∀ {v0 : Nat} {v4 : Int32} {v5 : Int32} {v6 : Int32} {D : xDt} {r : Int32 × xDt}, xK S v0 1 → rec_30 v0 v4 v5 v6 D = some r → yEx md_X1_merge 1 30 [(0, .ref v0), (4, .int v4), (5, .int v5), (6, .int v6)] [] S D (xQi S r)) {v0 : Nat} {v4 : Int32} {v5 : Int32} {v6 : Int32} {D : xDt} {r : Int32 × xDt} (k0 : xK S v0 1) (h : f_X1_merge_30s F P S rec_30 v0 v4 v5 v6 D = some r) : yEx md_X1_merge 1 30 [(0, .ref v0), (4, .int v4), (5, .int v5), (6, .int v6)] [] S D (xQi S r) := by
  unfold f_X1_merge_30s at h
  refine x_iload dX1_merge_30 3 rfl ?_
  refine x_aload_n dX1_merge_32 0 rfl ?_
  refine y_geti fl_RX1_34 dX1_merge_33 rfl k0 ?_
  refine x_icmp_ge 67 dX1_merge_36 (by decide) (fun c => ?_) (fun c => ?_)
  · rw [if_pos c] at h
    refine x_iload dX1_merge_67 2 rfl ?_
    refine xbnd_e h (fun q1 e1 h => ?_)
    refine y_callSi (As := [.int v5]) (q := q1) cs_RX1_43 dX1_merge_69 rfl (Nat.le_of_ble_eq_true rfl) (by omega) (S_J6_bitCount_0f7a4 hS e1) ?_
    obtain rfl := Option.some.inj h
    exact y_iret rfl dX1_merge_72
  · rw [if_neg c] at h
    refine x_iload dX1_merge_39 2 rfl ?_
    refine x_iload dX1_merge_41 3 rfl ?_
    refine x_ishr dX1_merge_43 ?_
    refine x_iconst 1 dX1_merge_44 (by decide) ?_
    refine x_iand dX1_merge_45 ?_
    refine x_if_eq 61 dX1_merge_46 (by decide) (fun c => ?_) (fun c => ?_)
    · rw [if_pos c] at h
      exact t_X1_merge_61 hS hrec_30 k0 h
    · rw [if_neg c] at h
      refine x_aload_n dX1_merge_49 0 rfl ?_
      refine y_getr (kd := 100) hS fl_RX1_17 dX1_merge_50 rfl k0 ?_
      refine x_iload dX1_merge_53 1 rfl ?_
      refine x_iload dX1_merge_55 3 rfl ?_
      refine x_iadd dX1_merge_57 ?_
      refine x_iload dX1_merge_58 2 rfl ?_
      refine xgrd_e h (fun g2 h => ?_)
      refine xlet_e h (fun D3 eD3 h => ?_)
      refine y_iast dX1_merge_60 ((hS.f k0 2 100 rfl).2) g2 eD3 ?_
      exact t_X1_merge_61 hS hrec_30 k0 h
theorem t_X1_merge_30 {F P : Nat} {S : xSt} (hS : xWF S) : ∀ (n : Nat) {v0 : Nat} {v4 : Int32} {v5 : Int32} {v6 : Int32} {D : xDt} {r : Int32 × xDt}, xK S v0 1 → f_X1_merge_30 F P S n v0 v4 v5 v6 D = some r → yEx md_X1_merge 1 30 [(0, .ref v0), (4, .int v4), (5, .int v5), (6, .int v6)] [] S D (xQi S r) := by
  intro n
  induction n with
  | zero => intros; rename_i h; cases h
  | succ n ih =>
    intro v0 v4 v5 v6 D r k0 h
    exact t_X1_merge_30s hS (fun k0 h => ih k0 h) k0 h

def f_X1_merge (F P : Nat) (S : xSt) (v0 : Nat) (v1 : Int32) (v2 : Int32) (v3 : Int32) (D : xDt) : Option (Int32 × xDt) :=
  xlet (v1 * 8) fun v4_1 => xgrd (xin (v4_1 + v2) (xl S (xr S v0 2))) (xgrd (xin (v4_1 + v3) (xl S (xr S v0 2))) (xlet ((D.1 (xr S v0 2) (v4_1 + v2).toNatClampNeg) ||| (D.1 (xr S v0 2) (v4_1 + v3).toNatClampNeg)) fun v5_4 => f_X1_merge_30 F P S F v0 v4_1 v5_4 0 D))
set_option maxHeartbeats 4000000 in
theorem S_X1_merge {F P : Nat} {S : xSt} (hS : xWF S) {v0 : Nat} {v1 : Int32} {v2 : Int32} {v3 : Int32} {D : xDt} {r : Int32 × xDt} (k0 : xK S v0 1) (h : f_X1_merge F P S v0 v1 v2 v3 D = some r) : xSp md_X1_merge (1, 0, 0) [.ref v0, .int v1, .int v2, .int v3] (S, D) (xQi S r) := by
  unfold f_X1_merge at h
  refine xEntry (by decide) (Nat.le_of_ble_eq_true rfl) ?_
  refine x_lv (lv' := [(0, .ref v0), (1, .int v1), (2, .int v2), (3, .int v3)]) [0, 1, 2, 3] rfl ?_
  refine x_iload_n dX1_merge_0 1 rfl ?_
  refine x_bipush 8 dX1_merge_1 (by decide) ?_
  refine x_imul dX1_merge_3 ?_
  refine xlet_e h (fun v4_1 ev4_1 h => ?_)
  refine y_istore v4_1 ev4_1 [(4, .int v4_1), (0, .ref v0), (1, .int v1), (2, .int v2), (3, .int v3)] dX1_merge_4 (by show _ < 7; decide) rfl ?_
  refine x_aload_n dX1_merge_6 1 rfl ?_
  refine y_getr (kd := 100) hS fl_RX1_17 dX1_merge_7 rfl k0 ?_
  refine x_iload dX1_merge_10 0 rfl ?_
  refine x_iload_n dX1_merge_12 3 rfl ?_
  refine x_iadd dX1_merge_13 ?_
  refine xgrd_e h (fun g2 h => ?_)
  refine y_iald dX1_merge_14 ((hS.f k0 2 100 rfl).2) g2 ?_
  refine x_aload_n dX1_merge_15 1 rfl ?_
  refine y_getr (kd := 100) hS fl_RX1_17 dX1_merge_16 rfl k0 ?_
  refine x_iload dX1_merge_19 0 rfl ?_
  refine x_iload_n dX1_merge_21 4 rfl ?_
  refine x_iadd dX1_merge_22 ?_
  refine xgrd_e h (fun g3 h => ?_)
  refine y_iald dX1_merge_23 ((hS.f k0 2 100 rfl).2) g3 ?_
  refine x_ior dX1_merge_24 ?_
  refine xlet_e h (fun v5_4 ev5_4 h => ?_)
  refine y_istore v5_4 ev5_4 [(5, .int v5_4), (4, .int v4_1), (0, .ref v0), (1, .int v1), (2, .int v2), (3, .int v3)] dX1_merge_25 (by show _ < 7; decide) rfl ?_
  refine x_iconst 0 dX1_merge_27 (by decide) ?_
  refine y_istore 0 rfl [(6, .int 0), (5, .int v5_4), (4, .int v4_1), (0, .ref v0), (1, .int v1), (2, .int v2), (3, .int v3)] dX1_merge_28 (by show _ < 7; decide) rfl ?_
  refine x_lv (lv' := [(0, .ref v0), (4, .int v4_1), (5, .int v5_4), (6, .int 0)]) [3, 2, 1, 0] rfl ?_
  exact t_X1_merge_30 hS F k0 h

theorem dX10_all_0 : decode cX10_all 0 = .ok (.aload_n 0, 1) := by decide +kernel
theorem dX10_all_1 : decode cX10_all 1 = .ok (.getfield 18, 3) := by decide +kernel
theorem dX10_all_4 : decode cX10_all 4 = .ok (.bipush 64, 2) := by decide +kernel
theorem dX10_all_6 : decode cX10_all 6 = .ok (.if_icmp .lt 9, 3) := by decide +kernel
theorem dX10_all_9 : decode cX10_all 9 = .ok (.ldc2_w 22, 3) := by decide +kernel
theorem dX10_all_12 : decode cX10_all 12 = .ok (.goto 11, 3) := by decide +kernel
theorem dX10_all_15 : decode cX10_all 15 = .ok (.lconst 1, 1) := by decide +kernel
theorem dX10_all_16 : decode cX10_all 16 = .ok (.aload_n 0, 1) := by decide +kernel
theorem dX10_all_17 : decode cX10_all 17 = .ok (.getfield 18, 3) := by decide +kernel
theorem dX10_all_20 : decode cX10_all 20 = .ok (.lshl, 1) := by decide +kernel
theorem dX10_all_21 : decode cX10_all 21 = .ok (.lconst 1, 1) := by decide +kernel
theorem dX10_all_22 : decode cX10_all 22 = .ok (.lsub, 1) := by decide +kernel
theorem dX10_all_23 : decode cX10_all 23 = .ok (.lreturn, 1) := by decide +kernel
def f_X10_all (F P : Nat) (S : xSt) (v0 : Nat) (D : xDt) : Option (Int64 × xDt) :=
  if (D.1 v0 0) < 64 then (some ((jlshl 1 (D.1 v0 0)) - 1, D)) else (some ((-1), D))
set_option maxHeartbeats 4000000 in
theorem S_X10_all {F P : Nat} {S : xSt} (hS : xWF S) {v0 : Nat} {D : xDt} {r : Int64 × xDt} (k0 : xK S v0 10) (h : f_X10_all F P S v0 D = some r) : xSp md_X10_all (0, 0, 0) [.ref v0] (S, D) (xQl S r) := by
  unfold f_X10_all at h
  refine xEntry (by decide) (Nat.le_of_ble_eq_true rfl) ?_
  refine x_lv (lv' := [(0, .ref v0)]) [0] rfl ?_
  refine x_aload_n dX10_all_0 0 rfl ?_
  refine y_geti fl_RX10_18 dX10_all_1 rfl k0 ?_
  refine x_bipush 64 dX10_all_4 (by decide) ?_
  refine x_icmp_lt 15 dX10_all_6 (by decide) (fun c => ?_) (fun c => ?_)
  · rw [if_pos c] at h
    refine x_lconst 1 dX10_all_15 (by decide) ?_
    refine x_aload_n dX10_all_16 0 rfl ?_
    refine y_geti fl_RX10_18 dX10_all_17 rfl k0 ?_
    refine x_lshl dX10_all_20 ?_
    refine x_lconst 1 dX10_all_21 (by decide) ?_
    refine x_lsub dX10_all_22 ?_
    obtain rfl := Option.some.inj h
    exact y_lret rfl dX10_all_23
  · rw [if_neg c] at h
    refine x_ldc2 (-1) dX10_all_9 wd_425 ?_
    refine x_goto 23 dX10_all_12 (by decide) ?_
    obtain rfl := Option.some.inj h
    exact y_lret rfl dX10_all_23

theorem dX3_leaf_0 : decode cX3_leaf 0 = .ok (.iload_n 1, 1) := by decide +kernel
theorem dX3_leaf_1 : decode cX3_leaf 1 = .ok (.bipush 48, 2) := by decide +kernel
theorem dX3_leaf_3 : decode cX3_leaf 3 = .ok (.if_icmp .ne 5, 3) := by decide +kernel
theorem dX3_leaf_6 : decode cX3_leaf 6 = .ok (.lconst 0, 1) := by decide +kernel
theorem dX3_leaf_7 : decode cX3_leaf 7 = .ok (.lreturn, 1) := by decide +kernel
theorem dX3_leaf_8 : decode cX3_leaf 8 = .ok (.iload_n 1, 1) := by decide +kernel
theorem dX3_leaf_9 : decode cX3_leaf 9 = .ok (.bipush 49, 2) := by decide +kernel
theorem dX3_leaf_11 : decode cX3_leaf 11 = .ok (.if_icmp .ne 10, 3) := by decide +kernel
theorem dX3_leaf_14 : decode cX3_leaf 14 = .ok (.aload_n 0, 1) := by decide +kernel
theorem dX3_leaf_15 : decode cX3_leaf 15 = .ok (.getfield 32, 3) := by decide +kernel
theorem dX3_leaf_18 : decode cX3_leaf 18 = .ok (.goto 17, 3) := by decide +kernel
theorem dX3_leaf_21 : decode cX3_leaf 21 = .ok (.aload_n 0, 1) := by decide +kernel
theorem dX3_leaf_22 : decode cX3_leaf 22 = .ok (.getfield 32, 3) := by decide +kernel
theorem dX3_leaf_25 : decode cX3_leaf 25 = .ok (.aload_n 2, 1) := by decide +kernel
theorem dX3_leaf_26 : decode cX3_leaf 26 = .ok (.getfield 64, 3) := by decide +kernel
theorem dX3_leaf_29 : decode cX3_leaf 29 = .ok (.iload_n 1, 1) := by decide +kernel
theorem dX3_leaf_30 : decode cX3_leaf 30 = .ok (.bipush 97, 2) := by decide +kernel
theorem dX3_leaf_32 : decode cX3_leaf 32 = .ok (.isub, 1) := by decide +kernel
theorem dX3_leaf_33 : decode cX3_leaf 33 = .ok (.laload, 1) := by decide +kernel
theorem dX3_leaf_34 : decode cX3_leaf 34 = .ok (.land, 1) := by decide +kernel
theorem dX3_leaf_35 : decode cX3_leaf 35 = .ok (.lreturn, 1) := by decide +kernel
def f_X3_leaf (F P : Nat) (S : xSt) (v0 : Nat) (v1 : Int32) (v2 : Nat) (D : xDt) : Option (Int64 × xDt) :=
  if v1 = 48 then (some (0, D)) else (if v1 = 49 then (some (D.2 v0 5, D)) else (xgrd (xin (v1 - 97) (xl S (xr S v2 1))) (some ((D.2 v0 5) &&& (D.2 (xr S v2 1) (v1 - 97).toNatClampNeg), D))))
set_option maxHeartbeats 4000000 in
theorem S_X3_leaf {F P : Nat} {S : xSt} (hS : xWF S) {v0 : Nat} {v1 : Int32} {v2 : Nat} {D : xDt} {r : Int64 × xDt} (k0 : xK S v0 3) (k2 : xK S v2 10) (h : f_X3_leaf F P S v0 v1 v2 D = some r) : xSp md_X3_leaf (0, 0, 0) [.ref v0, .int v1, .ref v2] (S, D) (xQl S r) := by
  unfold f_X3_leaf at h
  refine xEntry (by decide) (Nat.le_of_ble_eq_true rfl) ?_
  refine x_lv (lv' := [(0, .ref v0), (1, .int v1), (2, .ref v2)]) [0, 1, 2] rfl ?_
  refine x_iload_n dX3_leaf_0 1 rfl ?_
  refine x_bipush 48 dX3_leaf_1 (by decide) ?_
  refine x_icmp_ne 8 dX3_leaf_3 (by decide) (fun c => ?_) (fun c => ?_)
  · rw [if_neg c] at h
    refine x_iload_n dX3_leaf_8 1 rfl ?_
    refine x_bipush 49 dX3_leaf_9 (by decide) ?_
    refine x_icmp_ne 21 dX3_leaf_11 (by decide) (fun c => ?_) (fun c => ?_)
    · rw [if_neg c] at h
      refine x_aload_n dX3_leaf_21 0 rfl ?_
      refine y_getl fl_RX3_32 dX3_leaf_22 rfl k0 ?_
      refine x_aload_n dX3_leaf_25 2 rfl ?_
      refine y_getr (kd := 101) hS fl_RX3_64 dX3_leaf_26 rfl k2 ?_
      refine x_iload_n dX3_leaf_29 1 rfl ?_
      refine x_bipush 97 dX3_leaf_30 (by decide) ?_
      refine x_isub dX3_leaf_32 ?_
      refine xgrd_e h (fun g1 h => ?_)
      refine y_lald dX3_leaf_33 ((hS.f k2 1 101 rfl).2) g1 ?_
      refine x_land dX3_leaf_34 ?_
      obtain rfl := Option.some.inj h
      exact y_lret rfl dX3_leaf_35
    · rw [if_pos c] at h
      refine x_aload_n dX3_leaf_14 0 rfl ?_
      refine y_getl fl_RX3_32 dX3_leaf_15 rfl k0 ?_
      refine x_goto 35 dX3_leaf_18 (by decide) ?_
      obtain rfl := Option.some.inj h
      exact y_lret rfl dX3_leaf_35
  · rw [if_pos c] at h
    refine x_lconst 0 dX3_leaf_6 (by decide) ?_
    obtain rfl := Option.some.inj h
    exact y_lret rfl dX3_leaf_7

theorem dX11_isSaying_0 : decode cX11_isSaying 0 = .ok (.iload_n 0, 1) := by decide +kernel
theorem dX11_isSaying_1 : decode cX11_isSaying 1 = .ok (.bipush 91, 2) := by decide +kernel
theorem dX11_isSaying_3 : decode cX11_isSaying 3 = .ok (.if_icmp .eq 9, 3) := by decide +kernel
theorem dX11_isSaying_6 : decode cX11_isSaying 6 = .ok (.iload_n 0, 1) := by decide +kernel
theorem dX11_isSaying_7 : decode cX11_isSaying 7 = .ok (.bipush 123, 2) := by decide +kernel
theorem dX11_isSaying_9 : decode cX11_isSaying 9 = .ok (.if_icmp .ne 7, 3) := by decide +kernel
theorem dX11_isSaying_12 : decode cX11_isSaying 12 = .ok (.iconst 1, 1) := by decide +kernel
theorem dX11_isSaying_13 : decode cX11_isSaying 13 = .ok (.goto 4, 3) := by decide +kernel
theorem dX11_isSaying_16 : decode cX11_isSaying 16 = .ok (.iconst 0, 1) := by decide +kernel
theorem dX11_isSaying_17 : decode cX11_isSaying 17 = .ok (.ireturn, 1) := by decide +kernel
def f_X11_isSaying_12 (F P : Nat) (S : xSt) (D : xDt) : Option (Int32 × xDt) :=
  some (1, D)
set_option maxHeartbeats 4000000 in
theorem t_X11_isSaying_12 {F P : Nat} {S : xSt} (hS : xWF S) {D : xDt} {r : Int32 × xDt} (h : f_X11_isSaying_12 F P S D = some r) : yEx md_X11_isSaying 0 12 [] [] S D (xQi S r) := by
  unfold f_X11_isSaying_12 at h
  refine x_iconst 1 dX11_isSaying_12 (by decide) ?_
  refine x_goto 17 dX11_isSaying_13 (by decide) ?_
  obtain rfl := Option.some.inj h
  exact y_zret rfl rfl dX11_isSaying_17

def f_X11_isSaying (F P : Nat) (S : xSt) (v0 : Int32) (D : xDt) : Option (Int32 × xDt) :=
  if v0 = 91 then (f_X11_isSaying_12 F P S D) else (if v0 = 123 then (f_X11_isSaying_12 F P S D) else (some (0, D)))
set_option maxHeartbeats 4000000 in
theorem S_X11_isSaying {F P : Nat} {S : xSt} (hS : xWF S) {v0 : Int32} {D : xDt} {r : Int32 × xDt} (h : f_X11_isSaying F P S v0 D = some r) : xSp md_X11_isSaying (0, 0, 0) [.int v0] (S, D) (xQi S r) := by
  unfold f_X11_isSaying at h
  refine xEntry (by decide) (Nat.le_of_ble_eq_true rfl) ?_
  refine x_lv (lv' := [(0, .int v0)]) [0] rfl ?_
  refine x_iload_n dX11_isSaying_0 0 rfl ?_
  refine x_bipush 91 dX11_isSaying_1 (by decide) ?_
  refine x_icmp_eq 12 dX11_isSaying_3 (by decide) (fun c => ?_) (fun c => ?_)
  · rw [if_pos c] at h
    refine x_lv (lv' := []) [] rfl ?_
    exact t_X11_isSaying_12 hS h
  · rw [if_neg c] at h
    refine x_iload_n dX11_isSaying_6 0 rfl ?_
    refine x_bipush 123 dX11_isSaying_7 (by decide) ?_
    refine x_icmp_ne 16 dX11_isSaying_9 (by decide) (fun c => ?_) (fun c => ?_)
    · rw [if_neg c] at h
      refine x_iconst 0 dX11_isSaying_16 (by decide) ?_
      obtain rfl := Option.some.inj h
      exact y_zret rfl rfl dX11_isSaying_17
    · rw [if_pos c] at h
      refine x_lv (lv' := []) [] rfl ?_
      exact t_X11_isSaying_12 hS h

theorem dX11_hasTwoParts_0 : decode cX11_hasTwoParts 0 = .ok (.iload_n 0, 1) := by decide +kernel
theorem dX11_hasTwoParts_1 : decode cX11_hasTwoParts 1 = .ok (.invokestatic 259, 3) := by decide +kernel
theorem dX11_hasTwoParts_4 : decode cX11_hasTwoParts 4 = .ok (.ifCond .ne 10, 3) := by decide +kernel
theorem dX11_hasTwoParts_7 : decode cX11_hasTwoParts 7 = .ok (.iload_n 0, 1) := by decide +kernel
theorem dX11_hasTwoParts_8 : decode cX11_hasTwoParts 8 = .ok (.invokestatic 262, 3) := by decide +kernel
theorem dX11_hasTwoParts_11 : decode cX11_hasTwoParts 11 = .ok (.ifCond .eq 7, 3) := by decide +kernel
theorem dX11_hasTwoParts_14 : decode cX11_hasTwoParts 14 = .ok (.iconst 1, 1) := by decide +kernel
theorem dX11_hasTwoParts_15 : decode cX11_hasTwoParts 15 = .ok (.goto 4, 3) := by decide +kernel
theorem dX11_hasTwoParts_18 : decode cX11_hasTwoParts 18 = .ok (.iconst 0, 1) := by decide +kernel
theorem dX11_hasTwoParts_19 : decode cX11_hasTwoParts 19 = .ok (.ireturn, 1) := by decide +kernel
def f_X11_hasTwoParts_14 (F P : Nat) (S : xSt) (D : xDt) : Option (Int32 × xDt) :=
  some (1, D)
set_option maxHeartbeats 4000000 in
theorem t_X11_hasTwoParts_14 {F P : Nat} {S : xSt} (hS : xWF S) {D : xDt} {r : Int32 × xDt} (h : f_X11_hasTwoParts_14 F P S D = some r) : yEx md_X11_hasTwoParts 1 14 [] [] S D (xQi S r) := by
  unfold f_X11_hasTwoParts_14 at h
  refine x_iconst 1 dX11_hasTwoParts_14 (by decide) ?_
  refine x_goto 19 dX11_hasTwoParts_15 (by decide) ?_
  obtain rfl := Option.some.inj h
  exact y_zret rfl rfl dX11_hasTwoParts_19

def f_X11_hasTwoParts (F P : Nat) (S : xSt) (v0 : Int32) (D : xDt) : Option (Int32 × xDt) :=
  (f_X11_isJoin F P S v0 D).bind fun q1 => if q1.1 = 0 then ((f_X11_isSaying F P S v0 q1.2).bind fun q2 => if q2.1 = 0 then (some (0, q2.2)) else (f_X11_hasTwoParts_14 F P S q2.2)) else (f_X11_hasTwoParts_14 F P S q1.2)
set_option maxHeartbeats 4000000 in
theorem S_X11_hasTwoParts {F P : Nat} {S : xSt} (hS : xWF S) {v0 : Int32} {D : xDt} {r : Int32 × xDt} (h : f_X11_hasTwoParts F P S v0 D = some r) : xSp md_X11_hasTwoParts (1, 0, 0) [.int v0] (S, D) (xQi S r) := by
  unfold f_X11_hasTwoParts at h
  refine xEntry (by decide) (Nat.le_of_ble_eq_true rfl) ?_
  refine x_lv (lv' := [(0, .int v0)]) [0] rfl ?_
  refine x_iload_n dX11_hasTwoParts_0 0 rfl ?_
  refine xbnd_e h (fun q1 e1 h => ?_)
  refine y_callSi (As := [.int v0]) (q := q1) cs_RX11_259 dX11_hasTwoParts_1 rfl (Nat.le_of_ble_eq_true rfl) (by omega) (S_X11_isJoin hS e1) ?_
  refine x_if_ne 14 dX11_hasTwoParts_4 (by decide) (fun c => ?_) (fun c => ?_)
  · rw [if_neg c] at h
    refine x_lv (lv' := []) [] rfl ?_
    exact t_X11_hasTwoParts_14 hS h
  · rw [if_pos c] at h
    refine x_iload_n dX11_hasTwoParts_7 0 rfl ?_
    refine xbnd_e h (fun q2 e2 h => ?_)
    refine y_callSi (As := [.int v0]) (q := q2) cs_RX11_262 dX11_hasTwoParts_8 rfl (Nat.le_of_ble_eq_true rfl) (by omega) (S_X11_isSaying hS e2) ?_
    refine x_if_eq 18 dX11_hasTwoParts_11 (by decide) (fun c => ?_) (fun c => ?_)
    · rw [if_pos c] at h
      refine x_iconst 0 dX11_hasTwoParts_18 (by decide) ?_
      obtain rfl := Option.some.inj h
      exact y_zret rfl rfl dX11_hasTwoParts_19
    · rw [if_neg c] at h
      refine x_lv (lv' := []) [] rfl ?_
      exact t_X11_hasTwoParts_14 hS h

theorem dX3_joined_0 : decode cX3_joined 0 = .ok (.iload_n 1, 1) := by decide +kernel
theorem dX3_joined_1 : decode cX3_joined 1 = .ok (.lookupswitch 67 #[(38, 62), (61, 43), (123, 62), (124, 57)], 43) := by decide +kernel
theorem dX3_joined_44 : decode cX3_joined 44 = .ok (.aload_n 0, 1) := by decide +kernel
theorem dX3_joined_45 : decode cX3_joined 45 = .ok (.getfield 32, 3) := by decide +kernel
theorem dX3_joined_48 : decode cX3_joined 48 = .ok (.lload_n 2, 1) := by decide +kernel
theorem dX3_joined_49 : decode cX3_joined 49 = .ok (.lload 4, 2) := by decide +kernel
theorem dX3_joined_51 : decode cX3_joined 51 = .ok (.lxor, 1) := by decide +kernel
theorem dX3_joined_52 : decode cX3_joined 52 = .ok (.ldc2_w 81, 3) := by decide +kernel
theorem dX3_joined_55 : decode cX3_joined 55 = .ok (.lxor, 1) := by decide +kernel
theorem dX3_joined_56 : decode cX3_joined 56 = .ok (.land, 1) := by decide +kernel
theorem dX3_joined_57 : decode cX3_joined 57 = .ok (.lreturn, 1) := by decide +kernel
theorem dX3_joined_58 : decode cX3_joined 58 = .ok (.lload_n 2, 1) := by decide +kernel
theorem dX3_joined_59 : decode cX3_joined 59 = .ok (.lload 4, 2) := by decide +kernel
theorem dX3_joined_61 : decode cX3_joined 61 = .ok (.lor, 1) := by decide +kernel
theorem dX3_joined_62 : decode cX3_joined 62 = .ok (.lreturn, 1) := by decide +kernel
theorem dX3_joined_63 : decode cX3_joined 63 = .ok (.lload_n 2, 1) := by decide +kernel
theorem dX3_joined_64 : decode cX3_joined 64 = .ok (.lload 4, 2) := by decide +kernel
theorem dX3_joined_66 : decode cX3_joined 66 = .ok (.land, 1) := by decide +kernel
theorem dX3_joined_67 : decode cX3_joined 67 = .ok (.lreturn, 1) := by decide +kernel
theorem dX3_joined_68 : decode cX3_joined 68 = .ok (.aload_n 0, 1) := by decide +kernel
theorem dX3_joined_69 : decode cX3_joined 69 = .ok (.getfield 32, 3) := by decide +kernel
theorem dX3_joined_72 : decode cX3_joined 72 = .ok (.lload_n 2, 1) := by decide +kernel
theorem dX3_joined_73 : decode cX3_joined 73 = .ok (.ldc2_w 81, 3) := by decide +kernel
theorem dX3_joined_76 : decode cX3_joined 76 = .ok (.lxor, 1) := by decide +kernel
theorem dX3_joined_77 : decode cX3_joined 77 = .ok (.land, 1) := by decide +kernel
theorem dX3_joined_78 : decode cX3_joined 78 = .ok (.lload 4, 2) := by decide +kernel
theorem dX3_joined_80 : decode cX3_joined 80 = .ok (.lor, 1) := by decide +kernel
theorem dX3_joined_81 : decode cX3_joined 81 = .ok (.lreturn, 1) := by decide +kernel
def f_X3_joined (F P : Nat) (S : xSt) (v0 : Nat) (v1 : Int32) (v2 : Int64) (v4 : Int64) (D : xDt) : Option (Int64 × xDt) :=
  if v1 = 38 then (some (v2 &&& v4, D)) else (if v1 = 61 then (some ((D.2 v0 5) &&& ((v2 ^^^ v4) ^^^ (-1)), D)) else (if v1 = 123 then (some (v2 &&& v4, D)) else (if v1 = 124 then (some (v2 ||| v4, D)) else (some (((D.2 v0 5) &&& (v2 ^^^ (-1))) ||| v4, D)))))
set_option maxHeartbeats 4000000 in
theorem S_X3_joined {F P : Nat} {S : xSt} (hS : xWF S) {v0 : Nat} {v1 : Int32} {v2 : Int64} {v4 : Int64} {D : xDt} {r : Int64 × xDt} (k0 : xK S v0 3) (h : f_X3_joined F P S v0 v1 v2 v4 D = some r) : xSp md_X3_joined (0, 0, 0) [.ref v0, .int v1, .long v2, .long v4] (S, D) (xQl S r) := by
  unfold f_X3_joined at h
  refine xEntry (by decide) (Nat.le_of_ble_eq_true rfl) ?_
  refine x_lv (lv' := [(0, .ref v0), (1, .int v1), (2, .long v2), (4, .long v4)]) [0, 1, 2, 3] rfl ?_
  refine x_iload_n dX3_joined_0 1 rfl ?_
  by_cases c0 : v1 = 38
  · rw [if_pos c0] at h
    refine x_ls 63 dX3_joined_1 (by decide) (by rw [c0]) (by decide) ?_
    refine x_lload_n dX3_joined_63 2 rfl ?_
    refine x_lload dX3_joined_64 3 rfl ?_
    refine x_land dX3_joined_66 ?_
    obtain rfl := Option.some.inj h
    exact y_lret rfl dX3_joined_67
  · rw [if_neg c0] at h
    by_cases c1 : v1 = 61
    · rw [if_pos c1] at h
      refine x_ls 44 dX3_joined_1 (by decide) (by rw [c1]) (by decide) ?_
      refine x_aload_n dX3_joined_44 0 rfl ?_
      refine y_getl fl_RX3_32 dX3_joined_45 rfl k0 ?_
      refine x_lload_n dX3_joined_48 2 rfl ?_
      refine x_lload dX3_joined_49 3 rfl ?_
      refine x_lxor dX3_joined_51 ?_
      refine x_ldc2 (-1) dX3_joined_52 wd_629 ?_
      refine x_lxor dX3_joined_55 ?_
      refine x_land dX3_joined_56 ?_
      obtain rfl := Option.some.inj h
      exact y_lret rfl dX3_joined_57
    · rw [if_neg c1] at h
      by_cases c2 : v1 = 123
      · rw [if_pos c2] at h
        refine x_ls 63 dX3_joined_1 (by decide) (by rw [c2]) (by decide) ?_
        refine x_lload_n dX3_joined_63 2 rfl ?_
        refine x_lload dX3_joined_64 3 rfl ?_
        refine x_land dX3_joined_66 ?_
        obtain rfl := Option.some.inj h
        exact y_lret rfl dX3_joined_67
      · rw [if_neg c2] at h
        by_cases c3 : v1 = 124
        · rw [if_pos c3] at h
          refine x_ls 58 dX3_joined_1 (by decide) (by rw [c3]) (by decide) ?_
          refine x_lload_n dX3_joined_58 2 rfl ?_
          refine x_lload dX3_joined_59 3 rfl ?_
          refine x_lor dX3_joined_61 ?_
          obtain rfl := Option.some.inj h
          exact y_lret rfl dX3_joined_62
        · rw [if_neg c3] at h
          refine x_ls (off := 67) 68 dX3_joined_1 (by decide) ((lv_osw c0 (by decide)).trans ((lv_osw c1 (by decide)).trans ((lv_osw c2 (by decide)).trans ((lv_osw c3 (by decide)).trans rfl)))) (by decide) ?_
          refine x_aload_n dX3_joined_68 0 rfl ?_
          refine y_getl fl_RX3_32 dX3_joined_69 rfl k0 ?_
          refine x_lload_n dX3_joined_72 2 rfl ?_
          refine x_ldc2 (-1) dX3_joined_73 wd_629 ?_
          refine x_lxor dX3_joined_76 ?_
          refine x_land dX3_joined_77 ?_
          refine x_lload dX3_joined_78 3 rfl ?_
          refine x_lor dX3_joined_80 ?_
          obtain rfl := Option.some.inj h
          exact y_lret rfl dX3_joined_81

theorem dX10_near_0 : decode cX10_near 0 = .ok (.lconst 0, 1) := by decide +kernel
theorem dX10_near_1 : decode cX10_near 1 = .ok (.lstore 4, 2) := by decide +kernel
theorem dX10_near_3 : decode cX10_near 3 = .ok (.iconst 0, 1) := by decide +kernel
theorem dX10_near_4 : decode cX10_near 4 = .ok (.istore 6, 2) := by decide +kernel
theorem dX10_near_6 : decode cX10_near 6 = .ok (.iload 6, 2) := by decide +kernel
theorem dX10_near_8 : decode cX10_near 8 = .ok (.aload_n 0, 1) := by decide +kernel
theorem dX10_near_9 : decode cX10_near 9 = .ok (.getfield 18, 3) := by decide +kernel
theorem dX10_near_12 : decode cX10_near 12 = .ok (.if_icmp .ge 44, 3) := by decide +kernel
theorem dX10_near_15 : decode cX10_near 15 = .ok (.lload_n 2, 1) := by decide +kernel
theorem dX10_near_16 : decode cX10_near 16 = .ok (.lload 4, 2) := by decide +kernel
theorem dX10_near_18 : decode cX10_near 18 = .ok (.ldc2_w 22, 3) := by decide +kernel
theorem dX10_near_21 : decode cX10_near 21 = .ok (.lxor, 1) := by decide +kernel
theorem dX10_near_22 : decode cX10_near 22 = .ok (.land, 1) := by decide +kernel
theorem dX10_near_23 : decode cX10_near 23 = .ok (.iload 6, 2) := by decide +kernel
theorem dX10_near_25 : decode cX10_near 25 = .ok (.lushr, 1) := by decide +kernel
theorem dX10_near_26 : decode cX10_near 26 = .ok (.lconst 1, 1) := by decide +kernel
theorem dX10_near_27 : decode cX10_near 27 = .ok (.land, 1) := by decide +kernel
theorem dX10_near_28 : decode cX10_near 28 = .ok (.lconst 0, 1) := by decide +kernel
theorem dX10_near_29 : decode cX10_near 29 = .ok (.lcmp, 1) := by decide +kernel
theorem dX10_near_30 : decode cX10_near 30 = .ok (.ifCond .eq 20, 3) := by decide +kernel
theorem dX10_near_33 : decode cX10_near 33 = .ok (.lload 4, 2) := by decide +kernel
theorem dX10_near_35 : decode cX10_near 35 = .ok (.aload_n 0, 1) := by decide +kernel
theorem dX10_near_36 : decode cX10_near 36 = .ok (.getfield 15, 3) := by decide +kernel
theorem dX10_near_39 : decode cX10_near 39 = .ok (.iload_n 1, 1) := by decide +kernel
theorem dX10_near_40 : decode cX10_near 40 = .ok (.bipush 64, 2) := by decide +kernel
theorem dX10_near_42 : decode cX10_near 42 = .ok (.imul, 1) := by decide +kernel
theorem dX10_near_43 : decode cX10_near 43 = .ok (.iload 6, 2) := by decide +kernel
theorem dX10_near_45 : decode cX10_near 45 = .ok (.iadd, 1) := by decide +kernel
theorem dX10_near_46 : decode cX10_near 46 = .ok (.laload, 1) := by decide +kernel
theorem dX10_near_47 : decode cX10_near 47 = .ok (.lor, 1) := by decide +kernel
theorem dX10_near_48 : decode cX10_near 48 = .ok (.lstore 4, 2) := by decide +kernel
theorem dX10_near_50 : decode cX10_near 50 = .ok (.iinc 6 1, 3) := by decide +kernel
theorem dX10_near_53 : decode cX10_near 53 = .ok (.goto (-47), 3) := by decide +kernel
theorem dX10_near_56 : decode cX10_near 56 = .ok (.lload 4, 2) := by decide +kernel
theorem dX10_near_58 : decode cX10_near 58 = .ok (.lreturn, 1) := by decide +kernel
def f_X10_near_50 (F P : Nat) (S : xSt) (rec_6 : Nat → Int32 → Int64 → Int64 → Int32 → xDt → Option (Int64 × xDt)) (v0 : Nat) (v1 : Int32) (v2 : Int64) (v4 : Int64) (v6 : Int32) (D : xDt) : Option (Int64 × xDt) :=
  xlet (v6 + 1) fun v6_1 => rec_6 v0 v1 v2 v4 v6_1 D
set_option maxHeartbeats 4000000 in
theorem t_X10_near_50 {F P : Nat} {S : xSt} (hS : xWF S) {rec_6 : Nat → Int32 → Int64 → Int64 → Int32 → xDt → Option (Int64 × xDt)} (hrec_6 : ∀ {v0 : Nat} {v1 : Int32} {v2 : Int64} {v4 : Int64} {v6 : Int32} {D : xDt} {r : Int64 × xDt}, xK S v0 10 → rec_6 v0 v1 v2 v4 v6 D = some r → yEx md_X10_near 0 6 [(0, .ref v0), (1, .int v1), (2, .long v2), (4, .long v4), (6, .int v6)] [] S D (xQl S r)) {v0 : Nat} {v1 : Int32} {v2 : Int64} {v4 : Int64} {v6 : Int32} {D : xDt} {r : Int64 × xDt} (k0 : xK S v0 10) (h : f_X10_near_50 F P S rec_6 v0 v1 v2 v4 v6 D = some r) : yEx md_X10_near 0 50 [(0, .ref v0), (1, .int v1), (2, .long v2), (4, .long v4), (6, .int v6)] [] S D (xQl S r) := by
  unfold f_X10_near_50 at h
  refine xlet_e h (fun v6_1 ev6_1 h => ?_)
  refine y_iinc v6_1 ev6_1 (by decide) [(6, .int v6_1), (0, .ref v0), (1, .int v1), (2, .long v2), (4, .long v4)] dX10_near_50 4 rfl (by show _ < 7; decide) rfl ?_
  refine x_goto 6 dX10_near_53 (by decide) ?_
  refine x_lv (lv' := [(0, .ref v0), (1, .int v1), (2, .long v2), (4, .long v4), (6, .int v6_1)]) [1, 2, 3, 4, 0] rfl ?_
  exact hrec_6 k0 h

def f_X10_near_6s (F P : Nat) (S : xSt) (rec_6 : Nat → Int32 → Int64 → Int64 → Int32 → xDt → Option (Int64 × xDt)) (v0 : Nat) (v1 : Int32) (v2 : Int64) (v4 : Int64) (v6 : Int32) (D : xDt) : Option (Int64 × xDt) :=
  if (D.1 v0 0) ≤ v6 then (some (v4, D)) else (if (lg_cmp ((jlushr (v2 &&& (v4 ^^^ (-1))) v6) &&& 1) 0) = 0 then (f_X10_near_50 F P S rec_6 v0 v1 v2 v4 v6 D) else (xgrd (xin ((v1 * 64) + v6) (xl S (xr S v0 2))) (xlet (v4 ||| (D.2 (xr S v0 2) ((v1 * 64) + v6).toNatClampNeg)) fun v4_2 => f_X10_near_50 F P S rec_6 v0 v1 v2 v4_2 v6 D)))
def f_X10_near_6 (F P : Nat) (S : xSt) : Nat → Nat → Int32 → Int64 → Int64 → Int32 → xDt → Option (Int64 × xDt)
  | 0 => fun _ _ _ _ _ _ => none
  | n + 1 => f_X10_near_6s F P S (f_X10_near_6 F P S n)
set_option maxHeartbeats 4000000 in
theorem t_X10_near_6s {F P : Nat} {S : xSt} (hS : xWF S) {rec_6 : Nat → Int32 → Int64 → Int64 → Int32 → xDt → Option (Int64 × xDt)} (hrec_6 : ∀ {v0 : Nat} {v1 : Int32} {v2 : Int64} {v4 : Int64} {v6 : Int32} {D : xDt} {r : Int64 × xDt}, xK S v0 10 → rec_6 v0 v1 v2 v4 v6 D = some r → yEx md_X10_near 0 6 [(0, .ref v0), (1, .int v1), (2, .long v2), (4, .long v4), (6, .int v6)] [] S D (xQl S r)) {v0 : Nat} {v1 : Int32} {v2 : Int64} {v4 : Int64} {v6 : Int32} {D : xDt} {r : Int64 × xDt} (k0 : xK S v0 10) (h : f_X10_near_6s F P S rec_6 v0 v1 v2 v4 v6 D = some r) : yEx md_X10_near 0 6 [(0, .ref v0), (1, .int v1), (2, .long v2), (4, .long v4), (6, .int v6)] [] S D (xQl S r) := by
  unfold f_X10_near_6s at h
  refine x_iload dX10_near_6 4 rfl ?_
  refine x_aload_n dX10_near_8 0 rfl ?_
  refine y_geti fl_RX10_18 dX10_near_9 rfl k0 ?_
  refine x_icmp_ge 56 dX10_near_12 (by decide) (fun c => ?_) (fun c => ?_)
  · rw [if_pos c] at h
    refine x_lload dX10_near_56 3 rfl ?_
    obtain rfl := Option.some.inj h
    exact y_lret rfl dX10_near_58
  · rw [if_neg c] at h
    refine x_lload_n dX10_near_15 2 rfl ?_
    refine x_lload dX10_near_16 3 rfl ?_
    refine x_ldc2 (-1) dX10_near_18 wd_425 ?_
    refine x_lxor dX10_near_21 ?_
    refine x_land dX10_near_22 ?_
    refine x_iload dX10_near_23 4 rfl ?_
    refine x_lushr dX10_near_25 ?_
    refine x_lconst 1 dX10_near_26 (by decide) ?_
    refine x_land dX10_near_27 ?_
    refine x_lconst 0 dX10_near_28 (by decide) ?_
    refine x_lcmp dX10_near_29 ?_
    refine x_if_eq 50 dX10_near_30 (by decide) (fun c => ?_) (fun c => ?_)
    · rw [if_pos c] at h
      exact t_X10_near_50 hS hrec_6 k0 h
    · rw [if_neg c] at h
      refine x_lload dX10_near_33 3 rfl ?_
      refine x_aload_n dX10_near_35 0 rfl ?_
      refine y_getr (kd := 101) hS fl_RX10_15 dX10_near_36 rfl k0 ?_
      refine x_iload_n dX10_near_39 1 rfl ?_
      refine x_bipush 64 dX10_near_40 (by decide) ?_
      refine x_imul dX10_near_42 ?_
      refine x_iload dX10_near_43 4 rfl ?_
      refine x_iadd dX10_near_45 ?_
      refine xgrd_e h (fun g1 h => ?_)
      refine y_lald dX10_near_46 ((hS.f k0 2 101 rfl).2) g1 ?_
      refine x_lor dX10_near_47 ?_
      refine xlet_e h (fun v4_2 ev4_2 h => ?_)
      refine y_lstore v4_2 ev4_2 [(4, .long v4_2), (0, .ref v0), (1, .int v1), (2, .long v2), (6, .int v6)] dX10_near_48 (by show _ < 7; decide) rfl ?_
      refine x_lv (lv' := [(0, .ref v0), (1, .int v1), (2, .long v2), (4, .long v4_2), (6, .int v6)]) [1, 2, 3, 0, 4] rfl ?_
      exact t_X10_near_50 hS hrec_6 k0 h
theorem t_X10_near_6 {F P : Nat} {S : xSt} (hS : xWF S) : ∀ (n : Nat) {v0 : Nat} {v1 : Int32} {v2 : Int64} {v4 : Int64} {v6 : Int32} {D : xDt} {r : Int64 × xDt}, xK S v0 10 → f_X10_near_6 F P S n v0 v1 v2 v4 v6 D = some r → yEx md_X10_near 0 6 [(0, .ref v0), (1, .int v1), (2, .long v2), (4, .long v4), (6, .int v6)] [] S D (xQl S r) := by
  intro n
  induction n with
  | zero => intros; rename_i h; cases h
  | succ n ih =>
    intro v0 v1 v2 v4 v6 D r k0 h
    exact t_X10_near_6s hS (fun k0 h => ih k0 h) k0 h

def f_X10_near (F P : Nat) (S : xSt) (v0 : Nat) (v1 : Int32) (v2 : Int64) (D : xDt) : Option (Int64 × xDt) :=
  f_X10_near_6 F P S F v0 v1 v2 0 0 D
set_option maxHeartbeats 4000000 in
theorem S_X10_near {F P : Nat} {S : xSt} (hS : xWF S) {v0 : Nat} {v1 : Int32} {v2 : Int64} {D : xDt} {r : Int64 × xDt} (k0 : xK S v0 10) (h : f_X10_near F P S v0 v1 v2 D = some r) : xSp md_X10_near (0, 0, 0) [.ref v0, .int v1, .long v2] (S, D) (xQl S r) := by
  unfold f_X10_near at h
  refine xEntry (by decide) (Nat.le_of_ble_eq_true rfl) ?_
  refine x_lv (lv' := [(0, .ref v0), (1, .int v1), (2, .long v2)]) [0, 1, 2] rfl ?_
  refine x_lconst 0 dX10_near_0 (by decide) ?_
  refine y_lstore 0 rfl [(4, .long 0), (0, .ref v0), (1, .int v1), (2, .long v2)] dX10_near_1 (by show _ < 7; decide) rfl ?_
  refine x_iconst 0 dX10_near_3 (by decide) ?_
  refine y_istore 0 rfl [(6, .int 0), (4, .long 0), (0, .ref v0), (1, .int v1), (2, .long v2)] dX10_near_4 (by show _ < 7; decide) rfl ?_
  refine x_lv (lv' := [(0, .ref v0), (1, .int v1), (2, .long v2), (4, .long 0), (6, .int 0)]) [2, 3, 4, 1, 0] rfl ?_
  exact t_X10_near_6 hS F k0 h

theorem dX3_known_0 : decode cX3_known 0 = .ok (.lconst 0, 1) := by decide +kernel
theorem dX3_known_1 : decode cX3_known 1 = .ok (.lstore 5, 2) := by decide +kernel
theorem dX3_known_3 : decode cX3_known 3 = .ok (.iconst 0, 1) := by decide +kernel
theorem dX3_known_4 : decode cX3_known 4 = .ok (.istore 7, 2) := by decide +kernel
theorem dX3_known_6 : decode cX3_known 6 = .ok (.iload 7, 2) := by decide +kernel
theorem dX3_known_8 : decode cX3_known 8 = .ok (.iconst 4, 1) := by decide +kernel
theorem dX3_known_9 : decode cX3_known 9 = .ok (.if_icmp .ge 40, 3) := by decide +kernel
theorem dX3_known_12 : decode cX3_known 12 = .ok (.iload_n 1, 1) := by decide +kernel
theorem dX3_known_13 : decode cX3_known 13 = .ok (.iload 7, 2) := by decide +kernel
theorem dX3_known_15 : decode cX3_known 15 = .ok (.invokestatic 92, 3) := by decide +kernel
theorem dX3_known_18 : decode cX3_known 18 = .ok (.ifCond .eq 25, 3) := by decide +kernel
theorem dX3_known_21 : decode cX3_known 21 = .ok (.lload 5, 2) := by decide +kernel
theorem dX3_known_23 : decode cX3_known 23 = .ok (.aload 4, 2) := by decide +kernel
theorem dX3_known_25 : decode cX3_known 25 = .ok (.iload 7, 2) := by decide +kernel
theorem dX3_known_27 : decode cX3_known 27 = .ok (.aload_n 0, 1) := by decide +kernel
theorem dX3_known_28 : decode cX3_known 28 = .ok (.getfield 32, 3) := by decide +kernel
theorem dX3_known_31 : decode cX3_known 31 = .ok (.lload_n 2, 1) := by decide +kernel
theorem dX3_known_32 : decode cX3_known 32 = .ok (.ldc2_w 81, 3) := by decide +kernel
theorem dX3_known_35 : decode cX3_known 35 = .ok (.lxor, 1) := by decide +kernel
theorem dX3_known_36 : decode cX3_known 36 = .ok (.land, 1) := by decide +kernel
theorem dX3_known_37 : decode cX3_known 37 = .ok (.invokevirtual 96, 3) := by decide +kernel
theorem dX3_known_40 : decode cX3_known 40 = .ok (.lor, 1) := by decide +kernel
theorem dX3_known_41 : decode cX3_known 41 = .ok (.lstore 5, 2) := by decide +kernel
theorem dX3_known_43 : decode cX3_known 43 = .ok (.iinc 7 1, 3) := by decide +kernel
theorem dX3_known_46 : decode cX3_known 46 = .ok (.goto (-40), 3) := by decide +kernel
theorem dX3_known_49 : decode cX3_known 49 = .ok (.aload_n 0, 1) := by decide +kernel
theorem dX3_known_50 : decode cX3_known 50 = .ok (.getfield 32, 3) := by decide +kernel
theorem dX3_known_53 : decode cX3_known 53 = .ok (.lload 5, 2) := by decide +kernel
theorem dX3_known_55 : decode cX3_known 55 = .ok (.ldc2_w 81, 3) := by decide +kernel
theorem dX3_known_58 : decode cX3_known 58 = .ok (.lxor, 1) := by decide +kernel
theorem dX3_known_59 : decode cX3_known 59 = .ok (.land, 1) := by decide +kernel
theorem dX3_known_60 : decode cX3_known 60 = .ok (.lreturn, 1) := by decide +kernel
def f_X3_known_43 (F P : Nat) (S : xSt) (rec_6 : Nat → Int32 → Int64 → Nat → Int64 → Int32 → xDt → Option (Int64 × xDt)) (v0 : Nat) (v1 : Int32) (v2 : Int64) (v4 : Nat) (v5 : Int64) (v7 : Int32) (D : xDt) : Option (Int64 × xDt) :=
  xlet (v7 + 1) fun v7_1 => rec_6 v0 v1 v2 v4 v5 v7_1 D
set_option maxHeartbeats 4000000 in
theorem t_X3_known_43 {F P : Nat} {S : xSt} (hS : xWF S) {rec_6 : Nat → Int32 → Int64 → Nat → Int64 → Int32 → xDt → Option (Int64 × xDt)} (hrec_6 : ∀ {v0 : Nat} {v1 : Int32} {v2 : Int64} {v4 : Nat} {v5 : Int64} {v7 : Int32} {D : xDt} {r : Int64 × xDt}, xK S v0 3 → xK S v4 10 → rec_6 v0 v1 v2 v4 v5 v7 D = some r → yEx md_X3_known 1 6 [(0, .ref v0), (1, .int v1), (2, .long v2), (4, .ref v4), (5, .long v5), (7, .int v7)] [] S D (xQl S r)) {v0 : Nat} {v1 : Int32} {v2 : Int64} {v4 : Nat} {v5 : Int64} {v7 : Int32} {D : xDt} {r : Int64 × xDt} (k0 : xK S v0 3) (k4 : xK S v4 10) (h : f_X3_known_43 F P S rec_6 v0 v1 v2 v4 v5 v7 D = some r) : yEx md_X3_known 1 43 [(0, .ref v0), (1, .int v1), (2, .long v2), (4, .ref v4), (5, .long v5), (7, .int v7)] [] S D (xQl S r) := by
  unfold f_X3_known_43 at h
  refine xlet_e h (fun v7_1 ev7_1 h => ?_)
  refine y_iinc v7_1 ev7_1 (by decide) [(7, .int v7_1), (0, .ref v0), (1, .int v1), (2, .long v2), (4, .ref v4), (5, .long v5)] dX3_known_43 5 rfl (by show _ < 8; decide) rfl ?_
  refine x_goto 6 dX3_known_46 (by decide) ?_
  refine x_lv (lv' := [(0, .ref v0), (1, .int v1), (2, .long v2), (4, .ref v4), (5, .long v5), (7, .int v7_1)]) [1, 2, 3, 4, 5, 0] rfl ?_
  exact hrec_6 k0 k4 h

def f_X3_known_6s (F P : Nat) (S : xSt) (rec_6 : Nat → Int32 → Int64 → Nat → Int64 → Int32 → xDt → Option (Int64 × xDt)) (v0 : Nat) (v1 : Int32) (v2 : Int64) (v4 : Nat) (v5 : Int64) (v7 : Int32) (D : xDt) : Option (Int64 × xDt) :=
  if 4 ≤ v7 then (some ((D.2 v0 5) &&& (v5 ^^^ (-1)), D)) else ((f_X11_hasAgent F P S v1 v7 D).bind fun q1 => if q1.1 = 0 then (f_X3_known_43 F P S rec_6 v0 v1 v2 v4 v5 v7 q1.2) else ((f_X10_near F P S v4 v7 ((q1.2.2 v0 5) &&& (v2 ^^^ (-1))) q1.2).bind fun q2 => xlet (v5 ||| q2.1) fun v5_3 => f_X3_known_43 F P S rec_6 v0 v1 v2 v4 v5_3 v7 q2.2))
def f_X3_known_6 (F P : Nat) (S : xSt) : Nat → Nat → Int32 → Int64 → Nat → Int64 → Int32 → xDt → Option (Int64 × xDt)
  | 0 => fun _ _ _ _ _ _ _ => none
  | n + 1 => f_X3_known_6s F P S (f_X3_known_6 F P S n)
set_option maxHeartbeats 4000000 in
theorem t_X3_known_6s {F P : Nat} {S : xSt} (hS : xWF S) {rec_6 : Nat → Int32 → Int64 → Nat → Int64 → Int32 → xDt → Option (Int64 × xDt)} (hrec_6 : ∀ {v0 : Nat} {v1 : Int32} {v2 : Int64} {v4 : Nat} {v5 : Int64} {v7 : Int32} {D : xDt} {r : Int64 × xDt}, xK S v0 3 → xK S v4 10 → rec_6 v0 v1 v2 v4 v5 v7 D = some r → yEx md_X3_known 1 6 [(0, .ref v0), (1, .int v1), (2, .long v2), (4, .ref v4), (5, .long v5), (7, .int v7)] [] S D (xQl S r)) {v0 : Nat} {v1 : Int32} {v2 : Int64} {v4 : Nat} {v5 : Int64} {v7 : Int32} {D : xDt} {r : Int64 × xDt} (k0 : xK S v0 3) (k4 : xK S v4 10) (h : f_X3_known_6s F P S rec_6 v0 v1 v2 v4 v5 v7 D = some r) : yEx md_X3_known 1 6 [(0, .ref v0), (1, .int v1), (2, .long v2), (4, .ref v4), (5, .long v5), (7, .int v7)] [] S D (xQl S r) := by
  unfold f_X3_known_6s at h
  refine x_iload dX3_known_6 5 rfl ?_
  refine x_iconst 4 dX3_known_8 (by decide) ?_
  refine x_icmp_ge 49 dX3_known_9 (by decide) (fun c => ?_) (fun c => ?_)
  · rw [if_pos c] at h
    refine x_aload_n dX3_known_49 0 rfl ?_
    refine y_getl fl_RX3_32 dX3_known_50 rfl k0 ?_
    refine x_lload dX3_known_53 4 rfl ?_
    refine x_ldc2 (-1) dX3_known_55 wd_629 ?_
    refine x_lxor dX3_known_58 ?_
    refine x_land dX3_known_59 ?_
    obtain rfl := Option.some.inj h
    exact y_lret rfl dX3_known_60
  · rw [if_neg c] at h
    refine x_iload_n dX3_known_12 1 rfl ?_
    refine x_iload dX3_known_13 5 rfl ?_
    refine xbnd_e h (fun q1 e1 h => ?_)
    refine y_callNi (As := [.int v1, .int v7]) (q := q1) cn_RX3_92 dX3_known_15 rfl (Nat.le_of_ble_eq_true rfl) (by omega) (S_X11_hasAgent hS e1) ?_
    refine x_if_eq 43 dX3_known_18 (by decide) (fun c => ?_) (fun c => ?_)
    · rw [if_pos c] at h
      exact t_X3_known_43 hS hrec_6 k0 k4 h
    · rw [if_neg c] at h
      refine x_lload dX3_known_21 4 rfl ?_
      refine x_aload dX3_known_23 3 rfl ?_
      refine x_iload dX3_known_25 5 rfl ?_
      refine x_aload_n dX3_known_27 0 rfl ?_
      refine y_getl fl_RX3_32 dX3_known_28 rfl k0 ?_
      refine x_lload_n dX3_known_31 2 rfl ?_
      refine x_ldc2 (-1) dX3_known_32 wd_629 ?_
      refine x_lxor dX3_known_35 ?_
      refine x_land dX3_known_36 ?_
      refine xbnd_e h (fun q2 e2 h => ?_)
      refine y_callVl (As := [.int v7, .long ((q1.2.2 v0 5) &&& (v2 ^^^ (-1)))]) (q := q2) cv_RX3_96 dX3_known_37 k4 rfl (Nat.le_of_ble_eq_true rfl) (by omega) (S_X10_near hS k4 e2) ?_
      refine x_lor dX3_known_40 ?_
      refine xlet_e h (fun v5_3 ev5_3 h => ?_)
      refine y_lstore v5_3 ev5_3 [(5, .long v5_3), (0, .ref v0), (1, .int v1), (2, .long v2), (4, .ref v4), (7, .int v7)] dX3_known_41 (by show _ < 8; decide) rfl ?_
      refine x_lv (lv' := [(0, .ref v0), (1, .int v1), (2, .long v2), (4, .ref v4), (5, .long v5_3), (7, .int v7)]) [1, 2, 3, 4, 0, 5] rfl ?_
      exact t_X3_known_43 hS hrec_6 k0 k4 h
theorem t_X3_known_6 {F P : Nat} {S : xSt} (hS : xWF S) : ∀ (n : Nat) {v0 : Nat} {v1 : Int32} {v2 : Int64} {v4 : Nat} {v5 : Int64} {v7 : Int32} {D : xDt} {r : Int64 × xDt}, xK S v0 3 → xK S v4 10 → f_X3_known_6 F P S n v0 v1 v2 v4 v5 v7 D = some r → yEx md_X3_known 1 6 [(0, .ref v0), (1, .int v1), (2, .long v2), (4, .ref v4), (5, .long v5), (7, .int v7)] [] S D (xQl S r) := by
  intro n
  induction n with
  | zero => intros; rename_i h; cases h
  | succ n ih =>
    intro v0 v1 v2 v4 v5 v7 D r k0 k4 h
    exact t_X3_known_6s hS (fun k0 k4 h => ih k0 k4 h) k0 k4 h

def f_X3_known (F P : Nat) (S : xSt) (v0 : Nat) (v1 : Int32) (v2 : Int64) (v4 : Nat) (D : xDt) : Option (Int64 × xDt) :=
  f_X3_known_6 F P S F v0 v1 v2 v4 0 0 D
set_option maxHeartbeats 4000000 in
theorem S_X3_known {F P : Nat} {S : xSt} (hS : xWF S) {v0 : Nat} {v1 : Int32} {v2 : Int64} {v4 : Nat} {D : xDt} {r : Int64 × xDt} (k0 : xK S v0 3) (k4 : xK S v4 10) (h : f_X3_known F P S v0 v1 v2 v4 D = some r) : xSp md_X3_known (1, 0, 0) [.ref v0, .int v1, .long v2, .ref v4] (S, D) (xQl S r) := by
  unfold f_X3_known at h
  refine xEntry (by decide) (Nat.le_of_ble_eq_true rfl) ?_
  refine x_lv (lv' := [(0, .ref v0), (1, .int v1), (2, .long v2), (4, .ref v4)]) [0, 1, 2, 3] rfl ?_
  refine x_lconst 0 dX3_known_0 (by decide) ?_
  refine y_lstore 0 rfl [(5, .long 0), (0, .ref v0), (1, .int v1), (2, .long v2), (4, .ref v4)] dX3_known_1 (by show _ < 8; decide) rfl ?_
  refine x_iconst 0 dX3_known_3 (by decide) ?_
  refine y_istore 0 rfl [(7, .int 0), (5, .long 0), (0, .ref v0), (1, .int v1), (2, .long v2), (4, .ref v4)] dX3_known_4 (by show _ < 8; decide) rfl ?_
  refine x_lv (lv' := [(0, .ref v0), (1, .int v1), (2, .long v2), (4, .ref v4), (5, .long 0), (7, .int 0)]) [2, 3, 4, 5, 1, 0] rfl ?_
  exact t_X3_known_6 hS F k0 k4 h

theorem dX3_common_0 : decode cX3_common 0 = .ok (.aload_n 0, 1) := by decide +kernel
theorem dX3_common_1 : decode cX3_common 1 = .ok (.getfield 32, 3) := by decide +kernel
theorem dX3_common_4 : decode cX3_common 4 = .ok (.lload_n 2, 1) := by decide +kernel
theorem dX3_common_5 : decode cX3_common 5 = .ok (.ldc2_w 81, 3) := by decide +kernel
theorem dX3_common_8 : decode cX3_common 8 = .ok (.lxor, 1) := by decide +kernel
theorem dX3_common_9 : decode cX3_common 9 = .ok (.land, 1) := by decide +kernel
theorem dX3_common_10 : decode cX3_common 10 = .ok (.lstore 5, 2) := by decide +kernel
theorem dX3_common_12 : decode cX3_common 12 = .ok (.iconst 0, 1) := by decide +kernel
theorem dX3_common_13 : decode cX3_common 13 = .ok (.istore 7, 2) := by decide +kernel
theorem dX3_common_15 : decode cX3_common 15 = .ok (.iload 7, 2) := by decide +kernel
theorem dX3_common_17 : decode cX3_common 17 = .ok (.bipush 64, 2) := by decide +kernel
theorem dX3_common_19 : decode cX3_common 19 = .ok (.if_icmp .ge 71, 3) := by decide +kernel
theorem dX3_common_22 : decode cX3_common 22 = .ok (.lload 5, 2) := by decide +kernel
theorem dX3_common_24 : decode cX3_common 24 = .ok (.lstore 8, 2) := by decide +kernel
theorem dX3_common_26 : decode cX3_common 26 = .ok (.iconst 0, 1) := by decide +kernel
theorem dX3_common_27 : decode cX3_common 27 = .ok (.istore 10, 2) := by decide +kernel
theorem dX3_common_29 : decode cX3_common 29 = .ok (.iload 10, 2) := by decide +kernel
theorem dX3_common_31 : decode cX3_common 31 = .ok (.iconst 4, 1) := by decide +kernel
theorem dX3_common_32 : decode cX3_common 32 = .ok (.if_icmp .ge 37, 3) := by decide +kernel
theorem dX3_common_35 : decode cX3_common 35 = .ok (.iload_n 1, 1) := by decide +kernel
theorem dX3_common_36 : decode cX3_common 36 = .ok (.iload 10, 2) := by decide +kernel
theorem dX3_common_38 : decode cX3_common 38 = .ok (.invokestatic 92, 3) := by decide +kernel
theorem dX3_common_41 : decode cX3_common 41 = .ok (.ifCond .eq 22, 3) := by decide +kernel
theorem dX3_common_44 : decode cX3_common 44 = .ok (.lload 8, 2) := by decide +kernel
theorem dX3_common_46 : decode cX3_common 46 = .ok (.aload_n 0, 1) := by decide +kernel
theorem dX3_common_47 : decode cX3_common 47 = .ok (.getfield 32, 3) := by decide +kernel
theorem dX3_common_50 : decode cX3_common 50 = .ok (.aload 4, 2) := by decide +kernel
theorem dX3_common_52 : decode cX3_common 52 = .ok (.iload 10, 2) := by decide +kernel
theorem dX3_common_54 : decode cX3_common 54 = .ok (.lload 8, 2) := by decide +kernel
theorem dX3_common_56 : decode cX3_common 56 = .ok (.invokevirtual 96, 3) := by decide +kernel
theorem dX3_common_59 : decode cX3_common 59 = .ok (.land, 1) := by decide +kernel
theorem dX3_common_60 : decode cX3_common 60 = .ok (.lor, 1) := by decide +kernel
theorem dX3_common_61 : decode cX3_common 61 = .ok (.lstore 8, 2) := by decide +kernel
theorem dX3_common_63 : decode cX3_common 63 = .ok (.iinc 10 1, 3) := by decide +kernel
theorem dX3_common_66 : decode cX3_common 66 = .ok (.goto (-37), 3) := by decide +kernel
theorem dX3_common_69 : decode cX3_common 69 = .ok (.lload 8, 2) := by decide +kernel
theorem dX3_common_71 : decode cX3_common 71 = .ok (.lload 5, 2) := by decide +kernel
theorem dX3_common_73 : decode cX3_common 73 = .ok (.lcmp, 1) := by decide +kernel
theorem dX3_common_74 : decode cX3_common 74 = .ok (.ifCond .ne 6, 3) := by decide +kernel
theorem dX3_common_77 : decode cX3_common 77 = .ok (.goto 13, 3) := by decide +kernel
theorem dX3_common_80 : decode cX3_common 80 = .ok (.lload 8, 2) := by decide +kernel
theorem dX3_common_82 : decode cX3_common 82 = .ok (.lstore 5, 2) := by decide +kernel
theorem dX3_common_84 : decode cX3_common 84 = .ok (.iinc 7 1, 3) := by decide +kernel
theorem dX3_common_87 : decode cX3_common 87 = .ok (.goto (-72), 3) := by decide +kernel
theorem dX3_common_90 : decode cX3_common 90 = .ok (.aload_n 0, 1) := by decide +kernel
theorem dX3_common_91 : decode cX3_common 91 = .ok (.getfield 32, 3) := by decide +kernel
theorem dX3_common_94 : decode cX3_common 94 = .ok (.lload 5, 2) := by decide +kernel
theorem dX3_common_96 : decode cX3_common 96 = .ok (.ldc2_w 81, 3) := by decide +kernel
theorem dX3_common_99 : decode cX3_common 99 = .ok (.lxor, 1) := by decide +kernel
theorem dX3_common_100 : decode cX3_common 100 = .ok (.land, 1) := by decide +kernel
theorem dX3_common_101 : decode cX3_common 101 = .ok (.lreturn, 1) := by decide +kernel
def f_X3_common_63 (F P : Nat) (S : xSt) (rec_15 : Nat → Int32 → Nat → Int64 → Int32 → xDt → Option (Int64 × xDt)) (rec_29 : Nat → Int32 → Nat → Int64 → Int32 → Int64 → Int32 → xDt → Option (Int64 × xDt)) (v0 : Nat) (v1 : Int32) (v4 : Nat) (v5 : Int64) (v7 : Int32) (v8 : Int64) (v10 : Int32) (D : xDt) : Option (Int64 × xDt) :=
  xlet (v10 + 1) fun v10_1 => rec_29 v0 v1 v4 v5 v7 v8 v10_1 D
set_option maxHeartbeats 4000000 in
theorem t_X3_common_63 {F P : Nat} {S : xSt} (hS : xWF S) {rec_15 : Nat → Int32 → Nat → Int64 → Int32 → xDt → Option (Int64 × xDt)} (hrec_15 : ∀ {v0 : Nat} {v1 : Int32} {v4 : Nat} {v5 : Int64} {v7 : Int32} {D : xDt} {r : Int64 × xDt}, xK S v0 3 → xK S v4 10 → rec_15 v0 v1 v4 v5 v7 D = some r → yEx md_X3_common 1 15 [(0, .ref v0), (1, .int v1), (4, .ref v4), (5, .long v5), (7, .int v7)] [] S D (xQl S r)) {rec_29 : Nat → Int32 → Nat → Int64 → Int32 → Int64 → Int32 → xDt → Option (Int64 × xDt)} (hrec_29 : ∀ {v0 : Nat} {v1 : Int32} {v4 : Nat} {v5 : Int64} {v7 : Int32} {v8 : Int64} {v10 : Int32} {D : xDt} {r : Int64 × xDt}, xK S v0 3 → xK S v4 10 → rec_29 v0 v1 v4 v5 v7 v8 v10 D = some r → yEx md_X3_common 1 29 [(0, .ref v0), (1, .int v1), (4, .ref v4), (5, .long v5), (7, .int v7), (8, .long v8), (10, .int v10)] [] S D (xQl S r)) {v0 : Nat} {v1 : Int32} {v4 : Nat} {v5 : Int64} {v7 : Int32} {v8 : Int64} {v10 : Int32} {D : xDt} {r : Int64 × xDt} (k0 : xK S v0 3) (k4 : xK S v4 10) (h : f_X3_common_63 F P S rec_15 rec_29 v0 v1 v4 v5 v7 v8 v10 D = some r) : yEx md_X3_common 1 63 [(0, .ref v0), (1, .int v1), (4, .ref v4), (5, .long v5), (7, .int v7), (8, .long v8), (10, .int v10)] [] S D (xQl S r) := by
  unfold f_X3_common_63 at h
  refine xlet_e h (fun v10_1 ev10_1 h => ?_)
  refine y_iinc v10_1 ev10_1 (by decide) [(10, .int v10_1), (0, .ref v0), (1, .int v1), (4, .ref v4), (5, .long v5), (7, .int v7), (8, .long v8)] dX3_common_63 6 rfl (by show _ < 11; decide) rfl ?_
  refine x_goto 29 dX3_common_66 (by decide) ?_
  refine x_lv (lv' := [(0, .ref v0), (1, .int v1), (4, .ref v4), (5, .long v5), (7, .int v7), (8, .long v8), (10, .int v10_1)]) [1, 2, 3, 4, 5, 6, 0] rfl ?_
  exact hrec_29 k0 k4 h

def f_X3_common_90 (F P : Nat) (S : xSt) (v0 : Nat) (v5 : Int64) (D : xDt) : Option (Int64 × xDt) :=
  some ((D.2 v0 5) &&& (v5 ^^^ (-1)), D)
set_option maxHeartbeats 4000000 in
theorem t_X3_common_90 {F P : Nat} {S : xSt} (hS : xWF S) {v0 : Nat} {v5 : Int64} {D : xDt} {r : Int64 × xDt} (k0 : xK S v0 3) (h : f_X3_common_90 F P S v0 v5 D = some r) : yEx md_X3_common 1 90 [(0, .ref v0), (5, .long v5)] [] S D (xQl S r) := by
  unfold f_X3_common_90 at h
  refine x_aload_n dX3_common_90 0 rfl ?_
  refine y_getl fl_RX3_32 dX3_common_91 rfl k0 ?_
  refine x_lload dX3_common_94 1 rfl ?_
  refine x_ldc2 (-1) dX3_common_96 wd_629 ?_
  refine x_lxor dX3_common_99 ?_
  refine x_land dX3_common_100 ?_
  obtain rfl := Option.some.inj h
  exact y_lret rfl dX3_common_101

def f_X3_common_29s (F P : Nat) (S : xSt) (rec_15 : Nat → Int32 → Nat → Int64 → Int32 → xDt → Option (Int64 × xDt)) (rec_29 : Nat → Int32 → Nat → Int64 → Int32 → Int64 → Int32 → xDt → Option (Int64 × xDt)) (v0 : Nat) (v1 : Int32) (v4 : Nat) (v5 : Int64) (v7 : Int32) (v8 : Int64) (v10 : Int32) (D : xDt) : Option (Int64 × xDt) :=
  if 4 ≤ v10 then (if (lg_cmp v8 v5) = 0 then (f_X3_common_90 F P S v0 v5 D) else (xlet (v7 + 1) fun v7_1 => rec_15 v0 v1 v4 v8 v7_1 D)) else ((f_X11_hasAgent F P S v1 v10 D).bind fun q2 => if q2.1 = 0 then (f_X3_common_63 F P S rec_15 rec_29 v0 v1 v4 v5 v7 v8 v10 q2.2) else ((f_X10_near F P S v4 v10 v8 q2.2).bind fun q3 => xlet (v8 ||| ((q2.2.2 v0 5) &&& q3.1)) fun v8_4 => f_X3_common_63 F P S rec_15 rec_29 v0 v1 v4 v5 v7 v8_4 v10 q3.2))
def f_X3_common_29 (F P : Nat) (S : xSt) (rec_15 : Nat → Int32 → Nat → Int64 → Int32 → xDt → Option (Int64 × xDt)) : Nat → Nat → Int32 → Nat → Int64 → Int32 → Int64 → Int32 → xDt → Option (Int64 × xDt)
  | 0 => fun _ _ _ _ _ _ _ _ => none
  | n + 1 => f_X3_common_29s F P S rec_15 (f_X3_common_29 F P S rec_15 n)
set_option maxHeartbeats 4000000 in
theorem t_X3_common_29s {F P : Nat} {S : xSt} (hS : xWF S) {rec_15 : Nat → Int32 → Nat → Int64 → Int32 → xDt → Option (Int64 × xDt)} (hrec_15 : ∀ {v0 : Nat} {v1 : Int32} {v4 : Nat} {v5 : Int64} {v7 : Int32} {D : xDt} {r : Int64 × xDt}, xK S v0 3 → xK S v4 10 → rec_15 v0 v1 v4 v5 v7 D = some r → yEx md_X3_common 1 15 [(0, .ref v0), (1, .int v1), (4, .ref v4), (5, .long v5), (7, .int v7)] [] S D (xQl S r)) {rec_29 : Nat → Int32 → Nat → Int64 → Int32 → Int64 → Int32 → xDt → Option (Int64 × xDt)} (hrec_29 : ∀ {v0 : Nat} {v1 : Int32} {v4 : Nat} {v5 : Int64} {v7 : Int32} {v8 : Int64} {v10 : Int32} {D : xDt} {r : Int64 × xDt}, xK S v0 3 → xK S v4 10 → rec_29 v0 v1 v4 v5 v7 v8 v10 D = some r → yEx md_X3_common 1 29 [(0, .ref v0), (1, .int v1), (4, .ref v4), (5, .long v5), (7, .int v7), (8, .long v8), (10, .int v10)] [] S D (xQl S r)) {v0 : Nat} {v1 : Int32} {v4 : Nat} {v5 : Int64} {v7 : Int32} {v8 : Int64} {v10 : Int32} {D : xDt} {r : Int64 × xDt} (k0 : xK S v0 3) (k4 : xK S v4 10) (h : f_X3_common_29s F P S rec_15 rec_29 v0 v1 v4 v5 v7 v8 v10 D = some r) : yEx md_X3_common 1 29 [(0, .ref v0), (1, .int v1), (4, .ref v4), (5, .long v5), (7, .int v7), (8, .long v8), (10, .int v10)] [] S D (xQl S r) := by
  unfold f_X3_common_29s at h
  refine x_iload dX3_common_29 6 rfl ?_
  refine x_iconst 4 dX3_common_31 (by decide) ?_
  refine x_icmp_ge 69 dX3_common_32 (by decide) (fun c => ?_) (fun c => ?_)
  · rw [if_pos c] at h
    refine x_lload dX3_common_69 5 rfl ?_
    refine x_lload dX3_common_71 3 rfl ?_
    refine x_lcmp dX3_common_73 ?_
    refine x_if_ne 80 dX3_common_74 (by decide) (fun c => ?_) (fun c => ?_)
    · rw [if_neg c] at h
      refine x_lload dX3_common_80 5 rfl ?_
      refine y_lstore v8 rfl [(5, .long v8), (0, .ref v0), (1, .int v1), (4, .ref v4), (7, .int v7), (8, .long v8), (10, .int v10)] dX3_common_82 (by show _ < 11; decide) rfl ?_
      refine xlet_e h (fun v7_1 ev7_1 h => ?_)
      refine y_iinc v7_1 ev7_1 (by decide) [(7, .int v7_1), (5, .long v8), (0, .ref v0), (1, .int v1), (4, .ref v4), (8, .long v8), (10, .int v10)] dX3_common_84 4 rfl (by show _ < 11; decide) rfl ?_
      refine x_goto 15 dX3_common_87 (by decide) ?_
      refine x_lv (lv' := [(0, .ref v0), (1, .int v1), (4, .ref v4), (5, .long v8), (7, .int v7_1)]) [2, 3, 4, 1, 0] rfl ?_
      exact hrec_15 k0 k4 h
    · rw [if_pos c] at h
      refine x_goto 90 dX3_common_77 (by decide) ?_
      refine x_lv (lv' := [(0, .ref v0), (5, .long v5)]) [0, 3] rfl ?_
      exact t_X3_common_90 hS k0 h
  · rw [if_neg c] at h
    refine x_iload_n dX3_common_35 1 rfl ?_
    refine x_iload dX3_common_36 6 rfl ?_
    refine xbnd_e h (fun q2 e2 h => ?_)
    refine y_callNi (As := [.int v1, .int v10]) (q := q2) cn_RX3_92 dX3_common_38 rfl (Nat.le_of_ble_eq_true rfl) (by omega) (S_X11_hasAgent hS e2) ?_
    refine x_if_eq 63 dX3_common_41 (by decide) (fun c => ?_) (fun c => ?_)
    · rw [if_pos c] at h
      exact t_X3_common_63 hS hrec_15 hrec_29 k0 k4 h
    · rw [if_neg c] at h
      refine x_lload dX3_common_44 5 rfl ?_
      refine x_aload_n dX3_common_46 0 rfl ?_
      refine y_getl fl_RX3_32 dX3_common_47 rfl k0 ?_
      refine x_aload dX3_common_50 2 rfl ?_
      refine x_iload dX3_common_52 6 rfl ?_
      refine x_lload dX3_common_54 5 rfl ?_
      refine xbnd_e h (fun q3 e3 h => ?_)
      refine y_callVl (As := [.int v10, .long v8]) (q := q3) cv_RX3_96 dX3_common_56 k4 rfl (Nat.le_of_ble_eq_true rfl) (by omega) (S_X10_near hS k4 e3) ?_
      refine x_land dX3_common_59 ?_
      refine x_lor dX3_common_60 ?_
      refine xlet_e h (fun v8_4 ev8_4 h => ?_)
      refine y_lstore v8_4 ev8_4 [(8, .long v8_4), (0, .ref v0), (1, .int v1), (4, .ref v4), (5, .long v5), (7, .int v7), (10, .int v10)] dX3_common_61 (by show _ < 11; decide) rfl ?_
      refine x_lv (lv' := [(0, .ref v0), (1, .int v1), (4, .ref v4), (5, .long v5), (7, .int v7), (8, .long v8_4), (10, .int v10)]) [1, 2, 3, 4, 5, 0, 6] rfl ?_
      exact t_X3_common_63 hS hrec_15 hrec_29 k0 k4 h
theorem t_X3_common_29 {F P : Nat} {S : xSt} (hS : xWF S) {rec_15 : Nat → Int32 → Nat → Int64 → Int32 → xDt → Option (Int64 × xDt)} (hrec_15 : ∀ {v0 : Nat} {v1 : Int32} {v4 : Nat} {v5 : Int64} {v7 : Int32} {D : xDt} {r : Int64 × xDt}, xK S v0 3 → xK S v4 10 → rec_15 v0 v1 v4 v5 v7 D = some r → yEx md_X3_common 1 15 [(0, .ref v0), (1, .int v1), (4, .ref v4), (5, .long v5), (7, .int v7)] [] S D (xQl S r)) : ∀ (n : Nat) {v0 : Nat} {v1 : Int32} {v4 : Nat} {v5 : Int64} {v7 : Int32} {v8 : Int64} {v10 : Int32} {D : xDt} {r : Int64 × xDt}, xK S v0 3 → xK S v4 10 → f_X3_common_29 F P S rec_15 n v0 v1 v4 v5 v7 v8 v10 D = some r → yEx md_X3_common 1 29 [(0, .ref v0), (1, .int v1), (4, .ref v4), (5, .long v5), (7, .int v7), (8, .long v8), (10, .int v10)] [] S D (xQl S r) := by
  intro n
  induction n with
  | zero => intros; rename_i h; cases h
  | succ n ih =>
    intro v0 v1 v4 v5 v7 v8 v10 D r k0 k4 h
    exact t_X3_common_29s hS hrec_15 (fun k0 k4 h => ih k0 k4 h) k0 k4 h

def f_X3_common_15s (F P : Nat) (S : xSt) (rec_15 : Nat → Int32 → Nat → Int64 → Int32 → xDt → Option (Int64 × xDt)) (v0 : Nat) (v1 : Int32) (v4 : Nat) (v5 : Int64) (v7 : Int32) (D : xDt) : Option (Int64 × xDt) :=
  if 64 ≤ v7 then (f_X3_common_90 F P S v0 v5 D) else (f_X3_common_29 F P S rec_15 F v0 v1 v4 v5 v7 v5 0 D)
def f_X3_common_15 (F P : Nat) (S : xSt) : Nat → Nat → Int32 → Nat → Int64 → Int32 → xDt → Option (Int64 × xDt)
  | 0 => fun _ _ _ _ _ _ => none
  | n + 1 => f_X3_common_15s F P S (f_X3_common_15 F P S n)
set_option maxHeartbeats 4000000 in
theorem t_X3_common_15s {F P : Nat} {S : xSt} (hS : xWF S) {rec_15 : Nat → Int32 → Nat → Int64 → Int32 → xDt → Option (Int64 × xDt)} (hrec_15 : ∀ {v0 : Nat} {v1 : Int32} {v4 : Nat} {v5 : Int64} {v7 : Int32} {D : xDt} {r : Int64 × xDt}, xK S v0 3 → xK S v4 10 → rec_15 v0 v1 v4 v5 v7 D = some r → yEx md_X3_common 1 15 [(0, .ref v0), (1, .int v1), (4, .ref v4), (5, .long v5), (7, .int v7)] [] S D (xQl S r)) {v0 : Nat} {v1 : Int32} {v4 : Nat} {v5 : Int64} {v7 : Int32} {D : xDt} {r : Int64 × xDt} (k0 : xK S v0 3) (k4 : xK S v4 10) (h : f_X3_common_15s F P S rec_15 v0 v1 v4 v5 v7 D = some r) : yEx md_X3_common 1 15 [(0, .ref v0), (1, .int v1), (4, .ref v4), (5, .long v5), (7, .int v7)] [] S D (xQl S r) := by
  unfold f_X3_common_15s at h
  refine x_iload dX3_common_15 4 rfl ?_
  refine x_bipush 64 dX3_common_17 (by decide) ?_
  refine x_icmp_ge 90 dX3_common_19 (by decide) (fun c => ?_) (fun c => ?_)
  · rw [if_pos c] at h
    refine x_lv (lv' := [(0, .ref v0), (5, .long v5)]) [0, 3] rfl ?_
    exact t_X3_common_90 hS k0 h
  · rw [if_neg c] at h
    refine x_lload dX3_common_22 3 rfl ?_
    refine y_lstore v5 rfl [(8, .long v5), (0, .ref v0), (1, .int v1), (4, .ref v4), (5, .long v5), (7, .int v7)] dX3_common_24 (by show _ < 11; decide) rfl ?_
    refine x_iconst 0 dX3_common_26 (by decide) ?_
    refine y_istore 0 rfl [(10, .int 0), (8, .long v5), (0, .ref v0), (1, .int v1), (4, .ref v4), (5, .long v5), (7, .int v7)] dX3_common_27 (by show _ < 11; decide) rfl ?_
    refine x_lv (lv' := [(0, .ref v0), (1, .int v1), (4, .ref v4), (5, .long v5), (7, .int v7), (8, .long v5), (10, .int 0)]) [2, 3, 4, 5, 6, 1, 0] rfl ?_
    exact t_X3_common_29 hS hrec_15 F k0 k4 h
theorem t_X3_common_15 {F P : Nat} {S : xSt} (hS : xWF S) : ∀ (n : Nat) {v0 : Nat} {v1 : Int32} {v4 : Nat} {v5 : Int64} {v7 : Int32} {D : xDt} {r : Int64 × xDt}, xK S v0 3 → xK S v4 10 → f_X3_common_15 F P S n v0 v1 v4 v5 v7 D = some r → yEx md_X3_common 1 15 [(0, .ref v0), (1, .int v1), (4, .ref v4), (5, .long v5), (7, .int v7)] [] S D (xQl S r) := by
  intro n
  induction n with
  | zero => intros; rename_i h; cases h
  | succ n ih =>
    intro v0 v1 v4 v5 v7 D r k0 k4 h
    exact t_X3_common_15s hS (fun k0 k4 h => ih k0 k4 h) k0 k4 h

def f_X3_common (F P : Nat) (S : xSt) (v0 : Nat) (v1 : Int32) (v2 : Int64) (v4 : Nat) (D : xDt) : Option (Int64 × xDt) :=
  xlet ((D.2 v0 5) &&& (v2 ^^^ (-1))) fun v5_1 => f_X3_common_15 F P S F v0 v1 v4 v5_1 0 D
set_option maxHeartbeats 4000000 in
theorem S_X3_common {F P : Nat} {S : xSt} (hS : xWF S) {v0 : Nat} {v1 : Int32} {v2 : Int64} {v4 : Nat} {D : xDt} {r : Int64 × xDt} (k0 : xK S v0 3) (k4 : xK S v4 10) (h : f_X3_common F P S v0 v1 v2 v4 D = some r) : xSp md_X3_common (1, 0, 0) [.ref v0, .int v1, .long v2, .ref v4] (S, D) (xQl S r) := by
  unfold f_X3_common at h
  refine xEntry (by decide) (Nat.le_of_ble_eq_true rfl) ?_
  refine x_lv (lv' := [(0, .ref v0), (1, .int v1), (2, .long v2), (4, .ref v4)]) [0, 1, 2, 3] rfl ?_
  refine x_aload_n dX3_common_0 0 rfl ?_
  refine y_getl fl_RX3_32 dX3_common_1 rfl k0 ?_
  refine x_lload_n dX3_common_4 2 rfl ?_
  refine x_ldc2 (-1) dX3_common_5 wd_629 ?_
  refine x_lxor dX3_common_8 ?_
  refine x_land dX3_common_9 ?_
  refine xlet_e h (fun v5_1 ev5_1 h => ?_)
  refine y_lstore v5_1 ev5_1 [(5, .long v5_1), (0, .ref v0), (1, .int v1), (2, .long v2), (4, .ref v4)] dX3_common_10 (by show _ < 11; decide) rfl ?_
  refine x_iconst 0 dX3_common_12 (by decide) ?_
  refine y_istore 0 rfl [(7, .int 0), (5, .long v5_1), (0, .ref v0), (1, .int v1), (2, .long v2), (4, .ref v4)] dX3_common_13 (by show _ < 11; decide) rfl ?_
  refine x_lv (lv' := [(0, .ref v0), (1, .int v1), (4, .ref v4), (5, .long v5_1), (7, .int 0)]) [2, 3, 5, 1, 0] rfl ?_
  exact t_X3_common_15 hS F k0 k4 h

theorem dX10_cell_0 : decode cX10_cell 0 = .ok (.aload_n 0, 1) := by decide +kernel
theorem dX10_cell_1 : decode cX10_cell 1 = .ok (.getfield 15, 3) := by decide +kernel
theorem dX10_cell_4 : decode cX10_cell 4 = .ok (.iload_n 1, 1) := by decide +kernel
theorem dX10_cell_5 : decode cX10_cell 5 = .ok (.bipush 64, 2) := by decide +kernel
theorem dX10_cell_7 : decode cX10_cell 7 = .ok (.imul, 1) := by decide +kernel
theorem dX10_cell_8 : decode cX10_cell 8 = .ok (.iload_n 2, 1) := by decide +kernel
theorem dX10_cell_9 : decode cX10_cell 9 = .ok (.iadd, 1) := by decide +kernel
theorem dX10_cell_10 : decode cX10_cell 10 = .ok (.laload, 1) := by decide +kernel
theorem dX10_cell_11 : decode cX10_cell 11 = .ok (.lreturn, 1) := by decide +kernel
def f_X10_cell (F P : Nat) (S : xSt) (v0 : Nat) (v1 : Int32) (v2 : Int32) (D : xDt) : Option (Int64 × xDt) :=
  xgrd (xin ((v1 * 64) + v2) (xl S (xr S v0 2))) (some (D.2 (xr S v0 2) ((v1 * 64) + v2).toNatClampNeg, D))
set_option maxHeartbeats 4000000 in
theorem S_X10_cell {F P : Nat} {S : xSt} (hS : xWF S) {v0 : Nat} {v1 : Int32} {v2 : Int32} {D : xDt} {r : Int64 × xDt} (k0 : xK S v0 10) (h : f_X10_cell F P S v0 v1 v2 D = some r) : xSp md_X10_cell (0, 0, 0) [.ref v0, .int v1, .int v2] (S, D) (xQl S r) := by
  unfold f_X10_cell at h
  refine xEntry (by decide) (Nat.le_of_ble_eq_true rfl) ?_
  refine x_lv (lv' := [(0, .ref v0), (1, .int v1), (2, .int v2)]) [0, 1, 2] rfl ?_
  refine x_aload_n dX10_cell_0 0 rfl ?_
  refine y_getr (kd := 101) hS fl_RX10_15 dX10_cell_1 rfl k0 ?_
  refine x_iload_n dX10_cell_4 1 rfl ?_
  refine x_bipush 64 dX10_cell_5 (by decide) ?_
  refine x_imul dX10_cell_7 ?_
  refine x_iload_n dX10_cell_8 2 rfl ?_
  refine x_iadd dX10_cell_9 ?_
  refine xgrd_e h (fun g1 h => ?_)
  refine y_lald dX10_cell_10 ((hS.f k0 2 101 rfl).2) g1 ?_
  obtain rfl := Option.some.inj h
  exact y_lret rfl dX10_cell_11

theorem dX3_pooled_0 : decode cX3_pooled 0 = .ok (.lconst 0, 1) := by decide +kernel
theorem dX3_pooled_1 : decode cX3_pooled 1 = .ok (.lstore 5, 2) := by decide +kernel
theorem dX3_pooled_3 : decode cX3_pooled 3 = .ok (.iconst 0, 1) := by decide +kernel
theorem dX3_pooled_4 : decode cX3_pooled 4 = .ok (.istore 7, 2) := by decide +kernel
theorem dX3_pooled_6 : decode cX3_pooled 6 = .ok (.iload 7, 2) := by decide +kernel
theorem dX3_pooled_8 : decode cX3_pooled 8 = .ok (.aload 4, 2) := by decide +kernel
theorem dX3_pooled_10 : decode cX3_pooled 10 = .ok (.getfield 100, 3) := by decide +kernel
theorem dX3_pooled_13 : decode cX3_pooled 13 = .ok (.if_icmp .ge 79, 3) := by decide +kernel
theorem dX3_pooled_16 : decode cX3_pooled 16 = .ok (.aload_n 0, 1) := by decide +kernel
theorem dX3_pooled_17 : decode cX3_pooled 17 = .ok (.getfield 32, 3) := by decide +kernel
theorem dX3_pooled_20 : decode cX3_pooled 20 = .ok (.lload_n 2, 1) := by decide +kernel
theorem dX3_pooled_21 : decode cX3_pooled 21 = .ok (.ldc2_w 81, 3) := by decide +kernel
theorem dX3_pooled_24 : decode cX3_pooled 24 = .ok (.lxor, 1) := by decide +kernel
theorem dX3_pooled_25 : decode cX3_pooled 25 = .ok (.land, 1) := by decide +kernel
theorem dX3_pooled_26 : decode cX3_pooled 26 = .ok (.lstore 8, 2) := by decide +kernel
theorem dX3_pooled_28 : decode cX3_pooled 28 = .ok (.iconst 0, 1) := by decide +kernel
theorem dX3_pooled_29 : decode cX3_pooled 29 = .ok (.istore 10, 2) := by decide +kernel
theorem dX3_pooled_31 : decode cX3_pooled 31 = .ok (.iload 10, 2) := by decide +kernel
theorem dX3_pooled_33 : decode cX3_pooled 33 = .ok (.iconst 4, 1) := by decide +kernel
theorem dX3_pooled_34 : decode cX3_pooled 34 = .ok (.if_icmp .ge 32, 3) := by decide +kernel
theorem dX3_pooled_37 : decode cX3_pooled 37 = .ok (.iload_n 1, 1) := by decide +kernel
theorem dX3_pooled_38 : decode cX3_pooled 38 = .ok (.iload 10, 2) := by decide +kernel
theorem dX3_pooled_40 : decode cX3_pooled 40 = .ok (.invokestatic 92, 3) := by decide +kernel
theorem dX3_pooled_43 : decode cX3_pooled 43 = .ok (.ifCond .eq 17, 3) := by decide +kernel
theorem dX3_pooled_46 : decode cX3_pooled 46 = .ok (.lload 8, 2) := by decide +kernel
theorem dX3_pooled_48 : decode cX3_pooled 48 = .ok (.aload 4, 2) := by decide +kernel
theorem dX3_pooled_50 : decode cX3_pooled 50 = .ok (.iload 10, 2) := by decide +kernel
theorem dX3_pooled_52 : decode cX3_pooled 52 = .ok (.iload 7, 2) := by decide +kernel
theorem dX3_pooled_54 : decode cX3_pooled 54 = .ok (.invokevirtual 101, 3) := by decide +kernel
theorem dX3_pooled_57 : decode cX3_pooled 57 = .ok (.land, 1) := by decide +kernel
theorem dX3_pooled_58 : decode cX3_pooled 58 = .ok (.lstore 8, 2) := by decide +kernel
theorem dX3_pooled_60 : decode cX3_pooled 60 = .ok (.iinc 10 1, 3) := by decide +kernel
theorem dX3_pooled_63 : decode cX3_pooled 63 = .ok (.goto (-32), 3) := by decide +kernel
theorem dX3_pooled_66 : decode cX3_pooled 66 = .ok (.lload 5, 2) := by decide +kernel
theorem dX3_pooled_68 : decode cX3_pooled 68 = .ok (.lload 8, 2) := by decide +kernel
theorem dX3_pooled_70 : decode cX3_pooled 70 = .ok (.lconst 0, 1) := by decide +kernel
theorem dX3_pooled_71 : decode cX3_pooled 71 = .ok (.lcmp, 1) := by decide +kernel
theorem dX3_pooled_72 : decode cX3_pooled 72 = .ok (.ifCond .ne 10, 3) := by decide +kernel
theorem dX3_pooled_75 : decode cX3_pooled 75 = .ok (.lconst 1, 1) := by decide +kernel
theorem dX3_pooled_76 : decode cX3_pooled 76 = .ok (.iload 7, 2) := by decide +kernel
theorem dX3_pooled_78 : decode cX3_pooled 78 = .ok (.lshl, 1) := by decide +kernel
theorem dX3_pooled_79 : decode cX3_pooled 79 = .ok (.goto 4, 3) := by decide +kernel
theorem dX3_pooled_82 : decode cX3_pooled 82 = .ok (.lconst 0, 1) := by decide +kernel
theorem dX3_pooled_83 : decode cX3_pooled 83 = .ok (.lor, 1) := by decide +kernel
theorem dX3_pooled_84 : decode cX3_pooled 84 = .ok (.lstore 5, 2) := by decide +kernel
theorem dX3_pooled_86 : decode cX3_pooled 86 = .ok (.iinc 7 1, 3) := by decide +kernel
theorem dX3_pooled_89 : decode cX3_pooled 89 = .ok (.goto (-83), 3) := by decide +kernel
theorem dX3_pooled_92 : decode cX3_pooled 92 = .ok (.aload_n 0, 1) := by decide +kernel
theorem dX3_pooled_93 : decode cX3_pooled 93 = .ok (.getfield 32, 3) := by decide +kernel
theorem dX3_pooled_96 : decode cX3_pooled 96 = .ok (.lload 5, 2) := by decide +kernel
theorem dX3_pooled_98 : decode cX3_pooled 98 = .ok (.land, 1) := by decide +kernel
theorem dX3_pooled_99 : decode cX3_pooled 99 = .ok (.lreturn, 1) := by decide +kernel
def f_X3_pooled_60 (F P : Nat) (S : xSt) (rec_6 : Nat → Int32 → Int64 → Nat → Int64 → Int32 → xDt → Option (Int64 × xDt)) (rec_31 : Nat → Int32 → Int64 → Nat → Int64 → Int32 → Int64 → Int32 → xDt → Option (Int64 × xDt)) (v0 : Nat) (v1 : Int32) (v2 : Int64) (v4 : Nat) (v5 : Int64) (v7 : Int32) (v8 : Int64) (v10 : Int32) (D : xDt) : Option (Int64 × xDt) :=
  xlet (v10 + 1) fun v10_1 => rec_31 v0 v1 v2 v4 v5 v7 v8 v10_1 D
set_option maxHeartbeats 4000000 in
theorem t_X3_pooled_60 {F P : Nat} {S : xSt} (hS : xWF S) {rec_6 : Nat → Int32 → Int64 → Nat → Int64 → Int32 → xDt → Option (Int64 × xDt)} (hrec_6 : ∀ {v0 : Nat} {v1 : Int32} {v2 : Int64} {v4 : Nat} {v5 : Int64} {v7 : Int32} {D : xDt} {r : Int64 × xDt}, xK S v0 3 → xK S v4 10 → rec_6 v0 v1 v2 v4 v5 v7 D = some r → yEx md_X3_pooled 1 6 [(0, .ref v0), (1, .int v1), (2, .long v2), (4, .ref v4), (5, .long v5), (7, .int v7)] [] S D (xQl S r)) {rec_31 : Nat → Int32 → Int64 → Nat → Int64 → Int32 → Int64 → Int32 → xDt → Option (Int64 × xDt)} (hrec_31 : ∀ {v0 : Nat} {v1 : Int32} {v2 : Int64} {v4 : Nat} {v5 : Int64} {v7 : Int32} {v8 : Int64} {v10 : Int32} {D : xDt} {r : Int64 × xDt}, xK S v0 3 → xK S v4 10 → rec_31 v0 v1 v2 v4 v5 v7 v8 v10 D = some r → yEx md_X3_pooled 1 31 [(0, .ref v0), (1, .int v1), (2, .long v2), (4, .ref v4), (5, .long v5), (7, .int v7), (8, .long v8), (10, .int v10)] [] S D (xQl S r)) {v0 : Nat} {v1 : Int32} {v2 : Int64} {v4 : Nat} {v5 : Int64} {v7 : Int32} {v8 : Int64} {v10 : Int32} {D : xDt} {r : Int64 × xDt} (k0 : xK S v0 3) (k4 : xK S v4 10) (h : f_X3_pooled_60 F P S rec_6 rec_31 v0 v1 v2 v4 v5 v7 v8 v10 D = some r) : yEx md_X3_pooled 1 60 [(0, .ref v0), (1, .int v1), (2, .long v2), (4, .ref v4), (5, .long v5), (7, .int v7), (8, .long v8), (10, .int v10)] [] S D (xQl S r) := by
  unfold f_X3_pooled_60 at h
  refine xlet_e h (fun v10_1 ev10_1 h => ?_)
  refine y_iinc v10_1 ev10_1 (by decide) [(10, .int v10_1), (0, .ref v0), (1, .int v1), (2, .long v2), (4, .ref v4), (5, .long v5), (7, .int v7), (8, .long v8)] dX3_pooled_60 7 rfl (by show _ < 11; decide) rfl ?_
  refine x_goto 31 dX3_pooled_63 (by decide) ?_
  refine x_lv (lv' := [(0, .ref v0), (1, .int v1), (2, .long v2), (4, .ref v4), (5, .long v5), (7, .int v7), (8, .long v8), (10, .int v10_1)]) [1, 2, 3, 4, 5, 6, 7, 0] rfl ?_
  exact hrec_31 k0 k4 h

def f_X3_pooled_83 (F P : Nat) (S : xSt) (rec_6 : Nat → Int32 → Int64 → Nat → Int64 → Int32 → xDt → Option (Int64 × xDt)) (v0 : Nat) (v1 : Int32) (v2 : Int64) (v4 : Nat) (v7 : Int32) (s0 : Int64) (s1 : Int64) (D : xDt) : Option (Int64 × xDt) :=
  xlet (s1 ||| s0) fun v5_1 => xlet (v7 + 1) fun v7_2 => rec_6 v0 v1 v2 v4 v5_1 v7_2 D
set_option maxHeartbeats 4000000 in
theorem t_X3_pooled_83 {F P : Nat} {S : xSt} (hS : xWF S) {rec_6 : Nat → Int32 → Int64 → Nat → Int64 → Int32 → xDt → Option (Int64 × xDt)} (hrec_6 : ∀ {v0 : Nat} {v1 : Int32} {v2 : Int64} {v4 : Nat} {v5 : Int64} {v7 : Int32} {D : xDt} {r : Int64 × xDt}, xK S v0 3 → xK S v4 10 → rec_6 v0 v1 v2 v4 v5 v7 D = some r → yEx md_X3_pooled 1 6 [(0, .ref v0), (1, .int v1), (2, .long v2), (4, .ref v4), (5, .long v5), (7, .int v7)] [] S D (xQl S r)) {v0 : Nat} {v1 : Int32} {v2 : Int64} {v4 : Nat} {v7 : Int32} {s0 : Int64} {s1 : Int64} {D : xDt} {r : Int64 × xDt} (k0 : xK S v0 3) (k4 : xK S v4 10) (h : f_X3_pooled_83 F P S rec_6 v0 v1 v2 v4 v7 s0 s1 D = some r) : yEx md_X3_pooled 1 83 [(0, .ref v0), (1, .int v1), (2, .long v2), (4, .ref v4), (7, .int v7)] [.long s0, .long s1] S D (xQl S r) := by
  unfold f_X3_pooled_83 at h
  refine x_lor dX3_pooled_83 ?_
  refine xlet_e h (fun v5_1 ev5_1 h => ?_)
  refine y_lstore v5_1 ev5_1 [(5, .long v5_1), (0, .ref v0), (1, .int v1), (2, .long v2), (4, .ref v4), (7, .int v7)] dX3_pooled_84 (by show _ < 11; decide) rfl ?_
  refine xlet_e h (fun v7_2 ev7_2 h => ?_)
  refine y_iinc v7_2 ev7_2 (by decide) [(7, .int v7_2), (5, .long v5_1), (0, .ref v0), (1, .int v1), (2, .long v2), (4, .ref v4)] dX3_pooled_86 5 rfl (by show _ < 11; decide) rfl ?_
  refine x_goto 6 dX3_pooled_89 (by decide) ?_
  refine x_lv (lv' := [(0, .ref v0), (1, .int v1), (2, .long v2), (4, .ref v4), (5, .long v5_1), (7, .int v7_2)]) [2, 3, 4, 5, 1, 0] rfl ?_
  exact hrec_6 k0 k4 h

def f_X3_pooled_31s (F P : Nat) (S : xSt) (rec_6 : Nat → Int32 → Int64 → Nat → Int64 → Int32 → xDt → Option (Int64 × xDt)) (rec_31 : Nat → Int32 → Int64 → Nat → Int64 → Int32 → Int64 → Int32 → xDt → Option (Int64 × xDt)) (v0 : Nat) (v1 : Int32) (v2 : Int64) (v4 : Nat) (v5 : Int64) (v7 : Int32) (v8 : Int64) (v10 : Int32) (D : xDt) : Option (Int64 × xDt) :=
  if 4 ≤ v10 then (if (lg_cmp v8 0) = 0 then (f_X3_pooled_83 F P S rec_6 v0 v1 v2 v4 v7 (jlshl 1 v7) v5 D) else (f_X3_pooled_83 F P S rec_6 v0 v1 v2 v4 v7 0 v5 D)) else ((f_X11_hasAgent F P S v1 v10 D).bind fun q1 => if q1.1 = 0 then (f_X3_pooled_60 F P S rec_6 rec_31 v0 v1 v2 v4 v5 v7 v8 v10 q1.2) else ((f_X10_cell F P S v4 v10 v7 q1.2).bind fun q2 => xlet (v8 &&& q2.1) fun v8_3 => f_X3_pooled_60 F P S rec_6 rec_31 v0 v1 v2 v4 v5 v7 v8_3 v10 q2.2))
def f_X3_pooled_31 (F P : Nat) (S : xSt) (rec_6 : Nat → Int32 → Int64 → Nat → Int64 → Int32 → xDt → Option (Int64 × xDt)) : Nat → Nat → Int32 → Int64 → Nat → Int64 → Int32 → Int64 → Int32 → xDt → Option (Int64 × xDt)
  | 0 => fun _ _ _ _ _ _ _ _ _ => none
  | n + 1 => f_X3_pooled_31s F P S rec_6 (f_X3_pooled_31 F P S rec_6 n)
set_option maxHeartbeats 4000000 in
theorem t_X3_pooled_31s {F P : Nat} {S : xSt} (hS : xWF S) {rec_6 : Nat → Int32 → Int64 → Nat → Int64 → Int32 → xDt → Option (Int64 × xDt)} (hrec_6 : ∀ {v0 : Nat} {v1 : Int32} {v2 : Int64} {v4 : Nat} {v5 : Int64} {v7 : Int32} {D : xDt} {r : Int64 × xDt}, xK S v0 3 → xK S v4 10 → rec_6 v0 v1 v2 v4 v5 v7 D = some r → yEx md_X3_pooled 1 6 [(0, .ref v0), (1, .int v1), (2, .long v2), (4, .ref v4), (5, .long v5), (7, .int v7)] [] S D (xQl S r)) {rec_31 : Nat → Int32 → Int64 → Nat → Int64 → Int32 → Int64 → Int32 → xDt → Option (Int64 × xDt)} (hrec_31 : ∀ {v0 : Nat} {v1 : Int32} {v2 : Int64} {v4 : Nat} {v5 : Int64} {v7 : Int32} {v8 : Int64} {v10 : Int32} {D : xDt} {r : Int64 × xDt}, xK S v0 3 → xK S v4 10 → rec_31 v0 v1 v2 v4 v5 v7 v8 v10 D = some r → yEx md_X3_pooled 1 31 [(0, .ref v0), (1, .int v1), (2, .long v2), (4, .ref v4), (5, .long v5), (7, .int v7), (8, .long v8), (10, .int v10)] [] S D (xQl S r)) {v0 : Nat} {v1 : Int32} {v2 : Int64} {v4 : Nat} {v5 : Int64} {v7 : Int32} {v8 : Int64} {v10 : Int32} {D : xDt} {r : Int64 × xDt} (k0 : xK S v0 3) (k4 : xK S v4 10) (h : f_X3_pooled_31s F P S rec_6 rec_31 v0 v1 v2 v4 v5 v7 v8 v10 D = some r) : yEx md_X3_pooled 1 31 [(0, .ref v0), (1, .int v1), (2, .long v2), (4, .ref v4), (5, .long v5), (7, .int v7), (8, .long v8), (10, .int v10)] [] S D (xQl S r) := by
  unfold f_X3_pooled_31s at h
  refine x_iload dX3_pooled_31 7 rfl ?_
  refine x_iconst 4 dX3_pooled_33 (by decide) ?_
  refine x_icmp_ge 66 dX3_pooled_34 (by decide) (fun c => ?_) (fun c => ?_)
  · rw [if_pos c] at h
    refine x_lload dX3_pooled_66 4 rfl ?_
    refine x_lload dX3_pooled_68 6 rfl ?_
    refine x_lconst 0 dX3_pooled_70 (by decide) ?_
    refine x_lcmp dX3_pooled_71 ?_
    refine x_if_ne 82 dX3_pooled_72 (by decide) (fun c => ?_) (fun c => ?_)
    · rw [if_neg c] at h
      refine x_lconst 0 dX3_pooled_82 (by decide) ?_
      refine x_lv (lv' := [(0, .ref v0), (1, .int v1), (2, .long v2), (4, .ref v4), (7, .int v7)]) [0, 1, 2, 3, 5] rfl ?_
      exact t_X3_pooled_83 hS hrec_6 k0 k4 h
    · rw [if_pos c] at h
      refine x_lconst 1 dX3_pooled_75 (by decide) ?_
      refine x_iload dX3_pooled_76 5 rfl ?_
      refine x_lshl dX3_pooled_78 ?_
      refine x_goto 83 dX3_pooled_79 (by decide) ?_
      refine x_lv (lv' := [(0, .ref v0), (1, .int v1), (2, .long v2), (4, .ref v4), (7, .int v7)]) [0, 1, 2, 3, 5] rfl ?_
      exact t_X3_pooled_83 hS hrec_6 k0 k4 h
  · rw [if_neg c] at h
    refine x_iload_n dX3_pooled_37 1 rfl ?_
    refine x_iload dX3_pooled_38 7 rfl ?_
    refine xbnd_e h (fun q1 e1 h => ?_)
    refine y_callNi (As := [.int v1, .int v10]) (q := q1) cn_RX3_92 dX3_pooled_40 rfl (Nat.le_of_ble_eq_true rfl) (by omega) (S_X11_hasAgent hS e1) ?_
    refine x_if_eq 60 dX3_pooled_43 (by decide) (fun c => ?_) (fun c => ?_)
    · rw [if_pos c] at h
      exact t_X3_pooled_60 hS hrec_6 hrec_31 k0 k4 h
    · rw [if_neg c] at h
      refine x_lload dX3_pooled_46 6 rfl ?_
      refine x_aload dX3_pooled_48 3 rfl ?_
      refine x_iload dX3_pooled_50 7 rfl ?_
      refine x_iload dX3_pooled_52 5 rfl ?_
      refine xbnd_e h (fun q2 e2 h => ?_)
      refine y_callVl (As := [.int v10, .int v7]) (q := q2) cv_RX3_101 dX3_pooled_54 k4 rfl (Nat.le_of_ble_eq_true rfl) (by omega) (S_X10_cell hS k4 e2) ?_
      refine x_land dX3_pooled_57 ?_
      refine xlet_e h (fun v8_3 ev8_3 h => ?_)
      refine y_lstore v8_3 ev8_3 [(8, .long v8_3), (0, .ref v0), (1, .int v1), (2, .long v2), (4, .ref v4), (5, .long v5), (7, .int v7), (10, .int v10)] dX3_pooled_58 (by show _ < 11; decide) rfl ?_
      refine x_lv (lv' := [(0, .ref v0), (1, .int v1), (2, .long v2), (4, .ref v4), (5, .long v5), (7, .int v7), (8, .long v8_3), (10, .int v10)]) [1, 2, 3, 4, 5, 6, 0, 7] rfl ?_
      exact t_X3_pooled_60 hS hrec_6 hrec_31 k0 k4 h
theorem t_X3_pooled_31 {F P : Nat} {S : xSt} (hS : xWF S) {rec_6 : Nat → Int32 → Int64 → Nat → Int64 → Int32 → xDt → Option (Int64 × xDt)} (hrec_6 : ∀ {v0 : Nat} {v1 : Int32} {v2 : Int64} {v4 : Nat} {v5 : Int64} {v7 : Int32} {D : xDt} {r : Int64 × xDt}, xK S v0 3 → xK S v4 10 → rec_6 v0 v1 v2 v4 v5 v7 D = some r → yEx md_X3_pooled 1 6 [(0, .ref v0), (1, .int v1), (2, .long v2), (4, .ref v4), (5, .long v5), (7, .int v7)] [] S D (xQl S r)) : ∀ (n : Nat) {v0 : Nat} {v1 : Int32} {v2 : Int64} {v4 : Nat} {v5 : Int64} {v7 : Int32} {v8 : Int64} {v10 : Int32} {D : xDt} {r : Int64 × xDt}, xK S v0 3 → xK S v4 10 → f_X3_pooled_31 F P S rec_6 n v0 v1 v2 v4 v5 v7 v8 v10 D = some r → yEx md_X3_pooled 1 31 [(0, .ref v0), (1, .int v1), (2, .long v2), (4, .ref v4), (5, .long v5), (7, .int v7), (8, .long v8), (10, .int v10)] [] S D (xQl S r) := by
  intro n
  induction n with
  | zero => intros; rename_i h; cases h
  | succ n ih =>
    intro v0 v1 v2 v4 v5 v7 v8 v10 D r k0 k4 h
    exact t_X3_pooled_31s hS hrec_6 (fun k0 k4 h => ih k0 k4 h) k0 k4 h

def f_X3_pooled_6s (F P : Nat) (S : xSt) (rec_6 : Nat → Int32 → Int64 → Nat → Int64 → Int32 → xDt → Option (Int64 × xDt)) (v0 : Nat) (v1 : Int32) (v2 : Int64) (v4 : Nat) (v5 : Int64) (v7 : Int32) (D : xDt) : Option (Int64 × xDt) :=
  if (D.1 v4 0) ≤ v7 then (some ((D.2 v0 5) &&& v5, D)) else (xlet ((D.2 v0 5) &&& (v2 ^^^ (-1))) fun v8_1 => f_X3_pooled_31 F P S rec_6 F v0 v1 v2 v4 v5 v7 v8_1 0 D)
def f_X3_pooled_6 (F P : Nat) (S : xSt) : Nat → Nat → Int32 → Int64 → Nat → Int64 → Int32 → xDt → Option (Int64 × xDt)
  | 0 => fun _ _ _ _ _ _ _ => none
  | n + 1 => f_X3_pooled_6s F P S (f_X3_pooled_6 F P S n)
set_option maxHeartbeats 4000000 in
theorem t_X3_pooled_6s {F P : Nat} {S : xSt} (hS : xWF S) {rec_6 : Nat → Int32 → Int64 → Nat → Int64 → Int32 → xDt → Option (Int64 × xDt)} (hrec_6 : ∀ {v0 : Nat} {v1 : Int32} {v2 : Int64} {v4 : Nat} {v5 : Int64} {v7 : Int32} {D : xDt} {r : Int64 × xDt}, xK S v0 3 → xK S v4 10 → rec_6 v0 v1 v2 v4 v5 v7 D = some r → yEx md_X3_pooled 1 6 [(0, .ref v0), (1, .int v1), (2, .long v2), (4, .ref v4), (5, .long v5), (7, .int v7)] [] S D (xQl S r)) {v0 : Nat} {v1 : Int32} {v2 : Int64} {v4 : Nat} {v5 : Int64} {v7 : Int32} {D : xDt} {r : Int64 × xDt} (k0 : xK S v0 3) (k4 : xK S v4 10) (h : f_X3_pooled_6s F P S rec_6 v0 v1 v2 v4 v5 v7 D = some r) : yEx md_X3_pooled 1 6 [(0, .ref v0), (1, .int v1), (2, .long v2), (4, .ref v4), (5, .long v5), (7, .int v7)] [] S D (xQl S r) := by
  unfold f_X3_pooled_6s at h
  refine x_iload dX3_pooled_6 5 rfl ?_
  refine x_aload dX3_pooled_8 3 rfl ?_
  refine y_geti fl_RX3_100 dX3_pooled_10 rfl k4 ?_
  refine x_icmp_ge 92 dX3_pooled_13 (by decide) (fun c => ?_) (fun c => ?_)
  · rw [if_pos c] at h
    refine x_aload_n dX3_pooled_92 0 rfl ?_
    refine y_getl fl_RX3_32 dX3_pooled_93 rfl k0 ?_
    refine x_lload dX3_pooled_96 4 rfl ?_
    refine x_land dX3_pooled_98 ?_
    obtain rfl := Option.some.inj h
    exact y_lret rfl dX3_pooled_99
  · rw [if_neg c] at h
    refine x_aload_n dX3_pooled_16 0 rfl ?_
    refine y_getl fl_RX3_32 dX3_pooled_17 rfl k0 ?_
    refine x_lload_n dX3_pooled_20 2 rfl ?_
    refine x_ldc2 (-1) dX3_pooled_21 wd_629 ?_
    refine x_lxor dX3_pooled_24 ?_
    refine x_land dX3_pooled_25 ?_
    refine xlet_e h (fun v8_1 ev8_1 h => ?_)
    refine y_lstore v8_1 ev8_1 [(8, .long v8_1), (0, .ref v0), (1, .int v1), (2, .long v2), (4, .ref v4), (5, .long v5), (7, .int v7)] dX3_pooled_26 (by show _ < 11; decide) rfl ?_
    refine x_iconst 0 dX3_pooled_28 (by decide) ?_
    refine y_istore 0 rfl [(10, .int 0), (8, .long v8_1), (0, .ref v0), (1, .int v1), (2, .long v2), (4, .ref v4), (5, .long v5), (7, .int v7)] dX3_pooled_29 (by show _ < 11; decide) rfl ?_
    refine x_lv (lv' := [(0, .ref v0), (1, .int v1), (2, .long v2), (4, .ref v4), (5, .long v5), (7, .int v7), (8, .long v8_1), (10, .int 0)]) [2, 3, 4, 5, 6, 7, 1, 0] rfl ?_
    exact t_X3_pooled_31 hS hrec_6 F k0 k4 h
theorem t_X3_pooled_6 {F P : Nat} {S : xSt} (hS : xWF S) : ∀ (n : Nat) {v0 : Nat} {v1 : Int32} {v2 : Int64} {v4 : Nat} {v5 : Int64} {v7 : Int32} {D : xDt} {r : Int64 × xDt}, xK S v0 3 → xK S v4 10 → f_X3_pooled_6 F P S n v0 v1 v2 v4 v5 v7 D = some r → yEx md_X3_pooled 1 6 [(0, .ref v0), (1, .int v1), (2, .long v2), (4, .ref v4), (5, .long v5), (7, .int v7)] [] S D (xQl S r) := by
  intro n
  induction n with
  | zero => intros; rename_i h; cases h
  | succ n ih =>
    intro v0 v1 v2 v4 v5 v7 D r k0 k4 h
    exact t_X3_pooled_6s hS (fun k0 k4 h => ih k0 k4 h) k0 k4 h

def f_X3_pooled (F P : Nat) (S : xSt) (v0 : Nat) (v1 : Int32) (v2 : Int64) (v4 : Nat) (D : xDt) : Option (Int64 × xDt) :=
  f_X3_pooled_6 F P S F v0 v1 v2 v4 0 0 D
set_option maxHeartbeats 4000000 in
theorem S_X3_pooled {F P : Nat} {S : xSt} (hS : xWF S) {v0 : Nat} {v1 : Int32} {v2 : Int64} {v4 : Nat} {D : xDt} {r : Int64 × xDt} (k0 : xK S v0 3) (k4 : xK S v4 10) (h : f_X3_pooled F P S v0 v1 v2 v4 D = some r) : xSp md_X3_pooled (1, 0, 0) [.ref v0, .int v1, .long v2, .ref v4] (S, D) (xQl S r) := by
  unfold f_X3_pooled at h
  refine xEntry (by decide) (Nat.le_of_ble_eq_true rfl) ?_
  refine x_lv (lv' := [(0, .ref v0), (1, .int v1), (2, .long v2), (4, .ref v4)]) [0, 1, 2, 3] rfl ?_
  refine x_lconst 0 dX3_pooled_0 (by decide) ?_
  refine y_lstore 0 rfl [(5, .long 0), (0, .ref v0), (1, .int v1), (2, .long v2), (4, .ref v4)] dX3_pooled_1 (by show _ < 11; decide) rfl ?_
  refine x_iconst 0 dX3_pooled_3 (by decide) ?_
  refine y_istore 0 rfl [(7, .int 0), (5, .long 0), (0, .ref v0), (1, .int v1), (2, .long v2), (4, .ref v4)] dX3_pooled_4 (by show _ < 11; decide) rfl ?_
  refine x_lv (lv' := [(0, .ref v0), (1, .int v1), (2, .long v2), (4, .ref v4), (5, .long 0), (7, .int 0)]) [2, 3, 4, 5, 1, 0] rfl ?_
  exact t_X3_pooled_6 hS F k0 k4 h

theorem dX3_single_0 : decode cX3_single 0 = .ok (.iload_n 1, 1) := by decide +kernel
theorem dX3_single_1 : decode cX3_single 1 = .ok (.invokestatic 48, 3) := by decide +kernel
theorem dX3_single_4 : decode cX3_single 4 = .ok (.lookupswitch 100 #[(67, 82), (68, 91), (80, 55), (126, 44)], 44) := by decide +kernel
theorem dX3_single_48 : decode cX3_single 48 = .ok (.aload_n 0, 1) := by decide +kernel
theorem dX3_single_49 : decode cX3_single 49 = .ok (.getfield 32, 3) := by decide +kernel
theorem dX3_single_52 : decode cX3_single 52 = .ok (.lload_n 2, 1) := by decide +kernel
theorem dX3_single_53 : decode cX3_single 53 = .ok (.ldc2_w 81, 3) := by decide +kernel
theorem dX3_single_56 : decode cX3_single 56 = .ok (.lxor, 1) := by decide +kernel
theorem dX3_single_57 : decode cX3_single 57 = .ok (.land, 1) := by decide +kernel
theorem dX3_single_58 : decode cX3_single 58 = .ok (.lreturn, 1) := by decide +kernel
theorem dX3_single_59 : decode cX3_single 59 = .ok (.aload_n 0, 1) := by decide +kernel
theorem dX3_single_60 : decode cX3_single 60 = .ok (.getfield 32, 3) := by decide +kernel
theorem dX3_single_63 : decode cX3_single 63 = .ok (.aload_n 0, 1) := by decide +kernel
theorem dX3_single_64 : decode cX3_single 64 = .ok (.iload_n 1, 1) := by decide +kernel
theorem dX3_single_65 : decode cX3_single 65 = .ok (.aload_n 0, 1) := by decide +kernel
theorem dX3_single_66 : decode cX3_single 66 = .ok (.getfield 32, 3) := by decide +kernel
theorem dX3_single_69 : decode cX3_single 69 = .ok (.lload_n 2, 1) := by decide +kernel
theorem dX3_single_70 : decode cX3_single 70 = .ok (.ldc2_w 81, 3) := by decide +kernel
theorem dX3_single_73 : decode cX3_single 73 = .ok (.lxor, 1) := by decide +kernel
theorem dX3_single_74 : decode cX3_single 74 = .ok (.land, 1) := by decide +kernel
theorem dX3_single_75 : decode cX3_single 75 = .ok (.aload 4, 2) := by decide +kernel
theorem dX3_single_77 : decode cX3_single 77 = .ok (.invokevirtual 83, 3) := by decide +kernel
theorem dX3_single_80 : decode cX3_single 80 = .ok (.ldc2_w 81, 3) := by decide +kernel
theorem dX3_single_83 : decode cX3_single 83 = .ok (.lxor, 1) := by decide +kernel
theorem dX3_single_84 : decode cX3_single 84 = .ok (.land, 1) := by decide +kernel
theorem dX3_single_85 : decode cX3_single 85 = .ok (.lreturn, 1) := by decide +kernel
theorem dX3_single_86 : decode cX3_single 86 = .ok (.aload_n 0, 1) := by decide +kernel
theorem dX3_single_87 : decode cX3_single 87 = .ok (.iload_n 1, 1) := by decide +kernel
theorem dX3_single_88 : decode cX3_single 88 = .ok (.lload_n 2, 1) := by decide +kernel
theorem dX3_single_89 : decode cX3_single 89 = .ok (.aload 4, 2) := by decide +kernel
theorem dX3_single_91 : decode cX3_single 91 = .ok (.invokevirtual 86, 3) := by decide +kernel
theorem dX3_single_94 : decode cX3_single 94 = .ok (.lreturn, 1) := by decide +kernel
theorem dX3_single_95 : decode cX3_single 95 = .ok (.aload_n 0, 1) := by decide +kernel
theorem dX3_single_96 : decode cX3_single 96 = .ok (.iload_n 1, 1) := by decide +kernel
theorem dX3_single_97 : decode cX3_single 97 = .ok (.lload_n 2, 1) := by decide +kernel
theorem dX3_single_98 : decode cX3_single 98 = .ok (.aload 4, 2) := by decide +kernel
theorem dX3_single_100 : decode cX3_single 100 = .ok (.invokevirtual 89, 3) := by decide +kernel
theorem dX3_single_103 : decode cX3_single 103 = .ok (.lreturn, 1) := by decide +kernel
theorem dX3_single_104 : decode cX3_single 104 = .ok (.aload_n 0, 1) := by decide +kernel
theorem dX3_single_105 : decode cX3_single 105 = .ok (.iload_n 1, 1) := by decide +kernel
theorem dX3_single_106 : decode cX3_single 106 = .ok (.lload_n 2, 1) := by decide +kernel
theorem dX3_single_107 : decode cX3_single 107 = .ok (.aload 4, 2) := by decide +kernel
theorem dX3_single_109 : decode cX3_single 109 = .ok (.invokevirtual 83, 3) := by decide +kernel
theorem dX3_single_112 : decode cX3_single 112 = .ok (.lreturn, 1) := by decide +kernel
def f_X3_single (F P : Nat) (S : xSt) (v0 : Nat) (v1 : Int32) (v2 : Int64) (v4 : Nat) (D : xDt) : Option (Int64 × xDt) :=
  (f_X11_signOf F P S v1 D).bind fun q1 => if q1.1 = 67 then ((f_X3_common F P S v0 v1 v2 v4 q1.2).bind fun q2 => some (q2.1, q2.2)) else (if q1.1 = 68 then ((f_X3_pooled F P S v0 v1 v2 v4 q1.2).bind fun q3 => some (q3.1, q3.2)) else (if q1.1 = 80 then ((f_X3_known F P S v0 v1 ((q1.2.2 v0 5) &&& (v2 ^^^ (-1))) v4 q1.2).bind fun q4 => some ((q1.2.2 v0 5) &&& (q4.1 ^^^ (-1)), q4.2)) else (if q1.1 = 126 then (some ((q1.2.2 v0 5) &&& (v2 ^^^ (-1)), q1.2)) else ((f_X3_known F P S v0 v1 v2 v4 q1.2).bind fun q5 => some (q5.1, q5.2)))))
set_option maxHeartbeats 4000000 in
theorem S_X3_single {F P : Nat} {S : xSt} (hS : xWF S) {v0 : Nat} {v1 : Int32} {v2 : Int64} {v4 : Nat} {D : xDt} {r : Int64 × xDt} (k0 : xK S v0 3) (k4 : xK S v4 10) (h : f_X3_single F P S v0 v1 v2 v4 D = some r) : xSp md_X3_single (2, 0, 0) [.ref v0, .int v1, .long v2, .ref v4] (S, D) (xQl S r) := by
  unfold f_X3_single at h
  refine xEntry (by decide) (Nat.le_of_ble_eq_true rfl) ?_
  refine x_lv (lv' := [(0, .ref v0), (1, .int v1), (2, .long v2), (4, .ref v4)]) [0, 1, 2, 3] rfl ?_
  refine x_iload_n dX3_single_0 1 rfl ?_
  refine xbnd_e h (fun q1 e1 h => ?_)
  refine y_callNi (As := [.int v1]) (q := q1) cn_RX3_48 dX3_single_1 rfl (Nat.le_of_ble_eq_true rfl) (by omega) (S_X11_signOf hS e1) ?_
  by_cases c0 : q1.1 = 67
  · rw [if_pos c0] at h
    refine x_ls 86 dX3_single_4 (by decide) (by rw [c0]) (by decide) ?_
    refine x_aload_n dX3_single_86 0 rfl ?_
    refine x_iload_n dX3_single_87 1 rfl ?_
    refine x_lload_n dX3_single_88 2 rfl ?_
    refine x_aload dX3_single_89 3 rfl ?_
    refine xbnd_e h (fun q2 e2 h => ?_)
    refine y_callVl (As := [.int v1, .long v2, .ref v4]) (q := q2) cv_RX3_86 dX3_single_91 k0 rfl (Nat.le_of_ble_eq_true rfl) (by omega) (S_X3_common hS k0 k4 e2) ?_
    obtain rfl := Option.some.inj h
    exact y_lret rfl dX3_single_94
  · rw [if_neg c0] at h
    by_cases c1 : q1.1 = 68
    · rw [if_pos c1] at h
      refine x_ls 95 dX3_single_4 (by decide) (by rw [c1]) (by decide) ?_
      refine x_aload_n dX3_single_95 0 rfl ?_
      refine x_iload_n dX3_single_96 1 rfl ?_
      refine x_lload_n dX3_single_97 2 rfl ?_
      refine x_aload dX3_single_98 3 rfl ?_
      refine xbnd_e h (fun q3 e3 h => ?_)
      refine y_callVl (As := [.int v1, .long v2, .ref v4]) (q := q3) cv_RX3_89 dX3_single_100 k0 rfl (Nat.le_of_ble_eq_true rfl) (by omega) (S_X3_pooled hS k0 k4 e3) ?_
      obtain rfl := Option.some.inj h
      exact y_lret rfl dX3_single_103
    · rw [if_neg c1] at h
      by_cases c2 : q1.1 = 80
      · rw [if_pos c2] at h
        refine x_ls 59 dX3_single_4 (by decide) (by rw [c2]) (by decide) ?_
        refine x_aload_n dX3_single_59 0 rfl ?_
        refine y_getl fl_RX3_32 dX3_single_60 rfl k0 ?_
        refine x_aload_n dX3_single_63 0 rfl ?_
        refine x_iload_n dX3_single_64 1 rfl ?_
        refine x_aload_n dX3_single_65 0 rfl ?_
        refine y_getl fl_RX3_32 dX3_single_66 rfl k0 ?_
        refine x_lload_n dX3_single_69 2 rfl ?_
        refine x_ldc2 (-1) dX3_single_70 wd_629 ?_
        refine x_lxor dX3_single_73 ?_
        refine x_land dX3_single_74 ?_
        refine x_aload dX3_single_75 3 rfl ?_
        refine xbnd_e h (fun q4 e4 h => ?_)
        refine y_callVl (As := [.int v1, .long ((q1.2.2 v0 5) &&& (v2 ^^^ (-1))), .ref v4]) (q := q4) cv_RX3_83 dX3_single_77 k0 rfl (Nat.le_of_ble_eq_true rfl) (by omega) (S_X3_known hS k0 k4 e4) ?_
        refine x_ldc2 (-1) dX3_single_80 wd_629 ?_
        refine x_lxor dX3_single_83 ?_
        refine x_land dX3_single_84 ?_
        obtain rfl := Option.some.inj h
        exact y_lret rfl dX3_single_85
      · rw [if_neg c2] at h
        by_cases c3 : q1.1 = 126
        · rw [if_pos c3] at h
          refine x_ls 48 dX3_single_4 (by decide) (by rw [c3]) (by decide) ?_
          refine x_aload_n dX3_single_48 0 rfl ?_
          refine y_getl fl_RX3_32 dX3_single_49 rfl k0 ?_
          refine x_lload_n dX3_single_52 2 rfl ?_
          refine x_ldc2 (-1) dX3_single_53 wd_629 ?_
          refine x_lxor dX3_single_56 ?_
          refine x_land dX3_single_57 ?_
          obtain rfl := Option.some.inj h
          exact y_lret rfl dX3_single_58
        · rw [if_neg c3] at h
          refine x_ls (off := 100) 104 dX3_single_4 (by decide) ((lv_osw c0 (by decide)).trans ((lv_osw c1 (by decide)).trans ((lv_osw c2 (by decide)).trans ((lv_osw c3 (by decide)).trans rfl)))) (by decide) ?_
          refine x_aload_n dX3_single_104 0 rfl ?_
          refine x_iload_n dX3_single_105 1 rfl ?_
          refine x_lload_n dX3_single_106 2 rfl ?_
          refine x_aload dX3_single_107 3 rfl ?_
          refine xbnd_e h (fun q5 e5 h => ?_)
          refine y_callVl (As := [.int v1, .long v2, .ref v4]) (q := q5) cv_RX3_83 dX3_single_109 k0 rfl (Nat.le_of_ble_eq_true rfl) (by omega) (S_X3_known hS k0 k4 e5) ?_
          obtain rfl := Option.some.inj h
          exact y_lret rfl dX3_single_112

theorem dX3_finish_0 : decode cX3_finish 0 = .ok (.lload_n 1, 1) := by decide +kernel
theorem dX3_finish_1 : decode cX3_finish 1 = .ok (.lstore 4, 2) := by decide +kernel
theorem dX3_finish_3 : decode cX3_finish 3 = .ok (.aload_n 0, 1) := by decide +kernel
theorem dX3_finish_4 : decode cX3_finish 4 = .ok (.getfield 36, 3) := by decide +kernel
theorem dX3_finish_7 : decode cX3_finish 7 = .ok (.iconst 1, 1) := by decide +kernel
theorem dX3_finish_8 : decode cX3_finish 8 = .ok (.isub, 1) := by decide +kernel
theorem dX3_finish_9 : decode cX3_finish 9 = .ok (.istore 6, 2) := by decide +kernel
theorem dX3_finish_11 : decode cX3_finish 11 = .ok (.iload 6, 2) := by decide +kernel
theorem dX3_finish_13 : decode cX3_finish 13 = .ok (.ifCond .lt 154, 3) := by decide +kernel
theorem dX3_finish_16 : decode cX3_finish 16 = .ok (.aload_n 0, 1) := by decide +kernel
theorem dX3_finish_17 : decode cX3_finish 17 = .ok (.getfield 9, 3) := by decide +kernel
theorem dX3_finish_20 : decode cX3_finish 20 = .ok (.iload 6, 2) := by decide +kernel
theorem dX3_finish_22 : decode cX3_finish 22 = .ok (.iaload, 1) := by decide +kernel
theorem dX3_finish_23 : decode cX3_finish 23 = .ok (.invokestatic 48, 3) := by decide +kernel
theorem dX3_finish_26 : decode cX3_finish 26 = .ok (.istore 7, 2) := by decide +kernel
theorem dX3_finish_28 : decode cX3_finish 28 = .ok (.iload 7, 2) := by decide +kernel
theorem dX3_finish_30 : decode cX3_finish 30 = .ok (.invokestatic 67, 3) := by decide +kernel
theorem dX3_finish_33 : decode cX3_finish 33 = .ok (.ifCond .eq 73, 3) := by decide +kernel
theorem dX3_finish_36 : decode cX3_finish 36 = .ok (.aload_n 0, 1) := by decide +kernel
theorem dX3_finish_37 : decode cX3_finish 37 = .ok (.getfield 15, 3) := by decide +kernel
theorem dX3_finish_40 : decode cX3_finish 40 = .ok (.iload 6, 2) := by decide +kernel
theorem dX3_finish_42 : decode cX3_finish 42 = .ok (.baload, 1) := by decide +kernel
theorem dX3_finish_43 : decode cX3_finish 43 = .ok (.ifCond .ne 63, 3) := by decide +kernel
theorem dX3_finish_46 : decode cX3_finish 46 = .ok (.aload_n 0, 1) := by decide +kernel
theorem dX3_finish_47 : decode cX3_finish 47 = .ok (.getfield 15, 3) := by decide +kernel
theorem dX3_finish_50 : decode cX3_finish 50 = .ok (.iload 6, 2) := by decide +kernel
theorem dX3_finish_52 : decode cX3_finish 52 = .ok (.iconst 1, 1) := by decide +kernel
theorem dX3_finish_53 : decode cX3_finish 53 = .ok (.bastore, 1) := by decide +kernel
theorem dX3_finish_54 : decode cX3_finish 54 = .ok (.aload_n 0, 1) := by decide +kernel
theorem dX3_finish_55 : decode cX3_finish 55 = .ok (.getfield 19, 3) := by decide +kernel
theorem dX3_finish_58 : decode cX3_finish 58 = .ok (.iload 6, 2) := by decide +kernel
theorem dX3_finish_60 : decode cX3_finish 60 = .ok (.lload 4, 2) := by decide +kernel
theorem dX3_finish_62 : decode cX3_finish 62 = .ok (.lastore, 1) := by decide +kernel
theorem dX3_finish_63 : decode cX3_finish 63 = .ok (.aload_n 0, 1) := by decide +kernel
theorem dX3_finish_64 : decode cX3_finish 64 = .ok (.getfield 23, 3) := by decide +kernel
theorem dX3_finish_67 : decode cX3_finish 67 = .ok (.iload 6, 2) := by decide +kernel
theorem dX3_finish_69 : decode cX3_finish 69 = .ok (.aload_n 0, 1) := by decide +kernel
theorem dX3_finish_70 : decode cX3_finish 70 = .ok (.getfield 32, 3) := by decide +kernel
theorem dX3_finish_73 : decode cX3_finish 73 = .ok (.lastore, 1) := by decide +kernel
theorem dX3_finish_74 : decode cX3_finish 74 = .ok (.aload_n 0, 1) := by decide +kernel
theorem dX3_finish_75 : decode cX3_finish 75 = .ok (.iload 7, 2) := by decide +kernel
theorem dX3_finish_77 : decode cX3_finish 77 = .ok (.invokestatic 70, 3) := by decide +kernel
theorem dX3_finish_80 : decode cX3_finish 80 = .ok (.ifCond .eq 8, 3) := by decide +kernel
theorem dX3_finish_83 : decode cX3_finish 83 = .ok (.lload 4, 2) := by decide +kernel
theorem dX3_finish_85 : decode cX3_finish 85 = .ok (.goto 7, 3) := by decide +kernel
theorem dX3_finish_88 : decode cX3_finish 88 = .ok (.aload_n 0, 1) := by decide +kernel
theorem dX3_finish_89 : decode cX3_finish 89 = .ok (.getfield 32, 3) := by decide +kernel
theorem dX3_finish_92 : decode cX3_finish 92 = .ok (.putfield 32, 3) := by decide +kernel
theorem dX3_finish_95 : decode cX3_finish 95 = .ok (.aload_n 0, 1) := by decide +kernel
theorem dX3_finish_96 : decode cX3_finish 96 = .ok (.iload 6, 2) := by decide +kernel
theorem dX3_finish_98 : decode cX3_finish 98 = .ok (.iconst 1, 1) := by decide +kernel
theorem dX3_finish_99 : decode cX3_finish 99 = .ok (.iadd, 1) := by decide +kernel
theorem dX3_finish_100 : decode cX3_finish 100 = .ok (.putfield 36, 3) := by decide +kernel
theorem dX3_finish_103 : decode cX3_finish 103 = .ok (.lload 4, 2) := by decide +kernel
theorem dX3_finish_105 : decode cX3_finish 105 = .ok (.lreturn, 1) := by decide +kernel
theorem dX3_finish_106 : decode cX3_finish 106 = .ok (.iload 7, 2) := by decide +kernel
theorem dX3_finish_108 : decode cX3_finish 108 = .ok (.invokestatic 67, 3) := by decide +kernel
theorem dX3_finish_111 : decode cX3_finish 111 = .ok (.ifCond .eq 34, 3) := by decide +kernel
theorem dX3_finish_114 : decode cX3_finish 114 = .ok (.aload_n 0, 1) := by decide +kernel
theorem dX3_finish_115 : decode cX3_finish 115 = .ok (.aload_n 0, 1) := by decide +kernel
theorem dX3_finish_116 : decode cX3_finish 116 = .ok (.getfield 23, 3) := by decide +kernel
theorem dX3_finish_119 : decode cX3_finish 119 = .ok (.iload 6, 2) := by decide +kernel
theorem dX3_finish_121 : decode cX3_finish 121 = .ok (.laload, 1) := by decide +kernel
theorem dX3_finish_122 : decode cX3_finish 122 = .ok (.putfield 32, 3) := by decide +kernel
theorem dX3_finish_125 : decode cX3_finish 125 = .ok (.aload_n 0, 1) := by decide +kernel
theorem dX3_finish_126 : decode cX3_finish 126 = .ok (.iload 7, 2) := by decide +kernel
theorem dX3_finish_128 : decode cX3_finish 128 = .ok (.aload_n 0, 1) := by decide +kernel
theorem dX3_finish_129 : decode cX3_finish 129 = .ok (.getfield 19, 3) := by decide +kernel
theorem dX3_finish_132 : decode cX3_finish 132 = .ok (.iload 6, 2) := by decide +kernel
theorem dX3_finish_134 : decode cX3_finish 134 = .ok (.laload, 1) := by decide +kernel
theorem dX3_finish_135 : decode cX3_finish 135 = .ok (.lload 4, 2) := by decide +kernel
theorem dX3_finish_137 : decode cX3_finish 137 = .ok (.invokevirtual 73, 3) := by decide +kernel
theorem dX3_finish_140 : decode cX3_finish 140 = .ok (.lstore 4, 2) := by decide +kernel
theorem dX3_finish_142 : decode cX3_finish 142 = .ok (.goto 19, 3) := by decide +kernel
theorem dX3_finish_145 : decode cX3_finish 145 = .ok (.aload_n 0, 1) := by decide +kernel
theorem dX3_finish_146 : decode cX3_finish 146 = .ok (.aload_n 0, 1) := by decide +kernel
theorem dX3_finish_147 : decode cX3_finish 147 = .ok (.getfield 9, 3) := by decide +kernel
theorem dX3_finish_150 : decode cX3_finish 150 = .ok (.iload 6, 2) := by decide +kernel
theorem dX3_finish_152 : decode cX3_finish 152 = .ok (.iaload, 1) := by decide +kernel
theorem dX3_finish_153 : decode cX3_finish 153 = .ok (.lload 4, 2) := by decide +kernel
theorem dX3_finish_155 : decode cX3_finish 155 = .ok (.aload_n 3, 1) := by decide +kernel
theorem dX3_finish_156 : decode cX3_finish 156 = .ok (.invokevirtual 77, 3) := by decide +kernel
theorem dX3_finish_159 : decode cX3_finish 159 = .ok (.lstore 4, 2) := by decide +kernel
theorem dX3_finish_161 : decode cX3_finish 161 = .ok (.iinc 6 (-1), 3) := by decide +kernel
theorem dX3_finish_164 : decode cX3_finish 164 = .ok (.goto (-153), 3) := by decide +kernel
theorem dX3_finish_167 : decode cX3_finish 167 = .ok (.aload_n 0, 1) := by decide +kernel
theorem dX3_finish_168 : decode cX3_finish 168 = .ok (.iconst 0, 1) := by decide +kernel
theorem dX3_finish_169 : decode cX3_finish 169 = .ok (.putfield 36, 3) := by decide +kernel
theorem dX3_finish_172 : decode cX3_finish 172 = .ok (.lload 4, 2) := by decide +kernel
theorem dX3_finish_174 : decode cX3_finish 174 = .ok (.lreturn, 1) := by decide +kernel
def f_X3_finish_92 (F P : Nat) (S : xSt) (v0 : Nat) (v4 : Int64) (v6 : Int32) (s0 : Int64) (s1 : Nat) (D : xDt) : Option (Int64 × xDt) :=
  xlet (D.1, xup D.2 s1 5 s0) fun D1 => xlet (xup D1.1 v0 4 (v6 + 1), D1.2) fun D2 => some (v4, D2)
set_option maxHeartbeats 4000000 in
theorem t_X3_finish_92 {F P : Nat} {S : xSt} (hS : xWF S) {v0 : Nat} {v4 : Int64} {v6 : Int32} {s0 : Int64} {s1 : Nat} {D : xDt} {r : Int64 × xDt} (k0 : xK S v0 3) (ks1 : xK S s1 3) (h : f_X3_finish_92 F P S v0 v4 v6 s0 s1 D = some r) : yEx md_X3_finish 3 92 [(0, .ref v0), (4, .long v4), (6, .int v6)] [.long s0, .ref s1] S D (xQl S r) := by
  unfold f_X3_finish_92 at h
  refine xlet_e h (fun D1 eD1 h => ?_)
  refine y_putl fp_RX3_32 dX3_finish_92 rfl ks1 eD1 ?_
  refine x_aload_n dX3_finish_95 0 rfl ?_
  refine x_iload dX3_finish_96 2 rfl ?_
  refine x_iconst 1 dX3_finish_98 (by decide) ?_
  refine x_iadd dX3_finish_99 ?_
  refine xlet_e h (fun D2 eD2 h => ?_)
  refine y_puti fp_RX3_36 dX3_finish_100 rfl k0 eD2 ?_
  refine x_lload dX3_finish_103 1 rfl ?_
  obtain rfl := Option.some.inj h
  exact y_lret rfl dX3_finish_105

def f_X3_finish_161 (F P : Nat) (S : xSt) (rec_11 : Nat → Nat → Int64 → Int32 → xDt → Option (Int64 × xDt)) (v0 : Nat) (v3 : Nat) (v4 : Int64) (v6 : Int32) (D : xDt) : Option (Int64 × xDt) :=
  xlet (v6 + (-1)) fun v6_1 => rec_11 v0 v3 v4 v6_1 D
set_option maxHeartbeats 4000000 in
theorem t_X3_finish_161 {F P : Nat} {S : xSt} (hS : xWF S) {rec_11 : Nat → Nat → Int64 → Int32 → xDt → Option (Int64 × xDt)} (hrec_11 : ∀ {v0 : Nat} {v3 : Nat} {v4 : Int64} {v6 : Int32} {D : xDt} {r : Int64 × xDt}, xK S v0 3 → xK S v3 10 → rec_11 v0 v3 v4 v6 D = some r → yEx md_X3_finish 3 11 [(0, .ref v0), (3, .ref v3), (4, .long v4), (6, .int v6)] [] S D (xQl S r)) {v0 : Nat} {v3 : Nat} {v4 : Int64} {v6 : Int32} {D : xDt} {r : Int64 × xDt} (k0 : xK S v0 3) (k3 : xK S v3 10) (h : f_X3_finish_161 F P S rec_11 v0 v3 v4 v6 D = some r) : yEx md_X3_finish 3 161 [(0, .ref v0), (3, .ref v3), (4, .long v4), (6, .int v6)] [] S D (xQl S r) := by
  unfold f_X3_finish_161 at h
  refine xlet_e h (fun v6_1 ev6_1 h => ?_)
  refine y_iinc v6_1 ev6_1 (by decide) [(6, .int v6_1), (0, .ref v0), (3, .ref v3), (4, .long v4)] dX3_finish_161 3 rfl (by show _ < 8; decide) rfl ?_
  refine x_goto 11 dX3_finish_164 (by decide) ?_
  refine x_lv (lv' := [(0, .ref v0), (3, .ref v3), (4, .long v4), (6, .int v6_1)]) [1, 2, 3, 0] rfl ?_
  exact hrec_11 k0 k3 h

def f_X3_finish_106 (F P : Nat) (S : xSt) (rec_11 : Nat → Nat → Int64 → Int32 → xDt → Option (Int64 × xDt)) (v0 : Nat) (v3 : Nat) (v4 : Int64) (v6 : Int32) (v7 : Int32) (D : xDt) : Option (Int64 × xDt) :=
  (f_X11_hasTwoParts F P S v7 D).bind fun q1 => if q1.1 = 0 then (xgrd (xin v6 (xl S (xr S v0 0))) ((f_X3_single F P S v0 (q1.2.1 (xr S v0 0) (v6).toNatClampNeg) v4 v3 q1.2).bind fun q3 => f_X3_finish_161 F P S rec_11 v0 v3 q3.1 v6 q3.2)) else (xgrd (xin v6 (xl S (xr S v0 3))) (xlet (q1.2.1, xup q1.2.2 v0 5 (q1.2.2 (xr S v0 3) (v6).toNatClampNeg)) fun D5 => xgrd (xin v6 (xl S (xr S v0 2))) ((f_X3_joined F P S v0 v7 (D5.2 (xr S v0 2) (v6).toNatClampNeg) v4 D5).bind fun q7 => f_X3_finish_161 F P S rec_11 v0 v3 q7.1 v6 q7.2)))
set_option maxHeartbeats 4000000 in
theorem t_X3_finish_106 {F P : Nat} {S : xSt} (hS : xWF S) {rec_11 : Nat → Nat → Int64 → Int32 → xDt → Option (Int64 × xDt)} (hrec_11 : ∀ {v0 : Nat} {v3 : Nat} {v4 : Int64} {v6 : Int32} {D : xDt} {r : Int64 × xDt}, xK S v0 3 → xK S v3 10 → rec_11 v0 v3 v4 v6 D = some r → yEx md_X3_finish 3 11 [(0, .ref v0), (3, .ref v3), (4, .long v4), (6, .int v6)] [] S D (xQl S r)) {v0 : Nat} {v3 : Nat} {v4 : Int64} {v6 : Int32} {v7 : Int32} {D : xDt} {r : Int64 × xDt} (k0 : xK S v0 3) (k3 : xK S v3 10) (h : f_X3_finish_106 F P S rec_11 v0 v3 v4 v6 v7 D = some r) : yEx md_X3_finish 3 106 [(0, .ref v0), (3, .ref v3), (4, .long v4), (6, .int v6), (7, .int v7)] [] S D (xQl S r) := by
  unfold f_X3_finish_106 at h
  refine x_iload dX3_finish_106 4 rfl ?_
  refine xbnd_e h (fun q1 e1 h => ?_)
  refine y_callNi (As := [.int v7]) (q := q1) cn_RX3_67 dX3_finish_108 rfl (Nat.le_of_ble_eq_true rfl) (by omega) (S_X11_hasTwoParts hS e1) ?_
  refine x_if_eq 145 dX3_finish_111 (by decide) (fun c => ?_) (fun c => ?_)
  · rw [if_pos c] at h
    refine x_aload_n dX3_finish_145 0 rfl ?_
    refine x_aload_n dX3_finish_146 0 rfl ?_
    refine y_getr (kd := 100) hS fl_RX3_9 dX3_finish_147 rfl k0 ?_
    refine x_iload dX3_finish_150 3 rfl ?_
    refine xgrd_e h (fun g2 h => ?_)
    refine y_iald dX3_finish_152 ((hS.f k0 0 100 rfl).2) g2 ?_
    refine x_lload dX3_finish_153 2 rfl ?_
    refine x_aload_n dX3_finish_155 1 rfl ?_
    refine xbnd_e h (fun q3 e3 h => ?_)
    refine y_callVl (As := [.int (q1.2.1 (xr S v0 0) (v6).toNatClampNeg), .long v4, .ref v3]) (q := q3) cv_RX3_77 dX3_finish_156 k0 rfl (Nat.le_of_ble_eq_true rfl) (by omega) (S_X3_single hS k0 k3 e3) ?_
    refine y_lstore q3.1 rfl [(4, .long q3.1), (0, .ref v0), (3, .ref v3), (6, .int v6), (7, .int v7)] dX3_finish_159 (by show _ < 8; decide) rfl ?_
    refine x_lv (lv' := [(0, .ref v0), (3, .ref v3), (4, .long q3.1), (6, .int v6)]) [1, 2, 0, 3] rfl ?_
    exact t_X3_finish_161 hS hrec_11 k0 k3 h
  · rw [if_neg c] at h
    refine x_aload_n dX3_finish_114 0 rfl ?_
    refine x_aload_n dX3_finish_115 0 rfl ?_
    refine y_getr (kd := 101) hS fl_RX3_23 dX3_finish_116 rfl k0 ?_
    refine x_iload dX3_finish_119 3 rfl ?_
    refine xgrd_e h (fun g4 h => ?_)
    refine y_lald dX3_finish_121 ((hS.f k0 3 101 rfl).2) g4 ?_
    refine xlet_e h (fun D5 eD5 h => ?_)
    refine y_putl fp_RX3_32 dX3_finish_122 rfl k0 eD5 ?_
    refine x_aload_n dX3_finish_125 0 rfl ?_
    refine x_iload dX3_finish_126 4 rfl ?_
    refine x_aload_n dX3_finish_128 0 rfl ?_
    refine y_getr (kd := 101) hS fl_RX3_19 dX3_finish_129 rfl k0 ?_
    refine x_iload dX3_finish_132 3 rfl ?_
    refine xgrd_e h (fun g6 h => ?_)
    refine y_lald dX3_finish_134 ((hS.f k0 2 101 rfl).2) g6 ?_
    refine x_lload dX3_finish_135 2 rfl ?_
    refine xbnd_e h (fun q7 e7 h => ?_)
    refine y_callVl (As := [.int v7, .long (D5.2 (xr S v0 2) (v6).toNatClampNeg), .long v4]) (q := q7) cv_RX3_73 dX3_finish_137 k0 rfl (Nat.le_of_ble_eq_true rfl) (by omega) (S_X3_joined hS k0 e7) ?_
    refine y_lstore q7.1 rfl [(4, .long q7.1), (0, .ref v0), (3, .ref v3), (6, .int v6), (7, .int v7)] dX3_finish_140 (by show _ < 8; decide) rfl ?_
    refine x_goto 161 dX3_finish_142 (by decide) ?_
    refine x_lv (lv' := [(0, .ref v0), (3, .ref v3), (4, .long q7.1), (6, .int v6)]) [1, 2, 0, 3] rfl ?_
    exact t_X3_finish_161 hS hrec_11 k0 k3 h

def f_X3_finish_11s (F P : Nat) (S : xSt) (rec_11 : Nat → Nat → Int64 → Int32 → xDt → Option (Int64 × xDt)) (v0 : Nat) (v3 : Nat) (v4 : Int64) (v6 : Int32) (D : xDt) : Option (Int64 × xDt) :=
  if v6 < 0 then (xlet (xup D.1 v0 4 0, D.2) fun D1 => some (v4, D1)) else (xgrd (xin v6 (xl S (xr S v0 0))) ((f_X11_signOf F P S (D.1 (xr S v0 0) (v6).toNatClampNeg) D).bind fun q3 => (f_X11_hasTwoParts F P S q3.1 q3.2).bind fun q4 => if q4.1 = 0 then (f_X3_finish_106 F P S rec_11 v0 v3 v4 v6 q3.1 q4.2) else (xgrd (xin v6 (xl S (xr S v0 1))) (if (q4.2.1 (xr S v0 1) (v6).toNatClampNeg) = 0 then (xgrd (xin v6 (xl S (xr S v0 1))) (xlet (xup q4.2.1 (xr S v0 1) (v6).toNatClampNeg (1 &&& 1), q4.2.2) fun D7 => xgrd (xin v6 (xl S (xr S v0 2))) (xlet (D7.1, xup D7.2 (xr S v0 2) (v6).toNatClampNeg v4) fun D9 => xgrd (xin v6 (xl S (xr S v0 3))) (xlet (D9.1, xup D9.2 (xr S v0 3) (v6).toNatClampNeg (D9.2 v0 5)) fun D11 => (f_X11_isSaying F P S q3.1 D11).bind fun q12 => if q12.1 = 0 then (f_X3_finish_92 F P S v0 v4 v6 (q12.2.2 v0 5) v0 q12.2) else (f_X3_finish_92 F P S v0 v4 v6 v4 v0 q12.2))))) else (f_X3_finish_106 F P S rec_11 v0 v3 v4 v6 q3.1 q4.2)))))
def f_X3_finish_11 (F P : Nat) (S : xSt) : Nat → Nat → Nat → Int64 → Int32 → xDt → Option (Int64 × xDt)
  | 0 => fun _ _ _ _ _ => none
  | n + 1 => f_X3_finish_11s F P S (f_X3_finish_11 F P S n)
set_option maxHeartbeats 4000000 in
theorem t_X3_finish_11s {F P : Nat} {S : xSt} (hS : xWF S) {rec_11 : Nat → Nat → Int64 → Int32 → xDt → Option (Int64 × xDt)} (hrec_11 : ∀ {v0 : Nat} {v3 : Nat} {v4 : Int64} {v6 : Int32} {D : xDt} {r : Int64 × xDt}, xK S v0 3 → xK S v3 10 → rec_11 v0 v3 v4 v6 D = some r → yEx md_X3_finish 3 11 [(0, .ref v0), (3, .ref v3), (4, .long v4), (6, .int v6)] [] S D (xQl S r)) {v0 : Nat} {v3 : Nat} {v4 : Int64} {v6 : Int32} {D : xDt} {r : Int64 × xDt} (k0 : xK S v0 3) (k3 : xK S v3 10) (h : f_X3_finish_11s F P S rec_11 v0 v3 v4 v6 D = some r) : yEx md_X3_finish 3 11 [(0, .ref v0), (3, .ref v3), (4, .long v4), (6, .int v6)] [] S D (xQl S r) := by
  unfold f_X3_finish_11s at h
  refine x_iload dX3_finish_11 3 rfl ?_
  refine x_if_lt 167 dX3_finish_13 (by decide) (fun c => ?_) (fun c => ?_)
  · rw [if_pos c] at h
    refine x_aload_n dX3_finish_167 0 rfl ?_
    refine x_iconst 0 dX3_finish_168 (by decide) ?_
    refine xlet_e h (fun D1 eD1 h => ?_)
    refine y_puti fp_RX3_36 dX3_finish_169 rfl k0 eD1 ?_
    refine x_lload dX3_finish_172 2 rfl ?_
    obtain rfl := Option.some.inj h
    exact y_lret rfl dX3_finish_174
  · rw [if_neg c] at h
    refine x_aload_n dX3_finish_16 0 rfl ?_
    refine y_getr (kd := 100) hS fl_RX3_9 dX3_finish_17 rfl k0 ?_
    refine x_iload dX3_finish_20 3 rfl ?_
    refine xgrd_e h (fun g2 h => ?_)
    refine y_iald dX3_finish_22 ((hS.f k0 0 100 rfl).2) g2 ?_
    refine xbnd_e h (fun q3 e3 h => ?_)
    refine y_callNi (As := [.int (D.1 (xr S v0 0) (v6).toNatClampNeg)]) (q := q3) cn_RX3_48 dX3_finish_23 rfl (Nat.le_of_ble_eq_true rfl) (by omega) (S_X11_signOf hS e3) ?_
    refine y_istore q3.1 rfl [(7, .int q3.1), (0, .ref v0), (3, .ref v3), (4, .long v4), (6, .int v6)] dX3_finish_26 (by show _ < 8; decide) rfl ?_
    refine x_iload dX3_finish_28 0 rfl ?_
    refine xbnd_e h (fun q4 e4 h => ?_)
    refine y_callNi (As := [.int q3.1]) (q := q4) cn_RX3_67 dX3_finish_30 rfl (Nat.le_of_ble_eq_true rfl) (by omega) (S_X11_hasTwoParts hS e4) ?_
    refine x_if_eq 106 dX3_finish_33 (by decide) (fun c => ?_) (fun c => ?_)
    · rw [if_pos c] at h
      refine x_lv (lv' := [(0, .ref v0), (3, .ref v3), (4, .long v4), (6, .int v6), (7, .int q3.1)]) [1, 2, 3, 4, 0] rfl ?_
      exact t_X3_finish_106 hS hrec_11 k0 k3 h
    · rw [if_neg c] at h
      refine x_aload_n dX3_finish_36 1 rfl ?_
      refine y_getr (kd := 104) hS fl_RX3_15 dX3_finish_37 rfl k0 ?_
      refine x_iload dX3_finish_40 4 rfl ?_
      refine xgrd_e h (fun g5 h => ?_)
      refine y_zald dX3_finish_42 ((hS.f k0 1 104 rfl).2) g5 ?_
      refine x_if_ne 106 dX3_finish_43 (by decide) (fun c => ?_) (fun c => ?_)
      · rw [if_neg c] at h
        refine x_lv (lv' := [(0, .ref v0), (3, .ref v3), (4, .long v4), (6, .int v6), (7, .int q3.1)]) [1, 2, 3, 4, 0] rfl ?_
        exact t_X3_finish_106 hS hrec_11 k0 k3 h
      · rw [if_pos c] at h
        refine x_aload_n dX3_finish_46 1 rfl ?_
        refine y_getr (kd := 104) hS fl_RX3_15 dX3_finish_47 rfl k0 ?_
        refine x_iload dX3_finish_50 4 rfl ?_
        refine x_iconst 1 dX3_finish_52 (by decide) ?_
        refine xgrd_e h (fun g6 h => ?_)
        refine xlet_e h (fun D7 eD7 h => ?_)
        refine y_zast dX3_finish_53 ((hS.f k0 1 104 rfl).2) g6 eD7 ?_
        refine x_aload_n dX3_finish_54 1 rfl ?_
        refine y_getr (kd := 101) hS fl_RX3_19 dX3_finish_55 rfl k0 ?_
        refine x_iload dX3_finish_58 4 rfl ?_
        refine x_lload dX3_finish_60 3 rfl ?_
        refine xgrd_e h (fun g8 h => ?_)
        refine xlet_e h (fun D9 eD9 h => ?_)
        refine y_last dX3_finish_62 ((hS.f k0 2 101 rfl).2) g8 eD9 ?_
        refine x_aload_n dX3_finish_63 1 rfl ?_
        refine y_getr (kd := 101) hS fl_RX3_23 dX3_finish_64 rfl k0 ?_
        refine x_iload dX3_finish_67 4 rfl ?_
        refine x_aload_n dX3_finish_69 1 rfl ?_
        refine y_getl fl_RX3_32 dX3_finish_70 rfl k0 ?_
        refine xgrd_e h (fun g10 h => ?_)
        refine xlet_e h (fun D11 eD11 h => ?_)
        refine y_last dX3_finish_73 ((hS.f k0 3 101 rfl).2) g10 eD11 ?_
        refine x_aload_n dX3_finish_74 1 rfl ?_
        refine x_iload dX3_finish_75 0 rfl ?_
        refine xbnd_e h (fun q12 e12 h => ?_)
        refine y_callNi (As := [.int q3.1]) (q := q12) cn_RX3_70 dX3_finish_77 rfl (Nat.le_of_ble_eq_true rfl) (by omega) (S_X11_isSaying hS e12) ?_
        refine x_if_eq 88 dX3_finish_80 (by decide) (fun c => ?_) (fun c => ?_)
        · rw [if_pos c] at h
          refine x_aload_n dX3_finish_88 1 rfl ?_
          refine y_getl fl_RX3_32 dX3_finish_89 rfl k0 ?_
          refine x_lv (lv' := [(0, .ref v0), (4, .long v4), (6, .int v6)]) [1, 3, 4] rfl ?_
          exact t_X3_finish_92 hS k0 k0 h
        · rw [if_neg c] at h
          refine x_lload dX3_finish_83 3 rfl ?_
          refine x_goto 92 dX3_finish_85 (by decide) ?_
          refine x_lv (lv' := [(0, .ref v0), (4, .long v4), (6, .int v6)]) [1, 3, 4] rfl ?_
          exact t_X3_finish_92 hS k0 k0 h
theorem t_X3_finish_11 {F P : Nat} {S : xSt} (hS : xWF S) : ∀ (n : Nat) {v0 : Nat} {v3 : Nat} {v4 : Int64} {v6 : Int32} {D : xDt} {r : Int64 × xDt}, xK S v0 3 → xK S v3 10 → f_X3_finish_11 F P S n v0 v3 v4 v6 D = some r → yEx md_X3_finish 3 11 [(0, .ref v0), (3, .ref v3), (4, .long v4), (6, .int v6)] [] S D (xQl S r) := by
  intro n
  induction n with
  | zero => intros; rename_i h; cases h
  | succ n ih =>
    intro v0 v3 v4 v6 D r k0 k3 h
    exact t_X3_finish_11s hS (fun k0 k3 h => ih k0 k3 h) k0 k3 h

def f_X3_finish (F P : Nat) (S : xSt) (v0 : Nat) (v1 : Int64) (v3 : Nat) (D : xDt) : Option (Int64 × xDt) :=
  xlet ((D.1 v0 4) - 1) fun v6_1 => f_X3_finish_11 F P S F v0 v3 v1 v6_1 D
set_option maxHeartbeats 4000000 in
theorem S_X3_finish {F P : Nat} {S : xSt} (hS : xWF S) {v0 : Nat} {v1 : Int64} {v3 : Nat} {D : xDt} {r : Int64 × xDt} (k0 : xK S v0 3) (k3 : xK S v3 10) (h : f_X3_finish F P S v0 v1 v3 D = some r) : xSp md_X3_finish (3, 0, 0) [.ref v0, .long v1, .ref v3] (S, D) (xQl S r) := by
  unfold f_X3_finish at h
  refine xEntry (by decide) (Nat.le_of_ble_eq_true rfl) ?_
  refine x_lv (lv' := [(0, .ref v0), (1, .long v1), (3, .ref v3)]) [0, 1, 2] rfl ?_
  refine x_lload_n dX3_finish_0 1 rfl ?_
  refine y_lstore v1 rfl [(4, .long v1), (0, .ref v0), (1, .long v1), (3, .ref v3)] dX3_finish_1 (by show _ < 8; decide) rfl ?_
  refine x_aload_n dX3_finish_3 1 rfl ?_
  refine y_geti fl_RX3_36 dX3_finish_4 rfl k0 ?_
  refine x_iconst 1 dX3_finish_7 (by decide) ?_
  refine x_isub dX3_finish_8 ?_
  refine xlet_e h (fun v6_1 ev6_1 h => ?_)
  refine y_istore v6_1 ev6_1 [(6, .int v6_1), (4, .long v1), (0, .ref v0), (1, .long v1), (3, .ref v3)] dX3_finish_9 (by show _ < 8; decide) rfl ?_
  refine x_lv (lv' := [(0, .ref v0), (3, .ref v3), (4, .long v1), (6, .int v6_1)]) [2, 4, 1, 0] rfl ?_
  exact t_X3_finish_11 hS F k0 k3 h

theorem dX3_where_0 : decode cX3_where 0 = .ok (.aload_n 0, 1) := by decide +kernel
theorem dX3_where_1 : decode cX3_where 1 = .ok (.aload_n 2, 1) := by decide +kernel
theorem dX3_where_2 : decode cX3_where 2 = .ok (.invokevirtual 26, 3) := by decide +kernel
theorem dX3_where_5 : decode cX3_where 5 = .ok (.putfield 32, 3) := by decide +kernel
theorem dX3_where_8 : decode cX3_where 8 = .ok (.aload_n 0, 1) := by decide +kernel
theorem dX3_where_9 : decode cX3_where 9 = .ok (.iconst 0, 1) := by decide +kernel
theorem dX3_where_10 : decode cX3_where 10 = .ok (.putfield 36, 3) := by decide +kernel
theorem dX3_where_13 : decode cX3_where 13 = .ok (.lconst 0, 1) := by decide +kernel
theorem dX3_where_14 : decode cX3_where 14 = .ok (.lstore_n 3, 1) := by decide +kernel
theorem dX3_where_15 : decode cX3_where 15 = .ok (.iconst 0, 1) := by decide +kernel
theorem dX3_where_16 : decode cX3_where 16 = .ok (.istore 5, 2) := by decide +kernel
theorem dX3_where_18 : decode cX3_where 18 = .ok (.iload 5, 2) := by decide +kernel
theorem dX3_where_20 : decode cX3_where 20 = .ok (.aload_n 1, 1) := by decide +kernel
theorem dX3_where_21 : decode cX3_where 21 = .ok (.getfield 40, 3) := by decide +kernel
theorem dX3_where_24 : decode cX3_where 24 = .ok (.if_icmp .ge 91, 3) := by decide +kernel
theorem dX3_where_27 : decode cX3_where 27 = .ok (.aload_n 1, 1) := by decide +kernel
theorem dX3_where_28 : decode cX3_where 28 = .ok (.getfield 45, 3) := by decide +kernel
theorem dX3_where_31 : decode cX3_where 31 = .ok (.iload 5, 2) := by decide +kernel
theorem dX3_where_33 : decode cX3_where 33 = .ok (.iaload, 1) := by decide +kernel
theorem dX3_where_34 : decode cX3_where 34 = .ok (.istore 6, 2) := by decide +kernel
theorem dX3_where_36 : decode cX3_where 36 = .ok (.iload 6, 2) := by decide +kernel
theorem dX3_where_38 : decode cX3_where 38 = .ok (.invokestatic 48, 3) := by decide +kernel
theorem dX3_where_41 : decode cX3_where 41 = .ok (.invokestatic 52, 3) := by decide +kernel
theorem dX3_where_44 : decode cX3_where 44 = .ok (.ifCond .eq 22, 3) := by decide +kernel
theorem dX3_where_47 : decode cX3_where 47 = .ok (.aload_n 0, 1) := by decide +kernel
theorem dX3_where_48 : decode cX3_where 48 = .ok (.aload_n 0, 1) := by decide +kernel
theorem dX3_where_49 : decode cX3_where 49 = .ok (.iload 6, 2) := by decide +kernel
theorem dX3_where_51 : decode cX3_where 51 = .ok (.invokestatic 48, 3) := by decide +kernel
theorem dX3_where_54 : decode cX3_where 54 = .ok (.aload_n 2, 1) := by decide +kernel
theorem dX3_where_55 : decode cX3_where 55 = .ok (.invokevirtual 56, 3) := by decide +kernel
theorem dX3_where_58 : decode cX3_where 58 = .ok (.aload_n 2, 1) := by decide +kernel
theorem dX3_where_59 : decode cX3_where 59 = .ok (.invokevirtual 60, 3) := by decide +kernel
theorem dX3_where_62 : decode cX3_where 62 = .ok (.lstore_n 3, 1) := by decide +kernel
theorem dX3_where_63 : decode cX3_where 63 = .ok (.goto 46, 3) := by decide +kernel
theorem dX3_where_66 : decode cX3_where 66 = .ok (.aload_n 0, 1) := by decide +kernel
theorem dX3_where_67 : decode cX3_where 67 = .ok (.getfield 36, 3) := by decide +kernel
theorem dX3_where_70 : decode cX3_where 70 = .ok (.aload_n 0, 1) := by decide +kernel
theorem dX3_where_71 : decode cX3_where 71 = .ok (.getfield 9, 3) := by decide +kernel
theorem dX3_where_74 : decode cX3_where 74 = .ok (.arraylength, 1) := by decide +kernel
theorem dX3_where_75 : decode cX3_where 75 = .ok (.if_icmp .ge 34, 3) := by decide +kernel
theorem dX3_where_78 : decode cX3_where 78 = .ok (.aload_n 0, 1) := by decide +kernel
theorem dX3_where_79 : decode cX3_where 79 = .ok (.getfield 9, 3) := by decide +kernel
theorem dX3_where_82 : decode cX3_where 82 = .ok (.aload_n 0, 1) := by decide +kernel
theorem dX3_where_83 : decode cX3_where 83 = .ok (.getfield 36, 3) := by decide +kernel
theorem dX3_where_86 : decode cX3_where 86 = .ok (.iload 6, 2) := by decide +kernel
theorem dX3_where_88 : decode cX3_where 88 = .ok (.iastore, 1) := by decide +kernel
theorem dX3_where_89 : decode cX3_where 89 = .ok (.aload_n 0, 1) := by decide +kernel
theorem dX3_where_90 : decode cX3_where 90 = .ok (.getfield 15, 3) := by decide +kernel
theorem dX3_where_93 : decode cX3_where 93 = .ok (.aload_n 0, 1) := by decide +kernel
theorem dX3_where_94 : decode cX3_where 94 = .ok (.getfield 36, 3) := by decide +kernel
theorem dX3_where_97 : decode cX3_where 97 = .ok (.iconst 0, 1) := by decide +kernel
theorem dX3_where_98 : decode cX3_where 98 = .ok (.bastore, 1) := by decide +kernel
theorem dX3_where_99 : decode cX3_where 99 = .ok (.aload_n 0, 1) := by decide +kernel
theorem dX3_where_100 : decode cX3_where 100 = .ok (.dup, 1) := by decide +kernel
theorem dX3_where_101 : decode cX3_where 101 = .ok (.getfield 36, 3) := by decide +kernel
theorem dX3_where_104 : decode cX3_where 104 = .ok (.iconst 1, 1) := by decide +kernel
theorem dX3_where_105 : decode cX3_where 105 = .ok (.iadd, 1) := by decide +kernel
theorem dX3_where_106 : decode cX3_where 106 = .ok (.putfield 36, 3) := by decide +kernel
theorem dX3_where_109 : decode cX3_where 109 = .ok (.iinc 5 1, 3) := by decide +kernel
theorem dX3_where_112 : decode cX3_where 112 = .ok (.goto (-94), 3) := by decide +kernel
theorem dX3_where_115 : decode cX3_where 115 = .ok (.lload_n 3, 1) := by decide +kernel
theorem dX3_where_116 : decode cX3_where 116 = .ok (.lreturn, 1) := by decide +kernel
def f_X3_where_109 (F P : Nat) (S : xSt) (rec_18 : Nat → Nat → Nat → Int64 → Int32 → xDt → Option (Int64 × xDt)) (v0 : Nat) (v1 : Nat) (v2 : Nat) (v3 : Int64) (v5 : Int32) (D : xDt) : Option (Int64 × xDt) :=
  xlet (v5 + 1) fun v5_1 => rec_18 v0 v1 v2 v3 v5_1 D
set_option maxHeartbeats 4000000 in
theorem t_X3_where_109 {F P : Nat} {S : xSt} (hS : xWF S) {rec_18 : Nat → Nat → Nat → Int64 → Int32 → xDt → Option (Int64 × xDt)} (hrec_18 : ∀ {v0 : Nat} {v1 : Nat} {v2 : Nat} {v3 : Int64} {v5 : Int32} {D : xDt} {r : Int64 × xDt}, xK S v0 3 → xK S v1 2 → xK S v2 10 → rec_18 v0 v1 v2 v3 v5 D = some r → yEx md_X3_where 4 18 [(0, .ref v0), (1, .ref v1), (2, .ref v2), (3, .long v3), (5, .int v5)] [] S D (xQl S r)) {v0 : Nat} {v1 : Nat} {v2 : Nat} {v3 : Int64} {v5 : Int32} {D : xDt} {r : Int64 × xDt} (k0 : xK S v0 3) (k1 : xK S v1 2) (k2 : xK S v2 10) (h : f_X3_where_109 F P S rec_18 v0 v1 v2 v3 v5 D = some r) : yEx md_X3_where 4 109 [(0, .ref v0), (1, .ref v1), (2, .ref v2), (3, .long v3), (5, .int v5)] [] S D (xQl S r) := by
  unfold f_X3_where_109 at h
  refine xlet_e h (fun v5_1 ev5_1 h => ?_)
  refine y_iinc v5_1 ev5_1 (by decide) [(5, .int v5_1), (0, .ref v0), (1, .ref v1), (2, .ref v2), (3, .long v3)] dX3_where_109 4 rfl (by show _ < 7; decide) rfl ?_
  refine x_goto 18 dX3_where_112 (by decide) ?_
  refine x_lv (lv' := [(0, .ref v0), (1, .ref v1), (2, .ref v2), (3, .long v3), (5, .int v5_1)]) [1, 2, 3, 4, 0] rfl ?_
  exact hrec_18 k0 k1 k2 h

def f_X3_where_18s (F P : Nat) (S : xSt) (rec_18 : Nat → Nat → Nat → Int64 → Int32 → xDt → Option (Int64 × xDt)) (v0 : Nat) (v1 : Nat) (v2 : Nat) (v3 : Int64) (v5 : Int32) (D : xDt) : Option (Int64 × xDt) :=
  if (D.1 v1 1) ≤ v5 then (some (v3, D)) else (xgrd (xin v5 (xl S (xr S v1 0))) (xlet (D.1 (xr S v1 0) (v5).toNatClampNeg) fun v6_2 => (f_X11_signOf F P S v6_2 D).bind fun q3 => (f_X11_isLeaf F P S q3.1 q3.2).bind fun q4 => if q4.1 = 0 then (if (Int32.ofNat (xl S (xr S v0 0))) ≤ (q4.2.1 v0 4) then (f_X3_where_109 F P S rec_18 v0 v1 v2 v3 v5 q4.2) else (xgrd (xin (q4.2.1 v0 4) (xl S (xr S v0 0))) (xlet (xup q4.2.1 (xr S v0 0) (q4.2.1 v0 4).toNatClampNeg v6_2, q4.2.2) fun D6 => xgrd (xin (D6.1 v0 4) (xl S (xr S v0 1))) (xlet (xup D6.1 (xr S v0 1) (D6.1 v0 4).toNatClampNeg (0 &&& 1), D6.2) fun D8 => xlet (xup D8.1 v0 4 ((D8.1 v0 4) + 1), D8.2) fun D9 => f_X3_where_109 F P S rec_18 v0 v1 v2 v3 v5 D9)))) else ((f_X11_signOf F P S v6_2 q4.2).bind fun q10 => (f_X3_leaf F P S v0 q10.1 v2 q10.2).bind fun q11 => (f_X3_finish F P S v0 q11.1 v2 q11.2).bind fun q12 => f_X3_where_109 F P S rec_18 v0 v1 v2 q12.1 v5 q12.2)))
def f_X3_where_18 (F P : Nat) (S : xSt) : Nat → Nat → Nat → Nat → Int64 → Int32 → xDt → Option (Int64 × xDt)
  | 0 => fun _ _ _ _ _ _ => none
  | n + 1 => f_X3_where_18s F P S (f_X3_where_18 F P S n)
set_option maxHeartbeats 4000000 in
theorem t_X3_where_18s {F P : Nat} {S : xSt} (hS : xWF S) {rec_18 : Nat → Nat → Nat → Int64 → Int32 → xDt → Option (Int64 × xDt)} (hrec_18 : ∀ {v0 : Nat} {v1 : Nat} {v2 : Nat} {v3 : Int64} {v5 : Int32} {D : xDt} {r : Int64 × xDt}, xK S v0 3 → xK S v1 2 → xK S v2 10 → rec_18 v0 v1 v2 v3 v5 D = some r → yEx md_X3_where 4 18 [(0, .ref v0), (1, .ref v1), (2, .ref v2), (3, .long v3), (5, .int v5)] [] S D (xQl S r)) {v0 : Nat} {v1 : Nat} {v2 : Nat} {v3 : Int64} {v5 : Int32} {D : xDt} {r : Int64 × xDt} (k0 : xK S v0 3) (k1 : xK S v1 2) (k2 : xK S v2 10) (h : f_X3_where_18s F P S rec_18 v0 v1 v2 v3 v5 D = some r) : yEx md_X3_where 4 18 [(0, .ref v0), (1, .ref v1), (2, .ref v2), (3, .long v3), (5, .int v5)] [] S D (xQl S r) := by
  unfold f_X3_where_18s at h
  refine x_iload dX3_where_18 4 rfl ?_
  refine x_aload_n dX3_where_20 1 rfl ?_
  refine y_geti fl_RX3_40 dX3_where_21 rfl k1 ?_
  refine x_icmp_ge 115 dX3_where_24 (by decide) (fun c => ?_) (fun c => ?_)
  · rw [if_pos c] at h
    refine x_lload_n dX3_where_115 3 rfl ?_
    obtain rfl := Option.some.inj h
    exact y_lret rfl dX3_where_116
  · rw [if_neg c] at h
    refine x_aload_n dX3_where_27 1 rfl ?_
    refine y_getr (kd := 100) hS fl_RX3_45 dX3_where_28 rfl k1 ?_
    refine x_iload dX3_where_31 4 rfl ?_
    refine xgrd_e h (fun g1 h => ?_)
    refine y_iald dX3_where_33 ((hS.f k1 0 100 rfl).2) g1 ?_
    refine xlet_e h (fun v6_2 ev6_2 h => ?_)
    refine y_istore v6_2 ev6_2 [(6, .int v6_2), (0, .ref v0), (1, .ref v1), (2, .ref v2), (3, .long v3), (5, .int v5)] dX3_where_34 (by show _ < 7; decide) rfl ?_
    refine x_iload dX3_where_36 0 rfl ?_
    refine xbnd_e h (fun q3 e3 h => ?_)
    refine y_callNi (As := [.int v6_2]) (q := q3) cn_RX3_48 dX3_where_38 rfl (Nat.le_of_ble_eq_true rfl) (by omega) (S_X11_signOf hS e3) ?_
    refine xbnd_e h (fun q4 e4 h => ?_)
    refine y_callNi (As := [.int q3.1]) (q := q4) cn_RX3_52 dX3_where_41 rfl (Nat.le_of_ble_eq_true rfl) (by omega) (S_X11_isLeaf hS e4) ?_
    refine x_if_eq 66 dX3_where_44 (by decide) (fun c => ?_) (fun c => ?_)
    · rw [if_pos c] at h
      refine x_aload_n dX3_where_66 1 rfl ?_
      refine y_geti fl_RX3_36 dX3_where_67 rfl k0 ?_
      refine x_aload_n dX3_where_70 1 rfl ?_
      refine y_getr (kd := 100) hS fl_RX3_9 dX3_where_71 rfl k0 ?_
      refine y_alen dX3_where_74 ((hS.f k0 0 100 rfl).2) (by decide) ?_
      refine x_icmp_ge 109 dX3_where_75 (by decide) (fun c => ?_) (fun c => ?_)
      · rw [if_pos c] at h
        refine x_lv (lv' := [(0, .ref v0), (1, .ref v1), (2, .ref v2), (3, .long v3), (5, .int v5)]) [1, 2, 3, 4, 5] rfl ?_
        exact t_X3_where_109 hS hrec_18 k0 k1 k2 h
      · rw [if_neg c] at h
        refine x_aload_n dX3_where_78 1 rfl ?_
        refine y_getr (kd := 100) hS fl_RX3_9 dX3_where_79 rfl k0 ?_
        refine x_aload_n dX3_where_82 1 rfl ?_
        refine y_geti fl_RX3_36 dX3_where_83 rfl k0 ?_
        refine x_iload dX3_where_86 0 rfl ?_
        refine xgrd_e h (fun g5 h => ?_)
        refine xlet_e h (fun D6 eD6 h => ?_)
        refine y_iast dX3_where_88 ((hS.f k0 0 100 rfl).2) g5 eD6 ?_
        refine x_aload_n dX3_where_89 1 rfl ?_
        refine y_getr (kd := 104) hS fl_RX3_15 dX3_where_90 rfl k0 ?_
        refine x_aload_n dX3_where_93 1 rfl ?_
        refine y_geti fl_RX3_36 dX3_where_94 rfl k0 ?_
        refine x_iconst 0 dX3_where_97 (by decide) ?_
        refine xgrd_e h (fun g7 h => ?_)
        refine xlet_e h (fun D8 eD8 h => ?_)
        refine y_zast dX3_where_98 ((hS.f k0 1 104 rfl).2) g7 eD8 ?_
        refine x_aload_n dX3_where_99 1 rfl ?_
        refine x_dup dX3_where_100 rfl ?_
        refine y_geti fl_RX3_36 dX3_where_101 rfl k0 ?_
        refine x_iconst 1 dX3_where_104 (by decide) ?_
        refine x_iadd dX3_where_105 ?_
        refine xlet_e h (fun D9 eD9 h => ?_)
        refine y_puti fp_RX3_36 dX3_where_106 rfl k0 eD9 ?_
        refine x_lv (lv' := [(0, .ref v0), (1, .ref v1), (2, .ref v2), (3, .long v3), (5, .int v5)]) [1, 2, 3, 4, 5] rfl ?_
        exact t_X3_where_109 hS hrec_18 k0 k1 k2 h
    · rw [if_neg c] at h
      refine x_aload_n dX3_where_47 1 rfl ?_
      refine x_aload_n dX3_where_48 1 rfl ?_
      refine x_iload dX3_where_49 0 rfl ?_
      refine xbnd_e h (fun q10 e10 h => ?_)
      refine y_callNi (As := [.int v6_2]) (q := q10) cn_RX3_48 dX3_where_51 rfl (Nat.le_of_ble_eq_true rfl) (by omega) (S_X11_signOf hS e10) ?_
      refine x_aload_n dX3_where_54 3 rfl ?_
      refine xbnd_e h (fun q11 e11 h => ?_)
      refine y_callVl (As := [.int q10.1, .ref v2]) (q := q11) cv_RX3_56 dX3_where_55 k0 rfl (Nat.le_of_ble_eq_true rfl) (by omega) (S_X3_leaf hS k0 k2 e11) ?_
      refine x_aload_n dX3_where_58 3 rfl ?_
      refine xbnd_e h (fun q12 e12 h => ?_)
      refine y_callVl (As := [.long q11.1, .ref v2]) (q := q12) cv_RX3_60 dX3_where_59 k0 rfl (Nat.le_of_ble_eq_true rfl) (by omega) (S_X3_finish hS k0 k2 e12) ?_
      refine y_lstore_n q12.1 rfl [(3, .long q12.1), (6, .int v6_2), (0, .ref v0), (1, .ref v1), (2, .ref v2), (5, .int v5)] dX3_where_62 (by show _ < 7; decide) rfl ?_
      refine x_goto 109 dX3_where_63 (by decide) ?_
      refine x_lv (lv' := [(0, .ref v0), (1, .ref v1), (2, .ref v2), (3, .long q12.1), (5, .int v5)]) [2, 3, 4, 0, 5] rfl ?_
      exact t_X3_where_109 hS hrec_18 k0 k1 k2 h
theorem t_X3_where_18 {F P : Nat} {S : xSt} (hS : xWF S) : ∀ (n : Nat) {v0 : Nat} {v1 : Nat} {v2 : Nat} {v3 : Int64} {v5 : Int32} {D : xDt} {r : Int64 × xDt}, xK S v0 3 → xK S v1 2 → xK S v2 10 → f_X3_where_18 F P S n v0 v1 v2 v3 v5 D = some r → yEx md_X3_where 4 18 [(0, .ref v0), (1, .ref v1), (2, .ref v2), (3, .long v3), (5, .int v5)] [] S D (xQl S r) := by
  intro n
  induction n with
  | zero => intros; rename_i h; cases h
  | succ n ih =>
    intro v0 v1 v2 v3 v5 D r k0 k1 k2 h
    exact t_X3_where_18s hS (fun k0 k1 k2 h => ih k0 k1 k2 h) k0 k1 k2 h

def f_X3_where (F P : Nat) (S : xSt) (v0 : Nat) (v1 : Nat) (v2 : Nat) (D : xDt) : Option (Int64 × xDt) :=
  (f_X10_all F P S v2 D).bind fun q1 => xlet (q1.2.1, xup q1.2.2 v0 5 q1.1) fun D2 => xlet (xup D2.1 v0 4 0, D2.2) fun D3 => f_X3_where_18 F P S F v0 v1 v2 0 0 D3
set_option maxHeartbeats 4000000 in
theorem S_X3_where {F P : Nat} {S : xSt} (hS : xWF S) {v0 : Nat} {v1 : Nat} {v2 : Nat} {D : xDt} {r : Int64 × xDt} (k0 : xK S v0 3) (k1 : xK S v1 2) (k2 : xK S v2 10) (h : f_X3_where F P S v0 v1 v2 D = some r) : xSp md_X3_where (4, 0, 0) [.ref v0, .ref v1, .ref v2] (S, D) (xQl S r) := by
  unfold f_X3_where at h
  refine xEntry (by decide) (Nat.le_of_ble_eq_true rfl) ?_
  refine x_lv (lv' := [(0, .ref v0), (1, .ref v1), (2, .ref v2)]) [0, 1, 2] rfl ?_
  refine x_aload_n dX3_where_0 0 rfl ?_
  refine x_aload_n dX3_where_1 2 rfl ?_
  refine xbnd_e h (fun q1 e1 h => ?_)
  refine y_callVl (As := []) (q := q1) cv_RX3_26 dX3_where_2 k2 rfl (Nat.le_of_ble_eq_true rfl) (by omega) (S_X10_all hS k2 e1) ?_
  refine xlet_e h (fun D2 eD2 h => ?_)
  refine y_putl fp_RX3_32 dX3_where_5 rfl k0 eD2 ?_
  refine x_aload_n dX3_where_8 0 rfl ?_
  refine x_iconst 0 dX3_where_9 (by decide) ?_
  refine xlet_e h (fun D3 eD3 h => ?_)
  refine y_puti fp_RX3_36 dX3_where_10 rfl k0 eD3 ?_
  refine x_lconst 0 dX3_where_13 (by decide) ?_
  refine y_lstore_n 0 rfl [(3, .long 0), (0, .ref v0), (1, .ref v1), (2, .ref v2)] dX3_where_14 (by show _ < 7; decide) rfl ?_
  refine x_iconst 0 dX3_where_15 (by decide) ?_
  refine y_istore 0 rfl [(5, .int 0), (3, .long 0), (0, .ref v0), (1, .ref v1), (2, .ref v2)] dX3_where_16 (by show _ < 7; decide) rfl ?_
  refine x_lv (lv' := [(0, .ref v0), (1, .ref v1), (2, .ref v2), (3, .long 0), (5, .int 0)]) [2, 3, 4, 1, 0] rfl ?_
  exact t_X3_where_18 hS F k0 k1 k2 h

theorem dX1_pair_0 : decode cX1_pair 0 = .ok (.iconst 0, 1) := by decide +kernel
theorem dX1_pair_1 : decode cX1_pair 1 = .ok (.istore_n 3, 1) := by decide +kernel
theorem dX1_pair_2 : decode cX1_pair 2 = .ok (.iload_n 3, 1) := by decide +kernel
theorem dX1_pair_3 : decode cX1_pair 3 = .ok (.aload_n 0, 1) := by decide +kernel
theorem dX1_pair_4 : decode cX1_pair 4 = .ok (.getfield 34, 3) := by decide +kernel
theorem dX1_pair_7 : decode cX1_pair 7 = .ok (.if_icmp .ge 29, 3) := by decide +kernel
theorem dX1_pair_10 : decode cX1_pair 10 = .ok (.aload_n 0, 1) := by decide +kernel
theorem dX1_pair_11 : decode cX1_pair 11 = .ok (.getfield 21, 3) := by decide +kernel
theorem dX1_pair_14 : decode cX1_pair 14 = .ok (.iload_n 3, 1) := by decide +kernel
theorem dX1_pair_15 : decode cX1_pair 15 = .ok (.aload_n 2, 1) := by decide +kernel
theorem dX1_pair_16 : decode cX1_pair 16 = .ok (.aload_n 0, 1) := by decide +kernel
theorem dX1_pair_17 : decode cX1_pair 17 = .ok (.getfield 13, 3) := by decide +kernel
theorem dX1_pair_20 : decode cX1_pair 20 = .ok (.iload_n 3, 1) := by decide +kernel
theorem dX1_pair_21 : decode cX1_pair 21 = .ok (.bipush 9, 2) := by decide +kernel
theorem dX1_pair_23 : decode cX1_pair 23 = .ok (.imul, 1) := by decide +kernel
theorem dX1_pair_24 : decode cX1_pair 24 = .ok (.aaload, 1) := by decide +kernel
theorem dX1_pair_25 : decode cX1_pair 25 = .ok (.aload_n 1, 1) := by decide +kernel
theorem dX1_pair_26 : decode cX1_pair 26 = .ok (.invokevirtual 49, 3) := by decide +kernel
theorem dX1_pair_29 : decode cX1_pair 29 = .ok (.lastore, 1) := by decide +kernel
theorem dX1_pair_30 : decode cX1_pair 30 = .ok (.iinc 3 1, 3) := by decide +kernel
theorem dX1_pair_33 : decode cX1_pair 33 = .ok (.goto (-31), 3) := by decide +kernel
theorem dX1_pair_36 : decode cX1_pair 36 = .ok (.iconst 0, 1) := by decide +kernel
theorem dX1_pair_37 : decode cX1_pair 37 = .ok (.istore_n 3, 1) := by decide +kernel
theorem dX1_pair_38 : decode cX1_pair 38 = .ok (.iconst 0, 1) := by decide +kernel
theorem dX1_pair_39 : decode cX1_pair 39 = .ok (.istore 4, 2) := by decide +kernel
theorem dX1_pair_41 : decode cX1_pair 41 = .ok (.iload 4, 2) := by decide +kernel
theorem dX1_pair_43 : decode cX1_pair 43 = .ok (.aload_n 1, 1) := by decide +kernel
theorem dX1_pair_44 : decode cX1_pair 44 = .ok (.getfield 54, 3) := by decide +kernel
theorem dX1_pair_47 : decode cX1_pair 47 = .ok (.if_icmp .ge 69, 3) := by decide +kernel
theorem dX1_pair_50 : decode cX1_pair 50 = .ok (.iconst 0, 1) := by decide +kernel
theorem dX1_pair_51 : decode cX1_pair 51 = .ok (.istore 5, 2) := by decide +kernel
theorem dX1_pair_53 : decode cX1_pair 53 = .ok (.iload 5, 2) := by decide +kernel
theorem dX1_pair_55 : decode cX1_pair 55 = .ok (.aload_n 0, 1) := by decide +kernel
theorem dX1_pair_56 : decode cX1_pair 56 = .ok (.getfield 34, 3) := by decide +kernel
theorem dX1_pair_59 : decode cX1_pair 59 = .ok (.if_icmp .ge 51, 3) := by decide +kernel
theorem dX1_pair_62 : decode cX1_pair 62 = .ok (.aload_n 0, 1) := by decide +kernel
theorem dX1_pair_63 : decode cX1_pair 63 = .ok (.getfield 21, 3) := by decide +kernel
theorem dX1_pair_66 : decode cX1_pair 66 = .ok (.iload 5, 2) := by decide +kernel
theorem dX1_pair_68 : decode cX1_pair 68 = .ok (.laload, 1) := by decide +kernel
theorem dX1_pair_69 : decode cX1_pair 69 = .ok (.iload 4, 2) := by decide +kernel
theorem dX1_pair_71 : decode cX1_pair 71 = .ok (.lushr, 1) := by decide +kernel
theorem dX1_pair_72 : decode cX1_pair 72 = .ok (.lconst 1, 1) := by decide +kernel
theorem dX1_pair_73 : decode cX1_pair 73 = .ok (.land, 1) := by decide +kernel
theorem dX1_pair_74 : decode cX1_pair 74 = .ok (.lconst 0, 1) := by decide +kernel
theorem dX1_pair_75 : decode cX1_pair 75 = .ok (.lcmp, 1) := by decide +kernel
theorem dX1_pair_76 : decode cX1_pair 76 = .ok (.ifCond .eq 28, 3) := by decide +kernel
theorem dX1_pair_79 : decode cX1_pair 79 = .ok (.iload_n 3, 1) := by decide +kernel
theorem dX1_pair_80 : decode cX1_pair 80 = .ok (.bipush 64, 2) := by decide +kernel
theorem dX1_pair_82 : decode cX1_pair 82 = .ok (.if_icmp .ge 19, 3) := by decide +kernel
theorem dX1_pair_85 : decode cX1_pair 85 = .ok (.aload_n 0, 1) := by decide +kernel
theorem dX1_pair_86 : decode cX1_pair 86 = .ok (.getfield 25, 3) := by decide +kernel
theorem dX1_pair_89 : decode cX1_pair 89 = .ok (.iload_n 3, 1) := by decide +kernel
theorem dX1_pair_90 : decode cX1_pair 90 = .ok (.iload 4, 2) := by decide +kernel
theorem dX1_pair_92 : decode cX1_pair 92 = .ok (.iastore, 1) := by decide +kernel
theorem dX1_pair_93 : decode cX1_pair 93 = .ok (.aload_n 0, 1) := by decide +kernel
theorem dX1_pair_94 : decode cX1_pair 94 = .ok (.getfield 28, 3) := by decide +kernel
theorem dX1_pair_97 : decode cX1_pair 97 = .ok (.iload_n 3, 1) := by decide +kernel
theorem dX1_pair_98 : decode cX1_pair 98 = .ok (.iload 5, 2) := by decide +kernel
theorem dX1_pair_100 : decode cX1_pair 100 = .ok (.iastore, 1) := by decide +kernel
theorem dX1_pair_101 : decode cX1_pair 101 = .ok (.iinc 3 1, 3) := by decide +kernel
theorem dX1_pair_104 : decode cX1_pair 104 = .ok (.iinc 5 1, 3) := by decide +kernel
theorem dX1_pair_107 : decode cX1_pair 107 = .ok (.goto (-54), 3) := by decide +kernel
theorem dX1_pair_110 : decode cX1_pair 110 = .ok (.iinc 4 1, 3) := by decide +kernel
theorem dX1_pair_113 : decode cX1_pair 113 = .ok (.goto (-72), 3) := by decide +kernel
theorem dX1_pair_116 : decode cX1_pair 116 = .ok (.iload_n 3, 1) := by decide +kernel
theorem dX1_pair_117 : decode cX1_pair 117 = .ok (.ireturn, 1) := by decide +kernel
def f_X1_pair_104 (F P : Nat) (S : xSt) (rec_41 : Nat → Nat → Int32 → Int32 → xDt → Option (Int32 × xDt)) (rec_53 : Nat → Nat → Int32 → Int32 → Int32 → xDt → Option (Int32 × xDt)) (v0 : Nat) (v1 : Nat) (v3 : Int32) (v4 : Int32) (v5 : Int32) (D : xDt) : Option (Int32 × xDt) :=
  xlet (v5 + 1) fun v5_1 => rec_53 v0 v1 v3 v4 v5_1 D
set_option maxHeartbeats 4000000 in
theorem t_X1_pair_104 {F P : Nat} {S : xSt} (hS : xWF S) {rec_41 : Nat → Nat → Int32 → Int32 → xDt → Option (Int32 × xDt)} (hrec_41 : ∀ {v0 : Nat} {v1 : Nat} {v3 : Int32} {v4 : Int32} {D : xDt} {r : Int32 × xDt}, xK S v0 1 → xK S v1 10 → rec_41 v0 v1 v3 v4 D = some r → yEx md_X1_pair 5 41 [(0, .ref v0), (1, .ref v1), (3, .int v3), (4, .int v4)] [] S D (xQi S r)) {rec_53 : Nat → Nat → Int32 → Int32 → Int32 → xDt → Option (Int32 × xDt)} (hrec_53 : ∀ {v0 : Nat} {v1 : Nat} {v3 : Int32} {v4 : Int32} {v5 : Int32} {D : xDt} {r : Int32 × xDt}, xK S v0 1 → xK S v1 10 → rec_53 v0 v1 v3 v4 v5 D = some r → yEx md_X1_pair 5 53 [(0, .ref v0), (1, .ref v1), (3, .int v3), (4, .int v4), (5, .int v5)] [] S D (xQi S r)) {v0 : Nat} {v1 : Nat} {v3 : Int32} {v4 : Int32} {v5 : Int32} {D : xDt} {r : Int32 × xDt} (k0 : xK S v0 1) (k1 : xK S v1 10) (h : f_X1_pair_104 F P S rec_41 rec_53 v0 v1 v3 v4 v5 D = some r) : yEx md_X1_pair 5 104 [(0, .ref v0), (1, .ref v1), (3, .int v3), (4, .int v4), (5, .int v5)] [] S D (xQi S r) := by
  unfold f_X1_pair_104 at h
  refine xlet_e h (fun v5_1 ev5_1 h => ?_)
  refine y_iinc v5_1 ev5_1 (by decide) [(5, .int v5_1), (0, .ref v0), (1, .ref v1), (3, .int v3), (4, .int v4)] dX1_pair_104 4 rfl (by show _ < 6; decide) rfl ?_
  refine x_goto 53 dX1_pair_107 (by decide) ?_
  refine x_lv (lv' := [(0, .ref v0), (1, .ref v1), (3, .int v3), (4, .int v4), (5, .int v5_1)]) [1, 2, 3, 4, 0] rfl ?_
  exact hrec_53 k0 k1 h

def f_X1_pair_101 (F P : Nat) (S : xSt) (rec_41 : Nat → Nat → Int32 → Int32 → xDt → Option (Int32 × xDt)) (rec_53 : Nat → Nat → Int32 → Int32 → Int32 → xDt → Option (Int32 × xDt)) (v0 : Nat) (v1 : Nat) (v3 : Int32) (v4 : Int32) (v5 : Int32) (D : xDt) : Option (Int32 × xDt) :=
  xlet (v3 + 1) fun v3_1 => f_X1_pair_104 F P S rec_41 rec_53 v0 v1 v3_1 v4 v5 D
set_option maxHeartbeats 4000000 in
theorem t_X1_pair_101 {F P : Nat} {S : xSt} (hS : xWF S) {rec_41 : Nat → Nat → Int32 → Int32 → xDt → Option (Int32 × xDt)} (hrec_41 : ∀ {v0 : Nat} {v1 : Nat} {v3 : Int32} {v4 : Int32} {D : xDt} {r : Int32 × xDt}, xK S v0 1 → xK S v1 10 → rec_41 v0 v1 v3 v4 D = some r → yEx md_X1_pair 5 41 [(0, .ref v0), (1, .ref v1), (3, .int v3), (4, .int v4)] [] S D (xQi S r)) {rec_53 : Nat → Nat → Int32 → Int32 → Int32 → xDt → Option (Int32 × xDt)} (hrec_53 : ∀ {v0 : Nat} {v1 : Nat} {v3 : Int32} {v4 : Int32} {v5 : Int32} {D : xDt} {r : Int32 × xDt}, xK S v0 1 → xK S v1 10 → rec_53 v0 v1 v3 v4 v5 D = some r → yEx md_X1_pair 5 53 [(0, .ref v0), (1, .ref v1), (3, .int v3), (4, .int v4), (5, .int v5)] [] S D (xQi S r)) {v0 : Nat} {v1 : Nat} {v3 : Int32} {v4 : Int32} {v5 : Int32} {D : xDt} {r : Int32 × xDt} (k0 : xK S v0 1) (k1 : xK S v1 10) (h : f_X1_pair_101 F P S rec_41 rec_53 v0 v1 v3 v4 v5 D = some r) : yEx md_X1_pair 5 101 [(0, .ref v0), (1, .ref v1), (3, .int v3), (4, .int v4), (5, .int v5)] [] S D (xQi S r) := by
  unfold f_X1_pair_101 at h
  refine xlet_e h (fun v3_1 ev3_1 h => ?_)
  refine y_iinc v3_1 ev3_1 (by decide) [(3, .int v3_1), (0, .ref v0), (1, .ref v1), (4, .int v4), (5, .int v5)] dX1_pair_101 2 rfl (by show _ < 6; decide) rfl ?_
  refine x_lv (lv' := [(0, .ref v0), (1, .ref v1), (3, .int v3_1), (4, .int v4), (5, .int v5)]) [1, 2, 0, 3, 4] rfl ?_
  exact t_X1_pair_104 hS hrec_41 hrec_53 k0 k1 h

def f_X1_pair_53s (F P : Nat) (S : xSt) (rec_41 : Nat → Nat → Int32 → Int32 → xDt → Option (Int32 × xDt)) (rec_53 : Nat → Nat → Int32 → Int32 → Int32 → xDt → Option (Int32 × xDt)) (v0 : Nat) (v1 : Nat) (v3 : Int32) (v4 : Int32) (v5 : Int32) (D : xDt) : Option (Int32 × xDt) :=
  if (D.1 v0 0) ≤ v5 then (xlet (v4 + 1) fun v4_1 => rec_41 v0 v1 v3 v4_1 D) else (xgrd (xin v5 (xl S (xr S v0 3))) (if (lg_cmp ((jlushr (D.2 (xr S v0 3) (v5).toNatClampNeg) v4) &&& 1) 0) = 0 then (f_X1_pair_104 F P S rec_41 rec_53 v0 v1 v3 v4 v5 D) else (if 64 ≤ v3 then (f_X1_pair_101 F P S rec_41 rec_53 v0 v1 v3 v4 v5 D) else (xgrd (xin v3 (xl S (xr S v0 4))) (xlet (xup D.1 (xr S v0 4) (v3).toNatClampNeg v4, D.2) fun D4 => xgrd (xin v3 (xl S (xr S v0 5))) (xlet (xup D4.1 (xr S v0 5) (v3).toNatClampNeg v5, D4.2) fun D6 => f_X1_pair_101 F P S rec_41 rec_53 v0 v1 v3 v4 v5 D6))))))
def f_X1_pair_53 (F P : Nat) (S : xSt) (rec_41 : Nat → Nat → Int32 → Int32 → xDt → Option (Int32 × xDt)) : Nat → Nat → Nat → Int32 → Int32 → Int32 → xDt → Option (Int32 × xDt)
  | 0 => fun _ _ _ _ _ _ => none
  | n + 1 => f_X1_pair_53s F P S rec_41 (f_X1_pair_53 F P S rec_41 n)
set_option maxHeartbeats 4000000 in
theorem t_X1_pair_53s {F P : Nat} {S : xSt} (hS : xWF S) {rec_41 : Nat → Nat → Int32 → Int32 → xDt → Option (Int32 × xDt)} (hrec_41 : ∀ {v0 : Nat} {v1 : Nat} {v3 : Int32} {v4 : Int32} {D : xDt} {r : Int32 × xDt}, xK S v0 1 → xK S v1 10 → rec_41 v0 v1 v3 v4 D = some r → yEx md_X1_pair 5 41 [(0, .ref v0), (1, .ref v1), (3, .int v3), (4, .int v4)] [] S D (xQi S r)) {rec_53 : Nat → Nat → Int32 → Int32 → Int32 → xDt → Option (Int32 × xDt)} (hrec_53 : ∀ {v0 : Nat} {v1 : Nat} {v3 : Int32} {v4 : Int32} {v5 : Int32} {D : xDt} {r : Int32 × xDt}, xK S v0 1 → xK S v1 10 → rec_53 v0 v1 v3 v4 v5 D = some r → yEx md_X1_pair 5 53 [(0, .ref v0), (1, .ref v1), (3, .int v3), (4, .int v4), (5, .int v5)] [] S D (xQi S r)) {v0 : Nat} {v1 : Nat} {v3 : Int32} {v4 : Int32} {v5 : Int32} {D : xDt} {r : Int32 × xDt} (k0 : xK S v0 1) (k1 : xK S v1 10) (h : f_X1_pair_53s F P S rec_41 rec_53 v0 v1 v3 v4 v5 D = some r) : yEx md_X1_pair 5 53 [(0, .ref v0), (1, .ref v1), (3, .int v3), (4, .int v4), (5, .int v5)] [] S D (xQi S r) := by
  unfold f_X1_pair_53s at h
  refine x_iload dX1_pair_53 4 rfl ?_
  refine x_aload_n dX1_pair_55 0 rfl ?_
  refine y_geti fl_RX1_34 dX1_pair_56 rfl k0 ?_
  refine x_icmp_ge 110 dX1_pair_59 (by decide) (fun c => ?_) (fun c => ?_)
  · rw [if_pos c] at h
    refine xlet_e h (fun v4_1 ev4_1 h => ?_)
    refine y_iinc v4_1 ev4_1 (by decide) [(4, .int v4_1), (0, .ref v0), (1, .ref v1), (3, .int v3), (5, .int v5)] dX1_pair_110 3 rfl (by show _ < 6; decide) rfl ?_
    refine x_goto 41 dX1_pair_113 (by decide) ?_
    refine x_lv (lv' := [(0, .ref v0), (1, .ref v1), (3, .int v3), (4, .int v4_1)]) [1, 2, 3, 0] rfl ?_
    exact hrec_41 k0 k1 h
  · rw [if_neg c] at h
    refine x_aload_n dX1_pair_62 0 rfl ?_
    refine y_getr (kd := 101) hS fl_RX1_21 dX1_pair_63 rfl k0 ?_
    refine x_iload dX1_pair_66 4 rfl ?_
    refine xgrd_e h (fun g2 h => ?_)
    refine y_lald dX1_pair_68 ((hS.f k0 3 101 rfl).2) g2 ?_
    refine x_iload dX1_pair_69 3 rfl ?_
    refine x_lushr dX1_pair_71 ?_
    refine x_lconst 1 dX1_pair_72 (by decide) ?_
    refine x_land dX1_pair_73 ?_
    refine x_lconst 0 dX1_pair_74 (by decide) ?_
    refine x_lcmp dX1_pair_75 ?_
    refine x_if_eq 104 dX1_pair_76 (by decide) (fun c => ?_) (fun c => ?_)
    · rw [if_pos c] at h
      exact t_X1_pair_104 hS hrec_41 hrec_53 k0 k1 h
    · rw [if_neg c] at h
      refine x_iload_n dX1_pair_79 2 rfl ?_
      refine x_bipush 64 dX1_pair_80 (by decide) ?_
      refine x_icmp_ge 101 dX1_pair_82 (by decide) (fun c => ?_) (fun c => ?_)
      · rw [if_pos c] at h
        exact t_X1_pair_101 hS hrec_41 hrec_53 k0 k1 h
      · rw [if_neg c] at h
        refine x_aload_n dX1_pair_85 0 rfl ?_
        refine y_getr (kd := 100) hS fl_RX1_25 dX1_pair_86 rfl k0 ?_
        refine x_iload_n dX1_pair_89 2 rfl ?_
        refine x_iload dX1_pair_90 3 rfl ?_
        refine xgrd_e h (fun g3 h => ?_)
        refine xlet_e h (fun D4 eD4 h => ?_)
        refine y_iast dX1_pair_92 ((hS.f k0 4 100 rfl).2) g3 eD4 ?_
        refine x_aload_n dX1_pair_93 0 rfl ?_
        refine y_getr (kd := 100) hS fl_RX1_28 dX1_pair_94 rfl k0 ?_
        refine x_iload_n dX1_pair_97 2 rfl ?_
        refine x_iload dX1_pair_98 4 rfl ?_
        refine xgrd_e h (fun g5 h => ?_)
        refine xlet_e h (fun D6 eD6 h => ?_)
        refine y_iast dX1_pair_100 ((hS.f k0 5 100 rfl).2) g5 eD6 ?_
        exact t_X1_pair_101 hS hrec_41 hrec_53 k0 k1 h
theorem t_X1_pair_53 {F P : Nat} {S : xSt} (hS : xWF S) {rec_41 : Nat → Nat → Int32 → Int32 → xDt → Option (Int32 × xDt)} (hrec_41 : ∀ {v0 : Nat} {v1 : Nat} {v3 : Int32} {v4 : Int32} {D : xDt} {r : Int32 × xDt}, xK S v0 1 → xK S v1 10 → rec_41 v0 v1 v3 v4 D = some r → yEx md_X1_pair 5 41 [(0, .ref v0), (1, .ref v1), (3, .int v3), (4, .int v4)] [] S D (xQi S r)) : ∀ (n : Nat) {v0 : Nat} {v1 : Nat} {v3 : Int32} {v4 : Int32} {v5 : Int32} {D : xDt} {r : Int32 × xDt}, xK S v0 1 → xK S v1 10 → f_X1_pair_53 F P S rec_41 n v0 v1 v3 v4 v5 D = some r → yEx md_X1_pair 5 53 [(0, .ref v0), (1, .ref v1), (3, .int v3), (4, .int v4), (5, .int v5)] [] S D (xQi S r) := by
  intro n
  induction n with
  | zero => intros; rename_i h; cases h
  | succ n ih =>
    intro v0 v1 v3 v4 v5 D r k0 k1 h
    exact t_X1_pair_53s hS hrec_41 (fun k0 k1 h => ih k0 k1 h) k0 k1 h

def f_X1_pair_41s (F P : Nat) (S : xSt) (rec_41 : Nat → Nat → Int32 → Int32 → xDt → Option (Int32 × xDt)) (v0 : Nat) (v1 : Nat) (v3 : Int32) (v4 : Int32) (D : xDt) : Option (Int32 × xDt) :=
  if (D.1 v1 0) ≤ v4 then (some (v3, D)) else (f_X1_pair_53 F P S rec_41 F v0 v1 v3 v4 0 D)
def f_X1_pair_41 (F P : Nat) (S : xSt) : Nat → Nat → Nat → Int32 → Int32 → xDt → Option (Int32 × xDt)
  | 0 => fun _ _ _ _ _ => none
  | n + 1 => f_X1_pair_41s F P S (f_X1_pair_41 F P S n)
set_option maxHeartbeats 4000000 in
theorem t_X1_pair_41s {F P : Nat} {S : xSt} (hS : xWF S) {rec_41 : Nat → Nat → Int32 → Int32 → xDt → Option (Int32 × xDt)} (hrec_41 : ∀ {v0 : Nat} {v1 : Nat} {v3 : Int32} {v4 : Int32} {D : xDt} {r : Int32 × xDt}, xK S v0 1 → xK S v1 10 → rec_41 v0 v1 v3 v4 D = some r → yEx md_X1_pair 5 41 [(0, .ref v0), (1, .ref v1), (3, .int v3), (4, .int v4)] [] S D (xQi S r)) {v0 : Nat} {v1 : Nat} {v3 : Int32} {v4 : Int32} {D : xDt} {r : Int32 × xDt} (k0 : xK S v0 1) (k1 : xK S v1 10) (h : f_X1_pair_41s F P S rec_41 v0 v1 v3 v4 D = some r) : yEx md_X1_pair 5 41 [(0, .ref v0), (1, .ref v1), (3, .int v3), (4, .int v4)] [] S D (xQi S r) := by
  unfold f_X1_pair_41s at h
  refine x_iload dX1_pair_41 3 rfl ?_
  refine x_aload_n dX1_pair_43 1 rfl ?_
  refine y_geti fl_RX1_54 dX1_pair_44 rfl k1 ?_
  refine x_icmp_ge 116 dX1_pair_47 (by decide) (fun c => ?_) (fun c => ?_)
  · rw [if_pos c] at h
    refine x_iload_n dX1_pair_116 2 rfl ?_
    obtain rfl := Option.some.inj h
    exact y_iret rfl dX1_pair_117
  · rw [if_neg c] at h
    refine x_iconst 0 dX1_pair_50 (by decide) ?_
    refine y_istore 0 rfl [(5, .int 0), (0, .ref v0), (1, .ref v1), (3, .int v3), (4, .int v4)] dX1_pair_51 (by show _ < 6; decide) rfl ?_
    refine x_lv (lv' := [(0, .ref v0), (1, .ref v1), (3, .int v3), (4, .int v4), (5, .int 0)]) [1, 2, 3, 4, 0] rfl ?_
    exact t_X1_pair_53 hS hrec_41 F k0 k1 h
theorem t_X1_pair_41 {F P : Nat} {S : xSt} (hS : xWF S) : ∀ (n : Nat) {v0 : Nat} {v1 : Nat} {v3 : Int32} {v4 : Int32} {D : xDt} {r : Int32 × xDt}, xK S v0 1 → xK S v1 10 → f_X1_pair_41 F P S n v0 v1 v3 v4 D = some r → yEx md_X1_pair 5 41 [(0, .ref v0), (1, .ref v1), (3, .int v3), (4, .int v4)] [] S D (xQi S r) := by
  intro n
  induction n with
  | zero => intros; rename_i h; cases h
  | succ n ih =>
    intro v0 v1 v3 v4 D r k0 k1 h
    exact t_X1_pair_41s hS (fun k0 k1 h => ih k0 k1 h) k0 k1 h

def f_X1_pair_2s (F P : Nat) (S : xSt) (rec_2 : Nat → Nat → Nat → Int32 → xDt → Option (Int32 × xDt)) (v0 : Nat) (v1 : Nat) (v2 : Nat) (v3 : Int32) (D : xDt) : Option (Int32 × xDt) :=
  if (D.1 v0 0) ≤ v3 then (f_X1_pair_41 F P S F v0 v1 0 0 D) else (xgrd (xin (v3 * 9) (xl S (xr S v0 1))) ((f_X3_where F P S v2 (xr S (xr S v0 1) (v3 * 9).toNatClampNeg) v1 D).bind fun q2 => xgrd (xin v3 (xl S (xr S v0 3))) (xlet (q2.2.1, xup q2.2.2 (xr S v0 3) (v3).toNatClampNeg q2.1) fun D4 => xlet (v3 + 1) fun v3_5 => rec_2 v0 v1 v2 v3_5 D4)))
def f_X1_pair_2 (F P : Nat) (S : xSt) : Nat → Nat → Nat → Nat → Int32 → xDt → Option (Int32 × xDt)
  | 0 => fun _ _ _ _ _ => none
  | n + 1 => f_X1_pair_2s F P S (f_X1_pair_2 F P S n)
set_option maxHeartbeats 4000000 in
theorem t_X1_pair_2s {F P : Nat} {S : xSt} (hS : xWF S) {rec_2 : Nat → Nat → Nat → Int32 → xDt → Option (Int32 × xDt)} (hrec_2 : ∀ {v0 : Nat} {v1 : Nat} {v2 : Nat} {v3 : Int32} {D : xDt} {r : Int32 × xDt}, xK S v0 1 → xK S v1 10 → xK S v2 3 → rec_2 v0 v1 v2 v3 D = some r → yEx md_X1_pair 5 2 [(0, .ref v0), (1, .ref v1), (2, .ref v2), (3, .int v3)] [] S D (xQi S r)) {v0 : Nat} {v1 : Nat} {v2 : Nat} {v3 : Int32} {D : xDt} {r : Int32 × xDt} (k0 : xK S v0 1) (k1 : xK S v1 10) (k2 : xK S v2 3) (h : f_X1_pair_2s F P S rec_2 v0 v1 v2 v3 D = some r) : yEx md_X1_pair 5 2 [(0, .ref v0), (1, .ref v1), (2, .ref v2), (3, .int v3)] [] S D (xQi S r) := by
  unfold f_X1_pair_2s at h
  refine x_iload_n dX1_pair_2 3 rfl ?_
  refine x_aload_n dX1_pair_3 0 rfl ?_
  refine y_geti fl_RX1_34 dX1_pair_4 rfl k0 ?_
  refine x_icmp_ge 36 dX1_pair_7 (by decide) (fun c => ?_) (fun c => ?_)
  · rw [if_pos c] at h
    refine x_iconst 0 dX1_pair_36 (by decide) ?_
    refine y_istore_n 0 rfl [(3, .int 0), (0, .ref v0), (1, .ref v1), (2, .ref v2)] dX1_pair_37 (by show _ < 6; decide) rfl ?_
    refine x_iconst 0 dX1_pair_38 (by decide) ?_
    refine y_istore 0 rfl [(4, .int 0), (3, .int 0), (0, .ref v0), (1, .ref v1), (2, .ref v2)] dX1_pair_39 (by show _ < 6; decide) rfl ?_
    refine x_lv (lv' := [(0, .ref v0), (1, .ref v1), (3, .int 0), (4, .int 0)]) [2, 3, 1, 0] rfl ?_
    exact t_X1_pair_41 hS F k0 k1 h
  · rw [if_neg c] at h
    refine x_aload_n dX1_pair_10 0 rfl ?_
    refine y_getr (kd := 101) hS fl_RX1_21 dX1_pair_11 rfl k0 ?_
    refine x_iload_n dX1_pair_14 3 rfl ?_
    refine x_aload_n dX1_pair_15 2 rfl ?_
    refine x_aload_n dX1_pair_16 0 rfl ?_
    refine y_getr (kd := 202) hS fl_RX1_13 dX1_pair_17 rfl k0 ?_
    refine x_iload_n dX1_pair_20 3 rfl ?_
    refine x_bipush 9 dX1_pair_21 (by decide) ?_
    refine x_imul dX1_pair_23 ?_
    refine xgrd_e h (fun g1 h => ?_)
    refine y_aald hS dX1_pair_24 ((hS.f k0 1 202 rfl).2) (by decide) g1 ?_
    refine x_aload_n dX1_pair_25 1 rfl ?_
    refine xbnd_e h (fun q2 e2 h => ?_)
    refine y_callVl (As := [.ref (xr S (xr S v0 1) (v3 * 9).toNatClampNeg), .ref v1]) (q := q2) cv_RX1_49 dX1_pair_26 k2 rfl (Nat.le_of_ble_eq_true rfl) (by omega) (S_X3_where hS k2 ((hS.e ((hS.f k0 1 202 rfl).2) (by decide) (xin_lt g1)).2) k1 e2) ?_
    refine xgrd_e h (fun g3 h => ?_)
    refine xlet_e h (fun D4 eD4 h => ?_)
    refine y_last dX1_pair_29 ((hS.f k0 3 101 rfl).2) g3 eD4 ?_
    refine xlet_e h (fun v3_5 ev3_5 h => ?_)
    refine y_iinc v3_5 ev3_5 (by decide) [(3, .int v3_5), (0, .ref v0), (1, .ref v1), (2, .ref v2)] dX1_pair_30 3 rfl (by show _ < 6; decide) rfl ?_
    refine x_goto 2 dX1_pair_33 (by decide) ?_
    refine x_lv (lv' := [(0, .ref v0), (1, .ref v1), (2, .ref v2), (3, .int v3_5)]) [1, 2, 3, 0] rfl ?_
    exact hrec_2 k0 k1 k2 h
theorem t_X1_pair_2 {F P : Nat} {S : xSt} (hS : xWF S) : ∀ (n : Nat) {v0 : Nat} {v1 : Nat} {v2 : Nat} {v3 : Int32} {D : xDt} {r : Int32 × xDt}, xK S v0 1 → xK S v1 10 → xK S v2 3 → f_X1_pair_2 F P S n v0 v1 v2 v3 D = some r → yEx md_X1_pair 5 2 [(0, .ref v0), (1, .ref v1), (2, .ref v2), (3, .int v3)] [] S D (xQi S r) := by
  intro n
  induction n with
  | zero => intros; rename_i h; cases h
  | succ n ih =>
    intro v0 v1 v2 v3 D r k0 k1 k2 h
    exact t_X1_pair_2s hS (fun k0 k1 k2 h => ih k0 k1 k2 h) k0 k1 k2 h

def f_X1_pair (F P : Nat) (S : xSt) (v0 : Nat) (v1 : Nat) (v2 : Nat) (D : xDt) : Option (Int32 × xDt) :=
  f_X1_pair_2 F P S F v0 v1 v2 0 D
set_option maxHeartbeats 4000000 in
theorem S_X1_pair {F P : Nat} {S : xSt} (hS : xWF S) {v0 : Nat} {v1 : Nat} {v2 : Nat} {D : xDt} {r : Int32 × xDt} (k0 : xK S v0 1) (k1 : xK S v1 10) (k2 : xK S v2 3) (h : f_X1_pair F P S v0 v1 v2 D = some r) : xSp md_X1_pair (5, 0, 0) [.ref v0, .ref v1, .ref v2] (S, D) (xQi S r) := by
  unfold f_X1_pair at h
  refine xEntry (by decide) (Nat.le_of_ble_eq_true rfl) ?_
  refine x_lv (lv' := [(0, .ref v0), (1, .ref v1), (2, .ref v2)]) [0, 1, 2] rfl ?_
  refine x_iconst 0 dX1_pair_0 (by decide) ?_
  refine y_istore_n 0 rfl [(3, .int 0), (0, .ref v0), (1, .ref v1), (2, .ref v2)] dX1_pair_1 (by show _ < 6; decide) rfl ?_
  refine x_lv (lv' := [(0, .ref v0), (1, .ref v1), (2, .ref v2), (3, .int 0)]) [1, 2, 3, 0] rfl ?_
  exact t_X1_pair_2 hS F k0 k1 k2 h

theorem dX1_pairsOf_0 : decode cX1_pairsOf 0 = .ok (.lconst 0, 1) := by decide +kernel
theorem dX1_pairsOf_1 : decode cX1_pairsOf 1 = .ok (.lstore_n 3, 1) := by decide +kernel
theorem dX1_pairsOf_2 : decode cX1_pairsOf 2 = .ok (.iconst 0, 1) := by decide +kernel
theorem dX1_pairsOf_3 : decode cX1_pairsOf 3 = .ok (.istore 5, 2) := by decide +kernel
theorem dX1_pairsOf_5 : decode cX1_pairsOf 5 = .ok (.iload 5, 2) := by decide +kernel
theorem dX1_pairsOf_7 : decode cX1_pairsOf 7 = .ok (.iload_n 2, 1) := by decide +kernel
theorem dX1_pairsOf_8 : decode cX1_pairsOf 8 = .ok (.if_icmp .ge 27, 3) := by decide +kernel
theorem dX1_pairsOf_11 : decode cX1_pairsOf 11 = .ok (.lload_n 3, 1) := by decide +kernel
theorem dX1_pairsOf_12 : decode cX1_pairsOf 12 = .ok (.iload_n 1, 1) := by decide +kernel
theorem dX1_pairsOf_13 : decode cX1_pairsOf 13 = .ok (.aload_n 0, 1) := by decide +kernel
theorem dX1_pairsOf_14 : decode cX1_pairsOf 14 = .ok (.getfield 28, 3) := by decide +kernel
theorem dX1_pairsOf_17 : decode cX1_pairsOf 17 = .ok (.iload 5, 2) := by decide +kernel
theorem dX1_pairsOf_19 : decode cX1_pairsOf 19 = .ok (.iaload, 1) := by decide +kernel
theorem dX1_pairsOf_20 : decode cX1_pairsOf 20 = .ok (.ishr, 1) := by decide +kernel
theorem dX1_pairsOf_21 : decode cX1_pairsOf 21 = .ok (.iconst 1, 1) := by decide +kernel
theorem dX1_pairsOf_22 : decode cX1_pairsOf 22 = .ok (.iand, 1) := by decide +kernel
theorem dX1_pairsOf_23 : decode cX1_pairsOf 23 = .ok (.i2l, 1) := by decide +kernel
theorem dX1_pairsOf_24 : decode cX1_pairsOf 24 = .ok (.iload 5, 2) := by decide +kernel
theorem dX1_pairsOf_26 : decode cX1_pairsOf 26 = .ok (.lshl, 1) := by decide +kernel
theorem dX1_pairsOf_27 : decode cX1_pairsOf 27 = .ok (.lor, 1) := by decide +kernel
theorem dX1_pairsOf_28 : decode cX1_pairsOf 28 = .ok (.lstore_n 3, 1) := by decide +kernel
theorem dX1_pairsOf_29 : decode cX1_pairsOf 29 = .ok (.iinc 5 1, 3) := by decide +kernel
theorem dX1_pairsOf_32 : decode cX1_pairsOf 32 = .ok (.goto (-27), 3) := by decide +kernel
theorem dX1_pairsOf_35 : decode cX1_pairsOf 35 = .ok (.lload_n 3, 1) := by decide +kernel
theorem dX1_pairsOf_36 : decode cX1_pairsOf 36 = .ok (.lreturn, 1) := by decide +kernel
def f_X1_pairsOf_5s (F P : Nat) (S : xSt) (rec_5 : Nat → Int32 → Int32 → Int64 → Int32 → xDt → Option (Int64 × xDt)) (v0 : Nat) (v1 : Int32) (v2 : Int32) (v3 : Int64) (v5 : Int32) (D : xDt) : Option (Int64 × xDt) :=
  if v2 ≤ v5 then (some (v3, D)) else (xgrd (xin v5 (xl S (xr S v0 5))) (xlet (v3 ||| (jlshl (((jishr v1 (D.1 (xr S v0 5) (v5).toNatClampNeg)) &&& 1).toInt64) v5)) fun v3_2 => xlet (v5 + 1) fun v5_3 => rec_5 v0 v1 v2 v3_2 v5_3 D))
def f_X1_pairsOf_5 (F P : Nat) (S : xSt) : Nat → Nat → Int32 → Int32 → Int64 → Int32 → xDt → Option (Int64 × xDt)
  | 0 => fun _ _ _ _ _ _ => none
  | n + 1 => f_X1_pairsOf_5s F P S (f_X1_pairsOf_5 F P S n)
set_option maxHeartbeats 4000000 in
theorem t_X1_pairsOf_5s {F P : Nat} {S : xSt} (hS : xWF S) {rec_5 : Nat → Int32 → Int32 → Int64 → Int32 → xDt → Option (Int64 × xDt)} (hrec_5 : ∀ {v0 : Nat} {v1 : Int32} {v2 : Int32} {v3 : Int64} {v5 : Int32} {D : xDt} {r : Int64 × xDt}, xK S v0 1 → rec_5 v0 v1 v2 v3 v5 D = some r → yEx md_X1_pairsOf 0 5 [(0, .ref v0), (1, .int v1), (2, .int v2), (3, .long v3), (5, .int v5)] [] S D (xQl S r)) {v0 : Nat} {v1 : Int32} {v2 : Int32} {v3 : Int64} {v5 : Int32} {D : xDt} {r : Int64 × xDt} (k0 : xK S v0 1) (h : f_X1_pairsOf_5s F P S rec_5 v0 v1 v2 v3 v5 D = some r) : yEx md_X1_pairsOf 0 5 [(0, .ref v0), (1, .int v1), (2, .int v2), (3, .long v3), (5, .int v5)] [] S D (xQl S r) := by
  unfold f_X1_pairsOf_5s at h
  refine x_iload dX1_pairsOf_5 4 rfl ?_
  refine x_iload_n dX1_pairsOf_7 2 rfl ?_
  refine x_icmp_ge 35 dX1_pairsOf_8 (by decide) (fun c => ?_) (fun c => ?_)
  · rw [if_pos c] at h
    refine x_lload_n dX1_pairsOf_35 3 rfl ?_
    obtain rfl := Option.some.inj h
    exact y_lret rfl dX1_pairsOf_36
  · rw [if_neg c] at h
    refine x_lload_n dX1_pairsOf_11 3 rfl ?_
    refine x_iload_n dX1_pairsOf_12 1 rfl ?_
    refine x_aload_n dX1_pairsOf_13 0 rfl ?_
    refine y_getr (kd := 100) hS fl_RX1_28 dX1_pairsOf_14 rfl k0 ?_
    refine x_iload dX1_pairsOf_17 4 rfl ?_
    refine xgrd_e h (fun g1 h => ?_)
    refine y_iald dX1_pairsOf_19 ((hS.f k0 5 100 rfl).2) g1 ?_
    refine x_ishr dX1_pairsOf_20 ?_
    refine x_iconst 1 dX1_pairsOf_21 (by decide) ?_
    refine x_iand dX1_pairsOf_22 ?_
    refine x_i2l dX1_pairsOf_23 ?_
    refine x_iload dX1_pairsOf_24 4 rfl ?_
    refine x_lshl dX1_pairsOf_26 ?_
    refine x_lor dX1_pairsOf_27 ?_
    refine xlet_e h (fun v3_2 ev3_2 h => ?_)
    refine y_lstore_n v3_2 ev3_2 [(3, .long v3_2), (0, .ref v0), (1, .int v1), (2, .int v2), (5, .int v5)] dX1_pairsOf_28 (by show _ < 6; decide) rfl ?_
    refine xlet_e h (fun v5_3 ev5_3 h => ?_)
    refine y_iinc v5_3 ev5_3 (by decide) [(5, .int v5_3), (3, .long v3_2), (0, .ref v0), (1, .int v1), (2, .int v2)] dX1_pairsOf_29 4 rfl (by show _ < 6; decide) rfl ?_
    refine x_goto 5 dX1_pairsOf_32 (by decide) ?_
    refine x_lv (lv' := [(0, .ref v0), (1, .int v1), (2, .int v2), (3, .long v3_2), (5, .int v5_3)]) [2, 3, 4, 1, 0] rfl ?_
    exact hrec_5 k0 h
theorem t_X1_pairsOf_5 {F P : Nat} {S : xSt} (hS : xWF S) : ∀ (n : Nat) {v0 : Nat} {v1 : Int32} {v2 : Int32} {v3 : Int64} {v5 : Int32} {D : xDt} {r : Int64 × xDt}, xK S v0 1 → f_X1_pairsOf_5 F P S n v0 v1 v2 v3 v5 D = some r → yEx md_X1_pairsOf 0 5 [(0, .ref v0), (1, .int v1), (2, .int v2), (3, .long v3), (5, .int v5)] [] S D (xQl S r) := by
  intro n
  induction n with
  | zero => intros; rename_i h; cases h
  | succ n ih =>
    intro v0 v1 v2 v3 v5 D r k0 h
    exact t_X1_pairsOf_5s hS (fun k0 h => ih k0 h) k0 h

def f_X1_pairsOf (F P : Nat) (S : xSt) (v0 : Nat) (v1 : Int32) (v2 : Int32) (D : xDt) : Option (Int64 × xDt) :=
  f_X1_pairsOf_5 F P S F v0 v1 v2 0 0 D
set_option maxHeartbeats 4000000 in
theorem S_X1_pairsOf {F P : Nat} {S : xSt} (hS : xWF S) {v0 : Nat} {v1 : Int32} {v2 : Int32} {D : xDt} {r : Int64 × xDt} (k0 : xK S v0 1) (h : f_X1_pairsOf F P S v0 v1 v2 D = some r) : xSp md_X1_pairsOf (0, 0, 0) [.ref v0, .int v1, .int v2] (S, D) (xQl S r) := by
  unfold f_X1_pairsOf at h
  refine xEntry (by decide) (Nat.le_of_ble_eq_true rfl) ?_
  refine x_lv (lv' := [(0, .ref v0), (1, .int v1), (2, .int v2)]) [0, 1, 2] rfl ?_
  refine x_lconst 0 dX1_pairsOf_0 (by decide) ?_
  refine y_lstore_n 0 rfl [(3, .long 0), (0, .ref v0), (1, .int v1), (2, .int v2)] dX1_pairsOf_1 (by show _ < 6; decide) rfl ?_
  refine x_iconst 0 dX1_pairsOf_2 (by decide) ?_
  refine y_istore 0 rfl [(5, .int 0), (3, .long 0), (0, .ref v0), (1, .int v1), (2, .int v2)] dX1_pairsOf_3 (by show _ < 6; decide) rfl ?_
  refine x_lv (lv' := [(0, .ref v0), (1, .int v1), (2, .int v2), (3, .long 0), (5, .int 0)]) [2, 3, 4, 1, 0] rfl ?_
  exact t_X1_pairsOf_5 hS F k0 h

theorem dX1_narrowCells_0 : decode cX1_narrowCells 0 = .ok (.iconst 0, 1) := by decide +kernel
theorem dX1_narrowCells_1 : decode cX1_narrowCells 1 = .ok (.istore_n 2, 1) := by decide +kernel
theorem dX1_narrowCells_2 : decode cX1_narrowCells 2 = .ok (.iload_n 2, 1) := by decide +kernel
theorem dX1_narrowCells_3 : decode cX1_narrowCells 3 = .ok (.iconst 4, 1) := by decide +kernel
theorem dX1_narrowCells_4 : decode cX1_narrowCells 4 = .ok (.if_icmp .ge 67, 3) := by decide +kernel
theorem dX1_narrowCells_7 : decode cX1_narrowCells 7 = .ok (.iconst 0, 1) := by decide +kernel
theorem dX1_narrowCells_8 : decode cX1_narrowCells 8 = .ok (.istore_n 3, 1) := by decide +kernel
theorem dX1_narrowCells_9 : decode cX1_narrowCells 9 = .ok (.iload_n 3, 1) := by decide +kernel
theorem dX1_narrowCells_10 : decode cX1_narrowCells 10 = .ok (.aload_n 1, 1) := by decide +kernel
theorem dX1_narrowCells_11 : decode cX1_narrowCells 11 = .ok (.getfield 54, 3) := by decide +kernel
theorem dX1_narrowCells_14 : decode cX1_narrowCells 14 = .ok (.if_icmp .ge 51, 3) := by decide +kernel
theorem dX1_narrowCells_17 : decode cX1_narrowCells 17 = .ok (.aload_n 0, 1) := by decide +kernel
theorem dX1_narrowCells_18 : decode cX1_narrowCells 18 = .ok (.getfield 17, 3) := by decide +kernel
theorem dX1_narrowCells_21 : decode cX1_narrowCells 21 = .ok (.iload_n 2, 1) := by decide +kernel
theorem dX1_narrowCells_22 : decode cX1_narrowCells 22 = .ok (.bipush 8, 2) := by decide +kernel
theorem dX1_narrowCells_24 : decode cX1_narrowCells 24 = .ok (.imul, 1) := by decide +kernel
theorem dX1_narrowCells_25 : decode cX1_narrowCells 25 = .ok (.aload_n 0, 1) := by decide +kernel
theorem dX1_narrowCells_26 : decode cX1_narrowCells 26 = .ok (.getfield 28, 3) := by decide +kernel
theorem dX1_narrowCells_29 : decode cX1_narrowCells 29 = .ok (.iload_n 3, 1) := by decide +kernel
theorem dX1_narrowCells_30 : decode cX1_narrowCells 30 = .ok (.iaload, 1) := by decide +kernel
theorem dX1_narrowCells_31 : decode cX1_narrowCells 31 = .ok (.iadd, 1) := by decide +kernel
theorem dX1_narrowCells_32 : decode cX1_narrowCells 32 = .ok (.iaload, 1) := by decide +kernel
theorem dX1_narrowCells_33 : decode cX1_narrowCells 33 = .ok (.istore 4, 2) := by decide +kernel
theorem dX1_narrowCells_35 : decode cX1_narrowCells 35 = .ok (.aload_n 1, 1) := by decide +kernel
theorem dX1_narrowCells_36 : decode cX1_narrowCells 36 = .ok (.getfield 57, 3) := by decide +kernel
theorem dX1_narrowCells_39 : decode cX1_narrowCells 39 = .ok (.iload_n 2, 1) := by decide +kernel
theorem dX1_narrowCells_40 : decode cX1_narrowCells 40 = .ok (.bipush 64, 2) := by decide +kernel
theorem dX1_narrowCells_42 : decode cX1_narrowCells 42 = .ok (.imul, 1) := by decide +kernel
theorem dX1_narrowCells_43 : decode cX1_narrowCells 43 = .ok (.iload_n 3, 1) := by decide +kernel
theorem dX1_narrowCells_44 : decode cX1_narrowCells 44 = .ok (.iadd, 1) := by decide +kernel
theorem dX1_narrowCells_45 : decode cX1_narrowCells 45 = .ok (.dup2, 1) := by decide +kernel
theorem dX1_narrowCells_46 : decode cX1_narrowCells 46 = .ok (.laload, 1) := by decide +kernel
theorem dX1_narrowCells_47 : decode cX1_narrowCells 47 = .ok (.aload_n 0, 1) := by decide +kernel
theorem dX1_narrowCells_48 : decode cX1_narrowCells 48 = .ok (.iload 4, 2) := by decide +kernel
theorem dX1_narrowCells_50 : decode cX1_narrowCells 50 = .ok (.aload_n 1, 1) := by decide +kernel
theorem dX1_narrowCells_51 : decode cX1_narrowCells 51 = .ok (.getfield 54, 3) := by decide +kernel
theorem dX1_narrowCells_54 : decode cX1_narrowCells 54 = .ok (.invokevirtual 59, 3) := by decide +kernel
theorem dX1_narrowCells_57 : decode cX1_narrowCells 57 = .ok (.land, 1) := by decide +kernel
theorem dX1_narrowCells_58 : decode cX1_narrowCells 58 = .ok (.lastore, 1) := by decide +kernel
theorem dX1_narrowCells_59 : decode cX1_narrowCells 59 = .ok (.iinc 3 1, 3) := by decide +kernel
theorem dX1_narrowCells_62 : decode cX1_narrowCells 62 = .ok (.goto (-53), 3) := by decide +kernel
theorem dX1_narrowCells_65 : decode cX1_narrowCells 65 = .ok (.iinc 2 1, 3) := by decide +kernel
theorem dX1_narrowCells_68 : decode cX1_narrowCells 68 = .ok (.goto (-66), 3) := by decide +kernel
theorem dX1_narrowCells_71 : decode cX1_narrowCells 71 = .ok (.return_, 1) := by decide +kernel
def f_X1_narrowCells_9s (F P : Nat) (S : xSt) (rec_2 : Nat → Nat → Int32 → xDt → Option (xDt)) (rec_9 : Nat → Nat → Int32 → Int32 → xDt → Option (xDt)) (v0 : Nat) (v1 : Nat) (v2 : Int32) (v3 : Int32) (D : xDt) : Option (xDt) :=
  if (D.1 v1 0) ≤ v3 then (xlet (v2 + 1) fun v2_1 => rec_2 v0 v1 v2_1 D) else (xgrd (xin v3 (xl S (xr S v0 5))) (xgrd (xin ((v2 * 8) + (D.1 (xr S v0 5) (v3).toNatClampNeg)) (xl S (xr S v0 2))) (xlet (D.1 (xr S v0 2) ((v2 * 8) + (D.1 (xr S v0 5) (v3).toNatClampNeg)).toNatClampNeg) fun v4_4 => xgrd (xin ((v2 * 64) + v3) (xl S (xr S v1 2))) ((f_X1_pairsOf F P S v0 v4_4 (D.1 v1 0) D).bind fun q6 => xgrd (xin ((v2 * 64) + v3) (xl S (xr S v1 2))) (xlet (q6.2.1, xup q6.2.2 (xr S v1 2) ((v2 * 64) + v3).toNatClampNeg ((D.2 (xr S v1 2) ((v2 * 64) + v3).toNatClampNeg) &&& q6.1)) fun D8 => xlet (v3 + 1) fun v3_9 => rec_9 v0 v1 v2 v3_9 D8)))))
def f_X1_narrowCells_9 (F P : Nat) (S : xSt) (rec_2 : Nat → Nat → Int32 → xDt → Option (xDt)) : Nat → Nat → Nat → Int32 → Int32 → xDt → Option (xDt)
  | 0 => fun _ _ _ _ _ => none
  | n + 1 => f_X1_narrowCells_9s F P S rec_2 (f_X1_narrowCells_9 F P S rec_2 n)
set_option maxHeartbeats 4000000 in
theorem t_X1_narrowCells_9s {F P : Nat} {S : xSt} (hS : xWF S) {rec_2 : Nat → Nat → Int32 → xDt → Option (xDt)} (hrec_2 : ∀ {v0 : Nat} {v1 : Nat} {v2 : Int32} {D : xDt} {r : xDt}, xK S v0 1 → xK S v1 10 → rec_2 v0 v1 v2 D = some r → yEx md_X1_narrowCells 1 2 [(0, .ref v0), (1, .ref v1), (2, .int v2)] [] S D (xQv S r)) {rec_9 : Nat → Nat → Int32 → Int32 → xDt → Option (xDt)} (hrec_9 : ∀ {v0 : Nat} {v1 : Nat} {v2 : Int32} {v3 : Int32} {D : xDt} {r : xDt}, xK S v0 1 → xK S v1 10 → rec_9 v0 v1 v2 v3 D = some r → yEx md_X1_narrowCells 1 9 [(0, .ref v0), (1, .ref v1), (2, .int v2), (3, .int v3)] [] S D (xQv S r)) {v0 : Nat} {v1 : Nat} {v2 : Int32} {v3 : Int32} {D : xDt} {r : xDt} (k0 : xK S v0 1) (k1 : xK S v1 10) (h : f_X1_narrowCells_9s F P S rec_2 rec_9 v0 v1 v2 v3 D = some r) : yEx md_X1_narrowCells 1 9 [(0, .ref v0), (1, .ref v1), (2, .int v2), (3, .int v3)] [] S D (xQv S r) := by
  unfold f_X1_narrowCells_9s at h
  refine x_iload_n dX1_narrowCells_9 3 rfl ?_
  refine x_aload_n dX1_narrowCells_10 1 rfl ?_
  refine y_geti fl_RX1_54 dX1_narrowCells_11 rfl k1 ?_
  refine x_icmp_ge 65 dX1_narrowCells_14 (by decide) (fun c => ?_) (fun c => ?_)
  · rw [if_pos c] at h
    refine xlet_e h (fun v2_1 ev2_1 h => ?_)
    refine y_iinc v2_1 ev2_1 (by decide) [(2, .int v2_1), (0, .ref v0), (1, .ref v1), (3, .int v3)] dX1_narrowCells_65 2 rfl (by show _ < 5; decide) rfl ?_
    refine x_goto 2 dX1_narrowCells_68 (by decide) ?_
    refine x_lv (lv' := [(0, .ref v0), (1, .ref v1), (2, .int v2_1)]) [1, 2, 0] rfl ?_
    exact hrec_2 k0 k1 h
  · rw [if_neg c] at h
    refine x_aload_n dX1_narrowCells_17 0 rfl ?_
    refine y_getr (kd := 100) hS fl_RX1_17 dX1_narrowCells_18 rfl k0 ?_
    refine x_iload_n dX1_narrowCells_21 2 rfl ?_
    refine x_bipush 8 dX1_narrowCells_22 (by decide) ?_
    refine x_imul dX1_narrowCells_24 ?_
    refine x_aload_n dX1_narrowCells_25 0 rfl ?_
    refine y_getr (kd := 100) hS fl_RX1_28 dX1_narrowCells_26 rfl k0 ?_
    refine x_iload_n dX1_narrowCells_29 3 rfl ?_
    refine xgrd_e h (fun g2 h => ?_)
    refine y_iald dX1_narrowCells_30 ((hS.f k0 5 100 rfl).2) g2 ?_
    refine x_iadd dX1_narrowCells_31 ?_
    refine xgrd_e h (fun g3 h => ?_)
    refine y_iald dX1_narrowCells_32 ((hS.f k0 2 100 rfl).2) g3 ?_
    refine xlet_e h (fun v4_4 ev4_4 h => ?_)
    refine y_istore v4_4 ev4_4 [(4, .int v4_4), (0, .ref v0), (1, .ref v1), (2, .int v2), (3, .int v3)] dX1_narrowCells_33 (by show _ < 5; decide) rfl ?_
    refine x_aload_n dX1_narrowCells_35 2 rfl ?_
    refine y_getr (kd := 101) hS fl_RX1_57 dX1_narrowCells_36 rfl k1 ?_
    refine x_iload_n dX1_narrowCells_39 3 rfl ?_
    refine x_bipush 64 dX1_narrowCells_40 (by decide) ?_
    refine x_imul dX1_narrowCells_42 ?_
    refine x_iload_n dX1_narrowCells_43 4 rfl ?_
    refine x_iadd dX1_narrowCells_44 ?_
    refine x_dup2 dX1_narrowCells_45 rfl rfl ?_
    refine xgrd_e h (fun g5 h => ?_)
    refine y_lald dX1_narrowCells_46 ((hS.f k1 2 101 rfl).2) g5 ?_
    refine x_aload_n dX1_narrowCells_47 1 rfl ?_
    refine x_iload dX1_narrowCells_48 0 rfl ?_
    refine x_aload_n dX1_narrowCells_50 2 rfl ?_
    refine y_geti fl_RX1_54 dX1_narrowCells_51 rfl k1 ?_
    refine xbnd_e h (fun q6 e6 h => ?_)
    refine y_callVl (As := [.int v4_4, .int (D.1 v1 0)]) (q := q6) cv_RX1_59 dX1_narrowCells_54 k0 rfl (Nat.le_of_ble_eq_true rfl) (by omega) (S_X1_pairsOf hS k0 e6) ?_
    refine x_land dX1_narrowCells_57 ?_
    refine xgrd_e h (fun g7 h => ?_)
    refine xlet_e h (fun D8 eD8 h => ?_)
    refine y_last dX1_narrowCells_58 ((hS.f k1 2 101 rfl).2) g7 eD8 ?_
    refine xlet_e h (fun v3_9 ev3_9 h => ?_)
    refine y_iinc v3_9 ev3_9 (by decide) [(3, .int v3_9), (4, .int v4_4), (0, .ref v0), (1, .ref v1), (2, .int v2)] dX1_narrowCells_59 4 rfl (by show _ < 5; decide) rfl ?_
    refine x_goto 9 dX1_narrowCells_62 (by decide) ?_
    refine x_lv (lv' := [(0, .ref v0), (1, .ref v1), (2, .int v2), (3, .int v3_9)]) [2, 3, 4, 0] rfl ?_
    exact hrec_9 k0 k1 h
theorem t_X1_narrowCells_9 {F P : Nat} {S : xSt} (hS : xWF S) {rec_2 : Nat → Nat → Int32 → xDt → Option (xDt)} (hrec_2 : ∀ {v0 : Nat} {v1 : Nat} {v2 : Int32} {D : xDt} {r : xDt}, xK S v0 1 → xK S v1 10 → rec_2 v0 v1 v2 D = some r → yEx md_X1_narrowCells 1 2 [(0, .ref v0), (1, .ref v1), (2, .int v2)] [] S D (xQv S r)) : ∀ (n : Nat) {v0 : Nat} {v1 : Nat} {v2 : Int32} {v3 : Int32} {D : xDt} {r : xDt}, xK S v0 1 → xK S v1 10 → f_X1_narrowCells_9 F P S rec_2 n v0 v1 v2 v3 D = some r → yEx md_X1_narrowCells 1 9 [(0, .ref v0), (1, .ref v1), (2, .int v2), (3, .int v3)] [] S D (xQv S r) := by
  intro n
  induction n with
  | zero => intros; rename_i h; cases h
  | succ n ih =>
    intro v0 v1 v2 v3 D r k0 k1 h
    exact t_X1_narrowCells_9s hS hrec_2 (fun k0 k1 h => ih k0 k1 h) k0 k1 h

def f_X1_narrowCells_2s (F P : Nat) (S : xSt) (rec_2 : Nat → Nat → Int32 → xDt → Option (xDt)) (v0 : Nat) (v1 : Nat) (v2 : Int32) (D : xDt) : Option (xDt) :=
  if 4 ≤ v2 then (some D) else (f_X1_narrowCells_9 F P S rec_2 F v0 v1 v2 0 D)
def f_X1_narrowCells_2 (F P : Nat) (S : xSt) : Nat → Nat → Nat → Int32 → xDt → Option (xDt)
  | 0 => fun _ _ _ _ => none
  | n + 1 => f_X1_narrowCells_2s F P S (f_X1_narrowCells_2 F P S n)
set_option maxHeartbeats 4000000 in
theorem t_X1_narrowCells_2s {F P : Nat} {S : xSt} (hS : xWF S) {rec_2 : Nat → Nat → Int32 → xDt → Option (xDt)} (hrec_2 : ∀ {v0 : Nat} {v1 : Nat} {v2 : Int32} {D : xDt} {r : xDt}, xK S v0 1 → xK S v1 10 → rec_2 v0 v1 v2 D = some r → yEx md_X1_narrowCells 1 2 [(0, .ref v0), (1, .ref v1), (2, .int v2)] [] S D (xQv S r)) {v0 : Nat} {v1 : Nat} {v2 : Int32} {D : xDt} {r : xDt} (k0 : xK S v0 1) (k1 : xK S v1 10) (h : f_X1_narrowCells_2s F P S rec_2 v0 v1 v2 D = some r) : yEx md_X1_narrowCells 1 2 [(0, .ref v0), (1, .ref v1), (2, .int v2)] [] S D (xQv S r) := by
  unfold f_X1_narrowCells_2s at h
  refine x_iload_n dX1_narrowCells_2 2 rfl ?_
  refine x_iconst 4 dX1_narrowCells_3 (by decide) ?_
  refine x_icmp_ge 71 dX1_narrowCells_4 (by decide) (fun c => ?_) (fun c => ?_)
  · rw [if_pos c] at h
    obtain rfl := Option.some.inj h
    exact y_vret rfl dX1_narrowCells_71
  · rw [if_neg c] at h
    refine x_iconst 0 dX1_narrowCells_7 (by decide) ?_
    refine y_istore_n 0 rfl [(3, .int 0), (0, .ref v0), (1, .ref v1), (2, .int v2)] dX1_narrowCells_8 (by show _ < 5; decide) rfl ?_
    refine x_lv (lv' := [(0, .ref v0), (1, .ref v1), (2, .int v2), (3, .int 0)]) [1, 2, 3, 0] rfl ?_
    exact t_X1_narrowCells_9 hS hrec_2 F k0 k1 h
theorem t_X1_narrowCells_2 {F P : Nat} {S : xSt} (hS : xWF S) : ∀ (n : Nat) {v0 : Nat} {v1 : Nat} {v2 : Int32} {D : xDt} {r : xDt}, xK S v0 1 → xK S v1 10 → f_X1_narrowCells_2 F P S n v0 v1 v2 D = some r → yEx md_X1_narrowCells 1 2 [(0, .ref v0), (1, .ref v1), (2, .int v2)] [] S D (xQv S r) := by
  intro n
  induction n with
  | zero => intros; rename_i h; cases h
  | succ n ih =>
    intro v0 v1 v2 D r k0 k1 h
    exact t_X1_narrowCells_2s hS (fun k0 k1 h => ih k0 k1 h) k0 k1 h

def f_X1_narrowCells (F P : Nat) (S : xSt) (v0 : Nat) (v1 : Nat) (D : xDt) : Option (xDt) :=
  f_X1_narrowCells_2 F P S F v0 v1 0 D
set_option maxHeartbeats 4000000 in
theorem S_X1_narrowCells {F P : Nat} {S : xSt} (hS : xWF S) {v0 : Nat} {v1 : Nat} {D : xDt} {r : xDt} (k0 : xK S v0 1) (k1 : xK S v1 10) (h : f_X1_narrowCells F P S v0 v1 D = some r) : xSp md_X1_narrowCells (1, 0, 0) [.ref v0, .ref v1] (S, D) (xQv S r) := by
  unfold f_X1_narrowCells at h
  refine xEntry (by decide) (Nat.le_of_ble_eq_true rfl) ?_
  refine x_lv (lv' := [(0, .ref v0), (1, .ref v1)]) [0, 1] rfl ?_
  refine x_iconst 0 dX1_narrowCells_0 (by decide) ?_
  refine y_istore_n 0 rfl [(2, .int 0), (0, .ref v0), (1, .ref v1)] dX1_narrowCells_1 (by show _ < 5; decide) rfl ?_
  refine x_lv (lv' := [(0, .ref v0), (1, .ref v1), (2, .int 0)]) [1, 2, 0] rfl ?_
  exact t_X1_narrowCells_2 hS F k0 k1 h

theorem dX10_setAtom_0 : decode cX10_setAtom 0 = .ok (.lconst 1, 1) := by decide +kernel
theorem dX10_setAtom_1 : decode cX10_setAtom 1 = .ok (.iload_n 1, 1) := by decide +kernel
theorem dX10_setAtom_2 : decode cX10_setAtom 2 = .ok (.lshl, 1) := by decide +kernel
theorem dX10_setAtom_3 : decode cX10_setAtom 3 = .ok (.lstore 4, 2) := by decide +kernel
theorem dX10_setAtom_5 : decode cX10_setAtom 5 = .ok (.aload_n 0, 1) := by decide +kernel
theorem dX10_setAtom_6 : decode cX10_setAtom 6 = .ok (.getfield 9, 3) := by decide +kernel
theorem dX10_setAtom_9 : decode cX10_setAtom 9 = .ok (.iload_n 2, 1) := by decide +kernel
theorem dX10_setAtom_10 : decode cX10_setAtom 10 = .ok (.iload_n 3, 1) := by decide +kernel
theorem dX10_setAtom_11 : decode cX10_setAtom 11 = .ok (.ifCond .eq 15, 3) := by decide +kernel
theorem dX10_setAtom_14 : decode cX10_setAtom 14 = .ok (.aload_n 0, 1) := by decide +kernel
theorem dX10_setAtom_15 : decode cX10_setAtom 15 = .ok (.getfield 9, 3) := by decide +kernel
theorem dX10_setAtom_18 : decode cX10_setAtom 18 = .ok (.iload_n 2, 1) := by decide +kernel
theorem dX10_setAtom_19 : decode cX10_setAtom 19 = .ok (.laload, 1) := by decide +kernel
theorem dX10_setAtom_20 : decode cX10_setAtom 20 = .ok (.lload 4, 2) := by decide +kernel
theorem dX10_setAtom_22 : decode cX10_setAtom 22 = .ok (.lor, 1) := by decide +kernel
theorem dX10_setAtom_23 : decode cX10_setAtom 23 = .ok (.goto 16, 3) := by decide +kernel
theorem dX10_setAtom_26 : decode cX10_setAtom 26 = .ok (.aload_n 0, 1) := by decide +kernel
theorem dX10_setAtom_27 : decode cX10_setAtom 27 = .ok (.getfield 9, 3) := by decide +kernel
theorem dX10_setAtom_30 : decode cX10_setAtom 30 = .ok (.iload_n 2, 1) := by decide +kernel
theorem dX10_setAtom_31 : decode cX10_setAtom 31 = .ok (.laload, 1) := by decide +kernel
theorem dX10_setAtom_32 : decode cX10_setAtom 32 = .ok (.lload 4, 2) := by decide +kernel
theorem dX10_setAtom_34 : decode cX10_setAtom 34 = .ok (.ldc2_w 22, 3) := by decide +kernel
theorem dX10_setAtom_37 : decode cX10_setAtom 37 = .ok (.lxor, 1) := by decide +kernel
theorem dX10_setAtom_38 : decode cX10_setAtom 38 = .ok (.land, 1) := by decide +kernel
theorem dX10_setAtom_39 : decode cX10_setAtom 39 = .ok (.lastore, 1) := by decide +kernel
theorem dX10_setAtom_40 : decode cX10_setAtom 40 = .ok (.return_, 1) := by decide +kernel
def f_X10_setAtom (F P : Nat) (S : xSt) (v0 : Nat) (v1 : Int32) (v2 : Int32) (v3 : Int32) (D : xDt) : Option (xDt) :=
  xlet (jlshl 1 v1) fun v4_1 => if v3 = 0 then (xgrd (xin v2 (xl S (xr S v0 1))) (xgrd (xin v2 (xl S (xr S v0 1))) (xlet (D.1, xup D.2 (xr S v0 1) (v2).toNatClampNeg ((D.2 (xr S v0 1) (v2).toNatClampNeg) &&& (v4_1 ^^^ (-1)))) fun D4 => some D4))) else (xgrd (xin v2 (xl S (xr S v0 1))) (xgrd (xin v2 (xl S (xr S v0 1))) (xlet (D.1, xup D.2 (xr S v0 1) (v2).toNatClampNeg ((D.2 (xr S v0 1) (v2).toNatClampNeg) ||| v4_1)) fun D7 => some D7)))
set_option maxHeartbeats 4000000 in
theorem S_X10_setAtom {F P : Nat} {S : xSt} (hS : xWF S) {v0 : Nat} {v1 : Int32} {v2 : Int32} {v3 : Int32} {D : xDt} {r : xDt} (k0 : xK S v0 10) (h : f_X10_setAtom F P S v0 v1 v2 v3 D = some r) : xSp md_X10_setAtom (0, 0, 0) [.ref v0, .int v1, .int v2, .int v3] (S, D) (xQv S r) := by
  unfold f_X10_setAtom at h
  refine xEntry (by decide) (Nat.le_of_ble_eq_true rfl) ?_
  refine x_lv (lv' := [(0, .ref v0), (1, .int v1), (2, .int v2), (3, .int v3)]) [0, 1, 2, 3] rfl ?_
  refine x_lconst 1 dX10_setAtom_0 (by decide) ?_
  refine x_iload_n dX10_setAtom_1 1 rfl ?_
  refine x_lshl dX10_setAtom_2 ?_
  refine xlet_e h (fun v4_1 ev4_1 h => ?_)
  refine y_lstore v4_1 ev4_1 [(4, .long v4_1), (0, .ref v0), (1, .int v1), (2, .int v2), (3, .int v3)] dX10_setAtom_3 (by show _ < 6; decide) rfl ?_
  refine x_aload_n dX10_setAtom_5 1 rfl ?_
  refine y_getr (kd := 101) hS fl_RX10_9 dX10_setAtom_6 rfl k0 ?_
  refine x_iload_n dX10_setAtom_9 3 rfl ?_
  refine x_iload_n dX10_setAtom_10 4 rfl ?_
  refine x_if_eq 26 dX10_setAtom_11 (by decide) (fun c => ?_) (fun c => ?_)
  · rw [if_pos c] at h
    refine x_aload_n dX10_setAtom_26 1 rfl ?_
    refine y_getr (kd := 101) hS fl_RX10_9 dX10_setAtom_27 rfl k0 ?_
    refine x_iload_n dX10_setAtom_30 3 rfl ?_
    refine xgrd_e h (fun g2 h => ?_)
    refine y_lald dX10_setAtom_31 ((hS.f k0 1 101 rfl).2) g2 ?_
    refine x_lload dX10_setAtom_32 0 rfl ?_
    refine x_ldc2 (-1) dX10_setAtom_34 wd_425 ?_
    refine x_lxor dX10_setAtom_37 ?_
    refine x_land dX10_setAtom_38 ?_
    refine xgrd_e h (fun g3 h => ?_)
    refine xlet_e h (fun D4 eD4 h => ?_)
    refine y_last dX10_setAtom_39 ((hS.f k0 1 101 rfl).2) g3 eD4 ?_
    obtain rfl := Option.some.inj h
    exact y_vret rfl dX10_setAtom_40
  · rw [if_neg c] at h
    refine x_aload_n dX10_setAtom_14 1 rfl ?_
    refine y_getr (kd := 101) hS fl_RX10_9 dX10_setAtom_15 rfl k0 ?_
    refine x_iload_n dX10_setAtom_18 3 rfl ?_
    refine xgrd_e h (fun g5 h => ?_)
    refine y_lald dX10_setAtom_19 ((hS.f k0 1 101 rfl).2) g5 ?_
    refine x_lload dX10_setAtom_20 0 rfl ?_
    refine x_lor dX10_setAtom_22 ?_
    refine x_goto 39 dX10_setAtom_23 (by decide) ?_
    refine xgrd_e h (fun g6 h => ?_)
    refine xlet_e h (fun D7 eD7 h => ?_)
    refine y_last dX10_setAtom_39 ((hS.f k0 1 101 rfl).2) g6 eD7 ?_
    obtain rfl := Option.some.inj h
    exact y_vret rfl dX10_setAtom_40

theorem dX1_changeAtom_0 : decode cX1_changeAtom 0 = .ok (.iconst 0, 1) := by decide +kernel
theorem dX1_changeAtom_1 : decode cX1_changeAtom 1 = .ok (.istore 6, 2) := by decide +kernel
theorem dX1_changeAtom_3 : decode cX1_changeAtom 3 = .ok (.iload 6, 2) := by decide +kernel
theorem dX1_changeAtom_5 : decode cX1_changeAtom 5 = .ok (.aload_n 1, 1) := by decide +kernel
theorem dX1_changeAtom_6 : decode cX1_changeAtom 6 = .ok (.getfield 54, 3) := by decide +kernel
theorem dX1_changeAtom_9 : decode cX1_changeAtom 9 = .ok (.if_icmp .ge 49, 3) := by decide +kernel
theorem dX1_changeAtom_12 : decode cX1_changeAtom 12 = .ok (.aload_n 0, 1) := by decide +kernel
theorem dX1_changeAtom_13 : decode cX1_changeAtom 13 = .ok (.getfield 28, 3) := by decide +kernel
theorem dX1_changeAtom_16 : decode cX1_changeAtom 16 = .ok (.iload 6, 2) := by decide +kernel
theorem dX1_changeAtom_18 : decode cX1_changeAtom 18 = .ok (.iaload, 1) := by decide +kernel
theorem dX1_changeAtom_19 : decode cX1_changeAtom 19 = .ok (.iload_n 2, 1) := by decide +kernel
theorem dX1_changeAtom_20 : decode cX1_changeAtom 20 = .ok (.if_icmp .ne 32, 3) := by decide +kernel
theorem dX1_changeAtom_23 : decode cX1_changeAtom 23 = .ok (.aload_n 1, 1) := by decide +kernel
theorem dX1_changeAtom_24 : decode cX1_changeAtom 24 = .ok (.iload 6, 2) := by decide +kernel
theorem dX1_changeAtom_26 : decode cX1_changeAtom 26 = .ok (.iload_n 3, 1) := by decide +kernel
theorem dX1_changeAtom_27 : decode cX1_changeAtom 27 = .ok (.lload 4, 2) := by decide +kernel
theorem dX1_changeAtom_29 : decode cX1_changeAtom 29 = .ok (.aload_n 0, 1) := by decide +kernel
theorem dX1_changeAtom_30 : decode cX1_changeAtom 30 = .ok (.getfield 25, 3) := by decide +kernel
theorem dX1_changeAtom_33 : decode cX1_changeAtom 33 = .ok (.iload 6, 2) := by decide +kernel
theorem dX1_changeAtom_35 : decode cX1_changeAtom 35 = .ok (.iaload, 1) := by decide +kernel
theorem dX1_changeAtom_36 : decode cX1_changeAtom 36 = .ok (.lushr, 1) := by decide +kernel
theorem dX1_changeAtom_37 : decode cX1_changeAtom 37 = .ok (.lconst 1, 1) := by decide +kernel
theorem dX1_changeAtom_38 : decode cX1_changeAtom 38 = .ok (.land, 1) := by decide +kernel
theorem dX1_changeAtom_39 : decode cX1_changeAtom 39 = .ok (.lconst 0, 1) := by decide +kernel
theorem dX1_changeAtom_40 : decode cX1_changeAtom 40 = .ok (.lcmp, 1) := by decide +kernel
theorem dX1_changeAtom_41 : decode cX1_changeAtom 41 = .ok (.ifCond .eq 7, 3) := by decide +kernel
theorem dX1_changeAtom_44 : decode cX1_changeAtom 44 = .ok (.iconst 1, 1) := by decide +kernel
theorem dX1_changeAtom_45 : decode cX1_changeAtom 45 = .ok (.goto 4, 3) := by decide +kernel
theorem dX1_changeAtom_48 : decode cX1_changeAtom 48 = .ok (.iconst 0, 1) := by decide +kernel
theorem dX1_changeAtom_49 : decode cX1_changeAtom 49 = .ok (.invokevirtual 67, 3) := by decide +kernel
theorem dX1_changeAtom_52 : decode cX1_changeAtom 52 = .ok (.iinc 6 1, 3) := by decide +kernel
theorem dX1_changeAtom_55 : decode cX1_changeAtom 55 = .ok (.goto (-52), 3) := by decide +kernel
theorem dX1_changeAtom_58 : decode cX1_changeAtom 58 = .ok (.return_, 1) := by decide +kernel
def f_X1_changeAtom_52 (F P : Nat) (S : xSt) (rec_3 : Nat → Nat → Int32 → Int32 → Int64 → Int32 → xDt → Option (xDt)) (v0 : Nat) (v1 : Nat) (v2 : Int32) (v3 : Int32) (v4 : Int64) (v6 : Int32) (D : xDt) : Option (xDt) :=
  xlet (v6 + 1) fun v6_1 => rec_3 v0 v1 v2 v3 v4 v6_1 D
set_option maxHeartbeats 4000000 in
theorem t_X1_changeAtom_52 {F P : Nat} {S : xSt} (hS : xWF S) {rec_3 : Nat → Nat → Int32 → Int32 → Int64 → Int32 → xDt → Option (xDt)} (hrec_3 : ∀ {v0 : Nat} {v1 : Nat} {v2 : Int32} {v3 : Int32} {v4 : Int64} {v6 : Int32} {D : xDt} {r : xDt}, xK S v0 1 → xK S v1 10 → rec_3 v0 v1 v2 v3 v4 v6 D = some r → yEx md_X1_changeAtom 1 3 [(0, .ref v0), (1, .ref v1), (2, .int v2), (3, .int v3), (4, .long v4), (6, .int v6)] [] S D (xQv S r)) {v0 : Nat} {v1 : Nat} {v2 : Int32} {v3 : Int32} {v4 : Int64} {v6 : Int32} {D : xDt} {r : xDt} (k0 : xK S v0 1) (k1 : xK S v1 10) (h : f_X1_changeAtom_52 F P S rec_3 v0 v1 v2 v3 v4 v6 D = some r) : yEx md_X1_changeAtom 1 52 [(0, .ref v0), (1, .ref v1), (2, .int v2), (3, .int v3), (4, .long v4), (6, .int v6)] [] S D (xQv S r) := by
  unfold f_X1_changeAtom_52 at h
  refine xlet_e h (fun v6_1 ev6_1 h => ?_)
  refine y_iinc v6_1 ev6_1 (by decide) [(6, .int v6_1), (0, .ref v0), (1, .ref v1), (2, .int v2), (3, .int v3), (4, .long v4)] dX1_changeAtom_52 5 rfl (by show _ < 7; decide) rfl ?_
  refine x_goto 3 dX1_changeAtom_55 (by decide) ?_
  refine x_lv (lv' := [(0, .ref v0), (1, .ref v1), (2, .int v2), (3, .int v3), (4, .long v4), (6, .int v6_1)]) [1, 2, 3, 4, 5, 0] rfl ?_
  exact hrec_3 k0 k1 h

def f_X1_changeAtom_49 (F P : Nat) (S : xSt) (rec_3 : Nat → Nat → Int32 → Int32 → Int64 → Int32 → xDt → Option (xDt)) (v0 : Nat) (v1 : Nat) (v2 : Int32) (v3 : Int32) (v4 : Int64) (v6 : Int32) (s0 : Int32) (s1 : Int32) (s2 : Int32) (s3 : Nat) (D : xDt) : Option (xDt) :=
  (f_X10_setAtom F P S s3 s2 s1 s0 D).bind fun q1 => f_X1_changeAtom_52 F P S rec_3 v0 v1 v2 v3 v4 v6 q1
set_option maxHeartbeats 4000000 in
theorem t_X1_changeAtom_49 {F P : Nat} {S : xSt} (hS : xWF S) {rec_3 : Nat → Nat → Int32 → Int32 → Int64 → Int32 → xDt → Option (xDt)} (hrec_3 : ∀ {v0 : Nat} {v1 : Nat} {v2 : Int32} {v3 : Int32} {v4 : Int64} {v6 : Int32} {D : xDt} {r : xDt}, xK S v0 1 → xK S v1 10 → rec_3 v0 v1 v2 v3 v4 v6 D = some r → yEx md_X1_changeAtom 1 3 [(0, .ref v0), (1, .ref v1), (2, .int v2), (3, .int v3), (4, .long v4), (6, .int v6)] [] S D (xQv S r)) {v0 : Nat} {v1 : Nat} {v2 : Int32} {v3 : Int32} {v4 : Int64} {v6 : Int32} {s0 : Int32} {s1 : Int32} {s2 : Int32} {s3 : Nat} {D : xDt} {r : xDt} (k0 : xK S v0 1) (k1 : xK S v1 10) (ks3 : xK S s3 10) (h : f_X1_changeAtom_49 F P S rec_3 v0 v1 v2 v3 v4 v6 s0 s1 s2 s3 D = some r) : yEx md_X1_changeAtom 1 49 [(0, .ref v0), (1, .ref v1), (2, .int v2), (3, .int v3), (4, .long v4), (6, .int v6)] [.int s0, .int s1, .int s2, .ref s3] S D (xQv S r) := by
  unfold f_X1_changeAtom_49 at h
  refine xbnd_e h (fun q1 e1 h => ?_)
  refine y_callVv (As := [.int s2, .int s1, .int s0]) (q := q1) cv_RX1_67 dX1_changeAtom_49 ks3 rfl (Nat.le_of_ble_eq_true rfl) (by omega) (S_X10_setAtom hS ks3 e1) ?_
  exact t_X1_changeAtom_52 hS hrec_3 k0 k1 h

def f_X1_changeAtom_3s (F P : Nat) (S : xSt) (rec_3 : Nat → Nat → Int32 → Int32 → Int64 → Int32 → xDt → Option (xDt)) (v0 : Nat) (v1 : Nat) (v2 : Int32) (v3 : Int32) (v4 : Int64) (v6 : Int32) (D : xDt) : Option (xDt) :=
  if (D.1 v1 0) ≤ v6 then (some D) else (xgrd (xin v6 (xl S (xr S v0 5))) (if (D.1 (xr S v0 5) (v6).toNatClampNeg) = v2 then (xgrd (xin v6 (xl S (xr S v0 4))) (if (lg_cmp ((jlushr v4 (D.1 (xr S v0 4) (v6).toNatClampNeg)) &&& 1) 0) = 0 then (f_X1_changeAtom_49 F P S rec_3 v0 v1 v2 v3 v4 v6 0 v3 v6 v1 D) else (f_X1_changeAtom_49 F P S rec_3 v0 v1 v2 v3 v4 v6 1 v3 v6 v1 D))) else (f_X1_changeAtom_52 F P S rec_3 v0 v1 v2 v3 v4 v6 D)))
def f_X1_changeAtom_3 (F P : Nat) (S : xSt) : Nat → Nat → Nat → Int32 → Int32 → Int64 → Int32 → xDt → Option (xDt)
  | 0 => fun _ _ _ _ _ _ _ => none
  | n + 1 => f_X1_changeAtom_3s F P S (f_X1_changeAtom_3 F P S n)
set_option maxHeartbeats 4000000 in
theorem t_X1_changeAtom_3s {F P : Nat} {S : xSt} (hS : xWF S) {rec_3 : Nat → Nat → Int32 → Int32 → Int64 → Int32 → xDt → Option (xDt)} (hrec_3 : ∀ {v0 : Nat} {v1 : Nat} {v2 : Int32} {v3 : Int32} {v4 : Int64} {v6 : Int32} {D : xDt} {r : xDt}, xK S v0 1 → xK S v1 10 → rec_3 v0 v1 v2 v3 v4 v6 D = some r → yEx md_X1_changeAtom 1 3 [(0, .ref v0), (1, .ref v1), (2, .int v2), (3, .int v3), (4, .long v4), (6, .int v6)] [] S D (xQv S r)) {v0 : Nat} {v1 : Nat} {v2 : Int32} {v3 : Int32} {v4 : Int64} {v6 : Int32} {D : xDt} {r : xDt} (k0 : xK S v0 1) (k1 : xK S v1 10) (h : f_X1_changeAtom_3s F P S rec_3 v0 v1 v2 v3 v4 v6 D = some r) : yEx md_X1_changeAtom 1 3 [(0, .ref v0), (1, .ref v1), (2, .int v2), (3, .int v3), (4, .long v4), (6, .int v6)] [] S D (xQv S r) := by
  unfold f_X1_changeAtom_3s at h
  refine x_iload dX1_changeAtom_3 5 rfl ?_
  refine x_aload_n dX1_changeAtom_5 1 rfl ?_
  refine y_geti fl_RX1_54 dX1_changeAtom_6 rfl k1 ?_
  refine x_icmp_ge 58 dX1_changeAtom_9 (by decide) (fun c => ?_) (fun c => ?_)
  · rw [if_pos c] at h
    obtain rfl := Option.some.inj h
    exact y_vret rfl dX1_changeAtom_58
  · rw [if_neg c] at h
    refine x_aload_n dX1_changeAtom_12 0 rfl ?_
    refine y_getr (kd := 100) hS fl_RX1_28 dX1_changeAtom_13 rfl k0 ?_
    refine x_iload dX1_changeAtom_16 5 rfl ?_
    refine xgrd_e h (fun g1 h => ?_)
    refine y_iald dX1_changeAtom_18 ((hS.f k0 5 100 rfl).2) g1 ?_
    refine x_iload_n dX1_changeAtom_19 2 rfl ?_
    refine x_icmp_ne 52 dX1_changeAtom_20 (by decide) (fun c => ?_) (fun c => ?_)
    · rw [if_neg c] at h
      exact t_X1_changeAtom_52 hS hrec_3 k0 k1 h
    · rw [if_pos c] at h
      refine x_aload_n dX1_changeAtom_23 1 rfl ?_
      refine x_iload dX1_changeAtom_24 5 rfl ?_
      refine x_iload_n dX1_changeAtom_26 3 rfl ?_
      refine x_lload dX1_changeAtom_27 4 rfl ?_
      refine x_aload_n dX1_changeAtom_29 0 rfl ?_
      refine y_getr (kd := 100) hS fl_RX1_25 dX1_changeAtom_30 rfl k0 ?_
      refine x_iload dX1_changeAtom_33 5 rfl ?_
      refine xgrd_e h (fun g2 h => ?_)
      refine y_iald dX1_changeAtom_35 ((hS.f k0 4 100 rfl).2) g2 ?_
      refine x_lushr dX1_changeAtom_36 ?_
      refine x_lconst 1 dX1_changeAtom_37 (by decide) ?_
      refine x_land dX1_changeAtom_38 ?_
      refine x_lconst 0 dX1_changeAtom_39 (by decide) ?_
      refine x_lcmp dX1_changeAtom_40 ?_
      refine x_if_eq 48 dX1_changeAtom_41 (by decide) (fun c => ?_) (fun c => ?_)
      · rw [if_pos c] at h
        refine x_iconst 0 dX1_changeAtom_48 (by decide) ?_
        exact t_X1_changeAtom_49 hS hrec_3 k0 k1 k1 h
      · rw [if_neg c] at h
        refine x_iconst 1 dX1_changeAtom_44 (by decide) ?_
        refine x_goto 49 dX1_changeAtom_45 (by decide) ?_
        exact t_X1_changeAtom_49 hS hrec_3 k0 k1 k1 h
theorem t_X1_changeAtom_3 {F P : Nat} {S : xSt} (hS : xWF S) : ∀ (n : Nat) {v0 : Nat} {v1 : Nat} {v2 : Int32} {v3 : Int32} {v4 : Int64} {v6 : Int32} {D : xDt} {r : xDt}, xK S v0 1 → xK S v1 10 → f_X1_changeAtom_3 F P S n v0 v1 v2 v3 v4 v6 D = some r → yEx md_X1_changeAtom 1 3 [(0, .ref v0), (1, .ref v1), (2, .int v2), (3, .int v3), (4, .long v4), (6, .int v6)] [] S D (xQv S r) := by
  intro n
  induction n with
  | zero => intros; rename_i h; cases h
  | succ n ih =>
    intro v0 v1 v2 v3 v4 v6 D r k0 k1 h
    exact t_X1_changeAtom_3s hS (fun k0 k1 h => ih k0 k1 h) k0 k1 h

def f_X1_changeAtom (F P : Nat) (S : xSt) (v0 : Nat) (v1 : Nat) (v2 : Int32) (v3 : Int32) (v4 : Int64) (D : xDt) : Option (xDt) :=
  f_X1_changeAtom_3 F P S F v0 v1 v2 v3 v4 0 D
set_option maxHeartbeats 4000000 in
theorem S_X1_changeAtom {F P : Nat} {S : xSt} (hS : xWF S) {v0 : Nat} {v1 : Nat} {v2 : Int32} {v3 : Int32} {v4 : Int64} {D : xDt} {r : xDt} (k0 : xK S v0 1) (k1 : xK S v1 10) (h : f_X1_changeAtom F P S v0 v1 v2 v3 v4 D = some r) : xSp md_X1_changeAtom (1, 0, 0) [.ref v0, .ref v1, .int v2, .int v3, .long v4] (S, D) (xQv S r) := by
  unfold f_X1_changeAtom at h
  refine xEntry (by decide) (Nat.le_of_ble_eq_true rfl) ?_
  refine x_lv (lv' := [(0, .ref v0), (1, .ref v1), (2, .int v2), (3, .int v3), (4, .long v4)]) [0, 1, 2, 3, 4] rfl ?_
  refine x_iconst 0 dX1_changeAtom_0 (by decide) ?_
  refine y_istore 0 rfl [(6, .int 0), (0, .ref v0), (1, .ref v1), (2, .int v2), (3, .int v3), (4, .long v4)] dX1_changeAtom_1 (by show _ < 7; decide) rfl ?_
  refine x_lv (lv' := [(0, .ref v0), (1, .ref v1), (2, .int v2), (3, .int v3), (4, .long v4), (6, .int 0)]) [1, 2, 3, 4, 5, 0] rfl ?_
  exact t_X1_changeAtom_3 hS F k0 k1 h

