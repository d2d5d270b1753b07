/-! printed by wip/whole/gen.py: the methods as plain functions, each proved to be what its bytecode does -/
theorem dX10_add_0 : decode cX10_add 0 = .ok (.aload_n 0, 1) := by decide +kernel
theorem dX10_add_1 : decode cX10_add 1 = .ok (.dup, 1) := by decide +kernel
theorem dX10_add_2 : decode cX10_add 2 = .ok (.getfield 18, 3) := by decide +kernel
theorem dX10_add_5 : decode cX10_add 5 = .ok (.dup_x1, 1) := by decide +kernel
theorem dX10_add_6 : decode cX10_add 6 = .ok (.iconst 1, 1) := by decide +kernel
theorem dX10_add_7 : decode cX10_add 7 = .ok (.iadd, 1) := by decide +kernel
theorem dX10_add_8 : decode cX10_add 8 = .ok (.putfield 18, 3) := by decide +kernel
theorem dX10_add_11 : decode cX10_add 11 = .ok (.istore_n 2, 1) := by decide +kernel
theorem dX10_add_12 : decode cX10_add 12 = .ok (.iconst 0, 1) := by decide +kernel
theorem dX10_add_13 : decode cX10_add 13 = .ok (.istore_n 3, 1) := by decide +kernel
theorem dX10_add_14 : decode cX10_add 14 = .ok (.iload_n 3, 1) := by decide +kernel
theorem dX10_add_15 : decode cX10_add 15 = .ok (.iconst 4, 1) := by decide +kernel
theorem dX10_add_16 : decode cX10_add 16 = .ok (.if_icmp .ge 23, 3) := by decide +kernel
theorem dX10_add_19 : decode cX10_add 19 = .ok (.aload_n 0, 1) := by decide +kernel
theorem dX10_add_20 : decode cX10_add 20 = .ok (.getfield 15, 3) := by decide +kernel
theorem dX10_add_23 : decode cX10_add 23 = .ok (.iload_n 3, 1) := by decide +kernel
theorem dX10_add_24 : decode cX10_add 24 = .ok (.bipush 64, 2) := by decide +kernel
theorem dX10_add_26 : decode cX10_add 26 = .ok (.imul, 1) := by decide +kernel
theorem dX10_add_27 : decode cX10_add 27 = .ok (.iload_n 2, 1) := by decide +kernel
theorem dX10_add_28 : decode cX10_add 28 = .ok (.iadd, 1) := by decide +kernel
theorem dX10_add_29 : decode cX10_add 29 = .ok (.lconst 1, 1) := by decide +kernel
theorem dX10_add_30 : decode cX10_add 30 = .ok (.iload_n 2, 1) := by decide +kernel
theorem dX10_add_31 : decode cX10_add 31 = .ok (.lshl, 1) := by decide +kernel
theorem dX10_add_32 : decode cX10_add 32 = .ok (.lastore, 1) := by decide +kernel
theorem dX10_add_33 : decode cX10_add 33 = .ok (.iinc 3 1, 3) := by decide +kernel
theorem dX10_add_36 : decode cX10_add 36 = .ok (.goto (-22), 3) := by decide +kernel
theorem dX10_add_39 : decode cX10_add 39 = .ok (.iconst 0, 1) := by decide +kernel
theorem dX10_add_40 : decode cX10_add 40 = .ok (.istore_n 3, 1) := by decide +kernel
theorem dX10_add_41 : decode cX10_add 41 = .ok (.iload_n 3, 1) := by decide +kernel
theorem dX10_add_42 : decode cX10_add 42 = .ok (.bipush 8, 2) := by decide +kernel
theorem dX10_add_44 : decode cX10_add 44 = .ok (.if_icmp .ge 28, 3) := by decide +kernel
theorem dX10_add_47 : decode cX10_add 47 = .ok (.aload_n 0, 1) := by decide +kernel
theorem dX10_add_48 : decode cX10_add 48 = .ok (.iload_n 2, 1) := by decide +kernel
theorem dX10_add_49 : decode cX10_add 49 = .ok (.iload_n 3, 1) := by decide +kernel
theorem dX10_add_50 : decode cX10_add 50 = .ok (.iload_n 1, 1) := by decide +kernel
theorem dX10_add_51 : decode cX10_add 51 = .ok (.iload_n 3, 1) := by decide +kernel
theorem dX10_add_52 : decode cX10_add 52 = .ok (.ishr, 1) := by decide +kernel
theorem dX10_add_53 : decode cX10_add 53 = .ok (.iconst 1, 1) := by decide +kernel
theorem dX10_add_54 : decode cX10_add 54 = .ok (.iand, 1) := by decide +kernel
theorem dX10_add_55 : decode cX10_add 55 = .ok (.ifCond .eq 7, 3) := by decide +kernel
theorem dX10_add_58 : decode cX10_add 58 = .ok (.iconst 1, 1) := by decide +kernel
theorem dX10_add_59 : decode cX10_add 59 = .ok (.goto 4, 3) := by decide +kernel
theorem dX10_add_62 : decode cX10_add 62 = .ok (.iconst 0, 1) := by decide +kernel
theorem dX10_add_63 : decode cX10_add 63 = .ok (.invokevirtual 24, 3) := by decide +kernel
theorem dX10_add_66 : decode cX10_add 66 = .ok (.iinc 3 1, 3) := by decide +kernel
theorem dX10_add_69 : decode cX10_add 69 = .ok (.goto (-28), 3) := by decide +kernel
theorem dX10_add_72 : decode cX10_add 72 = .ok (.iload_n 2, 1) := by decide +kernel
theorem dX10_add_73 : decode cX10_add 73 = .ok (.ireturn, 1) := by decide +kernel
def f_X10_add_63 (F P : Nat) (S : xSt) (rec_41 : Nat → Int32 → Int32 → Int32 → xDt → Option (Int32 × xDt)) (v0 : Nat) (v1 : Int32) (v2 : Int32) (v3 : Int32) (s0 : Int32) (s1 : Int32) (s2 : Int32) (s3 : Nat) (D : xDt) : Option (Int32 × xDt) :=
  (f_X10_setAtom F P S s3 s2 s1 s0 D).bind fun q1 => xlet (v3 + 1) fun v3_2 => rec_41 v0 v1 v2 v3_2 q1
set_option maxHeartbeats 4000000 in
theorem t_X10_add_63 {F P : Nat} {S : xSt} (hS : xWF S) {rec_41 : Nat → Int32 → Int32 → Int32 → xDt → Option (Int32 × xDt)} (hrec_41 : ∀ {v0 : Nat} {v1 : Int32} {v2 : Int32} {v3 : Int32} {D : xDt} {r : Int32 × xDt}, xK S v0 10 → rec_41 v0 v1 v2 v3 D = some r → yEx md_X10_add 1 41 [(0, .ref v0), (1, .int v1), (2, .int v2), (3, .int v3)] [] S D (xQi S r)) {v0 : Nat} {v1 : Int32} {v2 : Int32} {v3 : Int32} {s0 : Int32} {s1 : Int32} {s2 : Int32} {s3 : Nat} {D : xDt} {r : Int32 × xDt} (k0 : xK S v0 10) (ks3 : xK S s3 10) (h : f_X10_add_63 F P S rec_41 v0 v1 v2 v3 s0 s1 s2 s3 D = some r) : yEx md_X10_add 1 63 [(0, .ref v0), (1, .int v1), (2, .int v2), (3, .int v3)] [.int s0, .int s1, .int s2, .ref s3] S D (xQi S r) := by
  unfold f_X10_add_63 at h
  refine xbnd_e h (fun q1 e1 h => ?_)
  refine y_callVv (As := [.int s2, .int s1, .int s0]) (q := q1) cv_RX10_24 dX10_add_63 ks3 rfl (Nat.le_of_ble_eq_true rfl) (by omega) (S_X10_setAtom hS ks3 e1) ?_
  refine xlet_e h (fun v3_2 ev3_2 h => ?_)
  refine y_iinc v3_2 ev3_2 (by decide) [(3, .int v3_2), (0, .ref v0), (1, .int v1), (2, .int v2)] dX10_add_66 3 rfl (by show _ < 4; decide) rfl ?_
  refine x_goto 41 dX10_add_69 (by decide) ?_
  refine x_lv (lv' := [(0, .ref v0), (1, .int v1), (2, .int v2), (3, .int v3_2)]) [1, 2, 3, 0] rfl ?_
  exact hrec_41 k0 h

def f_X10_add_41s (F P : Nat) (S : xSt) (rec_41 : Nat → Int32 → Int32 → Int32 → xDt → Option (Int32 × xDt)) (v0 : Nat) (v1 : Int32) (v2 : Int32) (v3 : Int32) (D : xDt) : Option (Int32 × xDt) :=
  if 8 ≤ v3 then (some (v2, D)) else (if ((jishr v1 v3) &&& 1) = 0 then (f_X10_add_63 F P S rec_41 v0 v1 v2 v3 0 v3 v2 v0 D) else (f_X10_add_63 F P S rec_41 v0 v1 v2 v3 1 v3 v2 v0 D))
def f_X10_add_41 (F P : Nat) (S : xSt) : Nat → Nat → Int32 → Int32 → Int32 → xDt → Option (Int32 × xDt)
  | 0 => fun _ _ _ _ _ => none
  | n + 1 => f_X10_add_41s F P S (f_X10_add_41 F P S n)
set_option maxHeartbeats 4000000 in
theorem t_X10_add_41s {F P : Nat} {S : xSt} (hS : xWF S) {rec_41 : Nat → Int32 → Int32 → Int32 → xDt → Option (Int32 × xDt)} (hrec_41 : ∀ {v0 : Nat} {v1 : Int32} {v2 : Int32} {v3 : Int32} {D : xDt} {r : Int32 × xDt}, xK S v0 10 → rec_41 v0 v1 v2 v3 D = some r → yEx md_X10_add 1 41 [(0, .ref v0), (1, .int v1), (2, .int v2), (3, .int v3)] [] S D (xQi S r)) {v0 : Nat} {v1 : Int32} {v2 : Int32} {v3 : Int32} {D : xDt} {r : Int32 × xDt} (k0 : xK S v0 10) (h : f_X10_add_41s F P S rec_41 v0 v1 v2 v3 D = some r) : yEx md_X10_add 1 41 [(0, .ref v0), (1, .int v1), (2, .int v2), (3, .int v3)] [] S D (xQi S r) := by
  unfold f_X10_add_41s at h
  refine x_iload_n dX10_add_41 3 rfl ?_
  refine x_bipush 8 dX10_add_42 (by decide) ?_
  refine x_icmp_ge 72 dX10_add_44 (by decide) (fun c => ?_) (fun c => ?_)
  · rw [if_pos c] at h
    refine x_iload_n dX10_add_72 2 rfl ?_
    obtain rfl := Option.some.inj h
    exact y_iret rfl dX10_add_73
  · rw [if_neg c] at h
    refine x_aload_n dX10_add_47 0 rfl ?_
    refine x_iload_n dX10_add_48 2 rfl ?_
    refine x_iload_n dX10_add_49 3 rfl ?_
    refine x_iload_n dX10_add_50 1 rfl ?_
    refine x_iload_n dX10_add_51 3 rfl ?_
    refine x_ishr dX10_add_52 ?_
    refine x_iconst 1 dX10_add_53 (by decide) ?_
    refine x_iand dX10_add_54 ?_
    refine x_if_eq 62 dX10_add_55 (by decide) (fun c => ?_) (fun c => ?_)
    · rw [if_pos c] at h
      refine x_iconst 0 dX10_add_62 (by decide) ?_
      exact t_X10_add_63 hS hrec_41 k0 k0 h
    · rw [if_neg c] at h
      refine x_iconst 1 dX10_add_58 (by decide) ?_
      refine x_goto 63 dX10_add_59 (by decide) ?_
      exact t_X10_add_63 hS hrec_41 k0 k0 h
theorem t_X10_add_41 {F P : Nat} {S : xSt} (hS : xWF S) : ∀ (n : Nat) {v0 : Nat} {v1 : Int32} {v2 : Int32} {v3 : Int32} {D : xDt} {r : Int32 × xDt}, xK S v0 10 → f_X10_add_41 F P S n v0 v1 v2 v3 D = some r → yEx md_X10_add 1 41 [(0, .ref v0), (1, .int v1), (2, .int v2), (3, .int v3)] [] S D (xQi S r) := by
  intro n
  induction n with
  | zero => intros; rename_i h; cases h
  | succ n ih =>
    intro v0 v1 v2 v3 D r k0 h
    exact t_X10_add_41s hS (fun k0 h => ih k0 h) k0 h

def f_X10_add_14s (F P : Nat) (S : xSt) (rec_14 : Nat → Int32 → Int32 → Int32 → xDt → Option (Int32 × xDt)) (v0 : Nat) (v1 : Int32) (v2 : Int32) (v3 : Int32) (D : xDt) : Option (Int32 × xDt) :=
  if 4 ≤ v3 then (f_X10_add_41 F P S F v0 v1 v2 0 D) else (xgrd (xin ((v3 * 64) + v2) (xl S (xr S v0 2))) (xlet (D.1, xup D.2 (xr S v0 2) ((v3 * 64) + v2).toNatClampNeg (jlshl 1 v2)) fun D2 => xlet (v3 + 1) fun v3_3 => rec_14 v0 v1 v2 v3_3 D2))
def f_X10_add_14 (F P : Nat) (S : xSt) : Nat → Nat → Int32 → Int32 → Int32 → xDt → Option (Int32 × xDt)
  | 0 => fun _ _ _ _ _ => none
  | n + 1 => f_X10_add_14s F P S (f_X10_add_14 F P S n)
set_option maxHeartbeats 4000000 in
theorem t_X10_add_14s {F P : Nat} {S : xSt} (hS : xWF S) {rec_14 : Nat → Int32 → Int32 → Int32 → xDt → Option (Int32 × xDt)} (hrec_14 : ∀ {v0 : Nat} {v1 : Int32} {v2 : Int32} {v3 : Int32} {D : xDt} {r : Int32 × xDt}, xK S v0 10 → rec_14 v0 v1 v2 v3 D = some r → yEx md_X10_add 1 14 [(0, .ref v0), (1, .int v1), (2, .int v2), (3, .int v3)] [] S D (xQi S r)) {v0 : Nat} {v1 : Int32} {v2 : Int32} {v3 : Int32} {D : xDt} {r : Int32 × xDt} (k0 : xK S v0 10) (h : f_X10_add_14s F P S rec_14 v0 v1 v2 v3 D = some r) : yEx md_X10_add 1 14 [(0, .ref v0), (1, .int v1), (2, .int v2), (3, .int v3)] [] S D (xQi S r) := by
  unfold f_X10_add_14s at h
  refine x_iload_n dX10_add_14 3 rfl ?_
  refine x_iconst 4 dX10_add_15 (by decide) ?_
  refine x_icmp_ge 39 dX10_add_16 (by decide) (fun c => ?_) (fun c => ?_)
  · rw [if_pos c] at h
    refine x_iconst 0 dX10_add_39 (by decide) ?_
    refine y_istore_n 0 rfl [(3, .int 0), (0, .ref v0), (1, .int v1), (2, .int v2)] dX10_add_40 (by show _ < 4; decide) rfl ?_
    refine x_lv (lv' := [(0, .ref v0), (1, .int v1), (2, .int v2), (3, .int 0)]) [1, 2, 3, 0] rfl ?_
    exact t_X10_add_41 hS F k0 h
  · rw [if_neg c] at h
    refine x_aload_n dX10_add_19 0 rfl ?_
    refine y_getr (kd := 101) hS fl_RX10_15 dX10_add_20 rfl k0 ?_
    refine x_iload_n dX10_add_23 3 rfl ?_
    refine x_bipush 64 dX10_add_24 (by decide) ?_
    refine x_imul dX10_add_26 ?_
    refine x_iload_n dX10_add_27 2 rfl ?_
    refine x_iadd dX10_add_28 ?_
    refine x_lconst 1 dX10_add_29 (by decide) ?_
    refine x_iload_n dX10_add_30 2 rfl ?_
    refine x_lshl dX10_add_31 ?_
    refine xgrd_e h (fun g1 h => ?_)
    refine xlet_e h (fun D2 eD2 h => ?_)
    refine y_last dX10_add_32 ((hS.f k0 2 101 rfl).2) g1 eD2 ?_
    refine xlet_e h (fun v3_3 ev3_3 h => ?_)
    refine y_iinc v3_3 ev3_3 (by decide) [(3, .int v3_3), (0, .ref v0), (1, .int v1), (2, .int v2)] dX10_add_33 3 rfl (by show _ < 4; decide) rfl ?_
    refine x_goto 14 dX10_add_36 (by decide) ?_
    refine x_lv (lv' := [(0, .ref v0), (1, .int v1), (2, .int v2), (3, .int v3_3)]) [1, 2, 3, 0] rfl ?_
    exact hrec_14 k0 h
theorem t_X10_add_14 {F P : Nat} {S : xSt} (hS : xWF S) : ∀ (n : Nat) {v0 : Nat} {v1 : Int32} {v2 : Int32} {v3 : Int32} {D : xDt} {r : Int32 × xDt}, xK S v0 10 → f_X10_add_14 F P S n v0 v1 v2 v3 D = some r → yEx md_X10_add 1 14 [(0, .ref v0), (1, .int v1), (2, .int v2), (3, .int v3)] [] S D (xQi S r) := by
  intro n
  induction n with
  | zero => intros; rename_i h; cases h
  | succ n ih =>
    intro v0 v1 v2 v3 D r k0 h
    exact t_X10_add_14s hS (fun k0 h => ih k0 h) k0 h

def f_X10_add (F P : Nat) (S : xSt) (v0 : Nat) (v1 : Int32) (D : xDt) : Option (Int32 × xDt) :=
  xlet (xup D.1 v0 0 ((D.1 v0 0) + 1), D.2) fun D1 => xlet (D.1 v0 0) fun v2_2 => f_X10_add_14 F P S F v0 v1 v2_2 0 D1
set_option maxHeartbeats 4000000 in
theorem S_X10_add {F P : Nat} {S : xSt} (hS : xWF S) {v0 : Nat} {v1 : Int32} {D : xDt} {r : Int32 × xDt} (k0 : xK S v0 10) (h : f_X10_add F P S v0 v1 D = some r) : xSp md_X10_add (1, 0, 0) [.ref v0, .int v1] (S, D) (xQi S r) := by
  unfold f_X10_add at h
  refine xEntry (by decide) (Nat.le_of_ble_eq_true rfl) ?_
  refine x_lv (lv' := [(0, .ref v0), (1, .int v1)]) [0, 1] rfl ?_
  refine x_aload_n dX10_add_0 0 rfl ?_
  refine x_dup dX10_add_1 rfl ?_
  refine y_geti fl_RX10_18 dX10_add_2 rfl k0 ?_
  refine x_dup_x1 dX10_add_5 rfl rfl ?_
  refine x_iconst 1 dX10_add_6 (by decide) ?_
  refine x_iadd dX10_add_7 ?_
  refine xlet_e h (fun D1 eD1 h => ?_)
  refine y_puti fp_RX10_18 dX10_add_8 rfl k0 eD1 ?_
  refine xlet_e h (fun v2_2 ev2_2 h => ?_)
  refine y_istore_n v2_2 ev2_2 [(2, .int v2_2), (0, .ref v0), (1, .int v1)] dX10_add_11 (by show _ < 4; decide) rfl ?_
  refine x_iconst 0 dX10_add_12 (by decide) ?_
  refine y_istore_n 0 rfl [(3, .int 0), (2, .int v2_2), (0, .ref v0), (1, .int v1)] dX10_add_13 (by show _ < 4; decide) rfl ?_
  refine x_lv (lv' := [(0, .ref v0), (1, .int v1), (2, .int v2_2), (3, .int 0)]) [2, 3, 1, 0] rfl ?_
  exact t_X10_add_14 hS F k0 h

theorem dX10_setCells_0 : decode cX10_setCells 0 = .ok (.iconst 0, 1) := by decide +kernel
theorem dX10_setCells_1 : decode cX10_setCells 1 = .ok (.istore 6, 2) := by decide +kernel
theorem dX10_setCells_3 : decode cX10_setCells 3 = .ok (.iload 6, 2) := by decide +kernel
theorem dX10_setCells_5 : decode cX10_setCells 5 = .ok (.aload_n 0, 1) := by decide +kernel
theorem dX10_setCells_6 : decode cX10_setCells 6 = .ok (.getfield 18, 3) := by decide +kernel
theorem dX10_setCells_9 : decode cX10_setCells 9 = .ok (.if_icmp .ge 34, 3) := by decide +kernel
theorem dX10_setCells_12 : decode cX10_setCells 12 = .ok (.lload_n 2, 1) := by decide +kernel
theorem dX10_setCells_13 : decode cX10_setCells 13 = .ok (.iload 6, 2) := by decide +kernel
theorem dX10_setCells_15 : decode cX10_setCells 15 = .ok (.lushr, 1) := by decide +kernel
theorem dX10_setCells_16 : decode cX10_setCells 16 = .ok (.lconst 1, 1) := by decide +kernel
theorem dX10_setCells_17 : decode cX10_setCells 17 = .ok (.land, 1) := by decide +kernel
theorem dX10_setCells_18 : decode cX10_setCells 18 = .ok (.lconst 0, 1) := by decide +kernel
theorem dX10_setCells_19 : decode cX10_setCells 19 = .ok (.lcmp, 1) := by decide +kernel
theorem dX10_setCells_20 : decode cX10_setCells 20 = .ok (.ifCond .eq 17, 3) := by decide +kernel
theorem dX10_setCells_23 : decode cX10_setCells 23 = .ok (.aload_n 0, 1) := by decide +kernel
theorem dX10_setCells_24 : decode cX10_setCells 24 = .ok (.getfield 15, 3) := by decide +kernel
theorem dX10_setCells_27 : decode cX10_setCells 27 = .ok (.iload_n 1, 1) := by decide +kernel
theorem dX10_setCells_28 : decode cX10_setCells 28 = .ok (.bipush 64, 2) := by decide +kernel
theorem dX10_setCells_30 : decode cX10_setCells 30 = .ok (.imul, 1) := by decide +kernel
theorem dX10_setCells_31 : decode cX10_setCells 31 = .ok (.iload 6, 2) := by decide +kernel
theorem dX10_setCells_33 : decode cX10_setCells 33 = .ok (.iadd, 1) := by decide +kernel
theorem dX10_setCells_34 : decode cX10_setCells 34 = .ok (.lload 4, 2) := by decide +kernel
theorem dX10_setCells_36 : decode cX10_setCells 36 = .ok (.lastore, 1) := by decide +kernel
theorem dX10_setCells_37 : decode cX10_setCells 37 = .ok (.iinc 6 1, 3) := by decide +kernel
theorem dX10_setCells_40 : decode cX10_setCells 40 = .ok (.goto (-37), 3) := by decide +kernel
theorem dX10_setCells_43 : decode cX10_setCells 43 = .ok (.return_, 1) := by decide +kernel
def f_X10_setCells_37 (F P : Nat) (S : xSt) (rec_3 : Nat → Int32 → Int64 → Int64 → Int32 → xDt → Option (xDt)) (v0 : Nat) (v1 : Int32) (v2 : Int64) (v4 : Int64) (v6 : Int32) (D : xDt) : Option (xDt) :=
  xlet (v6 + 1) fun v6_1 => rec_3 v0 v1 v2 v4 v6_1 D
set_option maxHeartbeats 4000000 in
theorem t_X10_setCells_37 {F P : Nat} {S : xSt} (hS : xWF S) {rec_3 : Nat → Int32 → Int64 → Int64 → Int32 → xDt → Option (xDt)} (hrec_3 : ∀ {v0 : Nat} {v1 : Int32} {v2 : Int64} {v4 : Int64} {v6 : Int32} {D : xDt} {r : xDt}, xK S v0 10 → rec_3 v0 v1 v2 v4 v6 D = some r → yEx md_X10_setCells 0 3 [(0, .ref v0), (1, .int v1), (2, .long v2), (4, .long v4), (6, .int v6)] [] S D (xQv S r)) {v0 : Nat} {v1 : Int32} {v2 : Int64} {v4 : Int64} {v6 : Int32} {D : xDt} {r : xDt} (k0 : xK S v0 10) (h : f_X10_setCells_37 F P S rec_3 v0 v1 v2 v4 v6 D = some r) : yEx md_X10_setCells 0 37 [(0, .ref v0), (1, .int v1), (2, .long v2), (4, .long v4), (6, .int v6)] [] S D (xQv S r) := by
  unfold f_X10_setCells_37 at h
  refine xlet_e h (fun v6_1 ev6_1 h => ?_)
  refine y_iinc v6_1 ev6_1 (by decide) [(6, .int v6_1), (0, .ref v0), (1, .int v1), (2, .long v2), (4, .long v4)] dX10_setCells_37 4 rfl (by show _ < 7; decide) rfl ?_
  refine x_goto 3 dX10_setCells_40 (by decide) ?_
  refine x_lv (lv' := [(0, .ref v0), (1, .int v1), (2, .long v2), (4, .long v4), (6, .int v6_1)]) [1, 2, 3, 4, 0] rfl ?_
  exact hrec_3 k0 h

def f_X10_setCells_3s (F P : Nat) (S : xSt) (rec_3 : Nat → Int32 → Int64 → Int64 → Int32 → xDt → Option (xDt)) (v0 : Nat) (v1 : Int32) (v2 : Int64) (v4 : Int64) (v6 : Int32) (D : xDt) : Option (xDt) :=
  if (D.1 v0 0) ≤ v6 then (some D) else (if (lg_cmp ((jlushr v2 v6) &&& 1) 0) = 0 then (f_X10_setCells_37 F P S rec_3 v0 v1 v2 v4 v6 D) else (xgrd (xin ((v1 * 64) + v6) (xl S (xr S v0 2))) (xlet (D.1, xup D.2 (xr S v0 2) ((v1 * 64) + v6).toNatClampNeg v4) fun D2 => f_X10_setCells_37 F P S rec_3 v0 v1 v2 v4 v6 D2)))
def f_X10_setCells_3 (F P : Nat) (S : xSt) : Nat → Nat → Int32 → Int64 → Int64 → Int32 → xDt → Option (xDt)
  | 0 => fun _ _ _ _ _ _ => none
  | n + 1 => f_X10_setCells_3s F P S (f_X10_setCells_3 F P S n)
set_option maxHeartbeats 4000000 in
theorem t_X10_setCells_3s {F P : Nat} {S : xSt} (hS : xWF S) {rec_3 : Nat → Int32 → Int64 → Int64 → Int32 → xDt → Option (xDt)} (hrec_3 : ∀ {v0 : Nat} {v1 : Int32} {v2 : Int64} {v4 : Int64} {v6 : Int32} {D : xDt} {r : xDt}, xK S v0 10 → rec_3 v0 v1 v2 v4 v6 D = some r → yEx md_X10_setCells 0 3 [(0, .ref v0), (1, .int v1), (2, .long v2), (4, .long v4), (6, .int v6)] [] S D (xQv S r)) {v0 : Nat} {v1 : Int32} {v2 : Int64} {v4 : Int64} {v6 : Int32} {D : xDt} {r : xDt} (k0 : xK S v0 10) (h : f_X10_setCells_3s F P S rec_3 v0 v1 v2 v4 v6 D = some r) : yEx md_X10_setCells 0 3 [(0, .ref v0), (1, .int v1), (2, .long v2), (4, .long v4), (6, .int v6)] [] S D (xQv S r) := by
  unfold f_X10_setCells_3s at h
  refine x_iload dX10_setCells_3 4 rfl ?_
  refine x_aload_n dX10_setCells_5 0 rfl ?_
  refine y_geti fl_RX10_18 dX10_setCells_6 rfl k0 ?_
  refine x_icmp_ge 43 dX10_setCells_9 (by decide) (fun c => ?_) (fun c => ?_)
  · rw [if_pos c] at h
    obtain rfl := Option.some.inj h
    exact y_vret rfl dX10_setCells_43
  · rw [if_neg c] at h
    refine x_lload_n dX10_setCells_12 2 rfl ?_
    refine x_iload dX10_setCells_13 4 rfl ?_
    refine x_lushr dX10_setCells_15 ?_
    refine x_lconst 1 dX10_setCells_16 (by decide) ?_
    refine x_land dX10_setCells_17 ?_
    refine x_lconst 0 dX10_setCells_18 (by decide) ?_
    refine x_lcmp dX10_setCells_19 ?_
    refine x_if_eq 37 dX10_setCells_20 (by decide) (fun c => ?_) (fun c => ?_)
    · rw [if_pos c] at h
      exact t_X10_setCells_37 hS hrec_3 k0 h
    · rw [if_neg c] at h
      refine x_aload_n dX10_setCells_23 0 rfl ?_
      refine y_getr (kd := 101) hS fl_RX10_15 dX10_setCells_24 rfl k0 ?_
      refine x_iload_n dX10_setCells_27 1 rfl ?_
      refine x_bipush 64 dX10_setCells_28 (by decide) ?_
      refine x_imul dX10_setCells_30 ?_
      refine x_iload dX10_setCells_31 4 rfl ?_
      refine x_iadd dX10_setCells_33 ?_
      refine x_lload dX10_setCells_34 3 rfl ?_
      refine xgrd_e h (fun g1 h => ?_)
      refine xlet_e h (fun D2 eD2 h => ?_)
      refine y_last dX10_setCells_36 ((hS.f k0 2 101 rfl).2) g1 eD2 ?_
      exact t_X10_setCells_37 hS hrec_3 k0 h
theorem t_X10_setCells_3 {F P : Nat} {S : xSt} (hS : xWF S) : ∀ (n : Nat) {v0 : Nat} {v1 : Int32} {v2 : Int64} {v4 : Int64} {v6 : Int32} {D : xDt} {r : xDt}, xK S v0 10 → f_X10_setCells_3 F P S n v0 v1 v2 v4 v6 D = some r → yEx md_X10_setCells 0 3 [(0, .ref v0), (1, .int v1), (2, .long v2), (4, .long v4), (6, .int v6)] [] S D (xQv S r) := by
  intro n
  induction n with
  | zero => intros; rename_i h; cases h
  | succ n ih =>
    intro v0 v1 v2 v4 v6 D r k0 h
    exact t_X10_setCells_3s hS (fun k0 h => ih k0 h) k0 h

def f_X10_setCells (F P : Nat) (S : xSt) (v0 : Nat) (v1 : Int32) (v2 : Int64) (v4 : Int64) (D : xDt) : Option (xDt) :=
  f_X10_setCells_3 F P S F v0 v1 v2 v4 0 D
set_option maxHeartbeats 4000000 in
theorem S_X10_setCells {F P : Nat} {S : xSt} (hS : xWF S) {v0 : Nat} {v1 : Int32} {v2 : Int64} {v4 : Int64} {D : xDt} {r : xDt} (k0 : xK S v0 10) (h : f_X10_setCells F P S v0 v1 v2 v4 D = some r) : xSp md_X10_setCells (0, 0, 0) [.ref v0, .int v1, .long v2, .long v4] (S, D) (xQv S r) := by
  unfold f_X10_setCells at h
  refine xEntry (by decide) (Nat.le_of_ble_eq_true rfl) ?_
  refine x_lv (lv' := [(0, .ref v0), (1, .int v1), (2, .long v2), (4, .long v4)]) [0, 1, 2, 3] rfl ?_
  refine x_iconst 0 dX10_setCells_0 (by decide) ?_
  refine y_istore 0 rfl [(6, .int 0), (0, .ref v0), (1, .int v1), (2, .long v2), (4, .long v4)] dX10_setCells_1 (by show _ < 7; decide) rfl ?_
  refine x_lv (lv' := [(0, .ref v0), (1, .int v1), (2, .long v2), (4, .long v4), (6, .int 0)]) [1, 2, 3, 4, 0] rfl ?_
  exact t_X10_setCells_3 hS F k0 h

theorem dX10_merge_0 : decode cX10_merge 0 = .ok (.aload_n 0, 1) := by decide +kernel
theorem dX10_merge_1 : decode cX10_merge 1 = .ok (.iload_n 1, 1) := by decide +kernel
theorem dX10_merge_2 : decode cX10_merge 2 = .ok (.iload_n 2, 1) := by decide +kernel
theorem dX10_merge_3 : decode cX10_merge 3 = .ok (.invokevirtual 28, 3) := by decide +kernel
theorem dX10_merge_6 : decode cX10_merge 6 = .ok (.aload_n 0, 1) := by decide +kernel
theorem dX10_merge_7 : decode cX10_merge 7 = .ok (.iload_n 1, 1) := by decide +kernel
theorem dX10_merge_8 : decode cX10_merge 8 = .ok (.iload_n 3, 1) := by decide +kernel
theorem dX10_merge_9 : decode cX10_merge 9 = .ok (.invokevirtual 28, 3) := by decide +kernel
theorem dX10_merge_12 : decode cX10_merge 12 = .ok (.lor, 1) := by decide +kernel
theorem dX10_merge_13 : decode cX10_merge 13 = .ok (.lstore 4, 2) := by decide +kernel
theorem dX10_merge_15 : decode cX10_merge 15 = .ok (.aload_n 0, 1) := by decide +kernel
theorem dX10_merge_16 : decode cX10_merge 16 = .ok (.iload_n 1, 1) := by decide +kernel
theorem dX10_merge_17 : decode cX10_merge 17 = .ok (.lload 4, 2) := by decide +kernel
theorem dX10_merge_19 : decode cX10_merge 19 = .ok (.lload 4, 2) := by decide +kernel
theorem dX10_merge_21 : decode cX10_merge 21 = .ok (.invokevirtual 32, 3) := by decide +kernel
theorem dX10_merge_24 : decode cX10_merge 24 = .ok (.lload 4, 2) := by decide +kernel
theorem dX10_merge_26 : decode cX10_merge 26 = .ok (.invokestatic 36, 3) := by decide +kernel
theorem dX10_merge_29 : decode cX10_merge 29 = .ok (.ireturn, 1) := by decide +kernel
def f_X10_merge (F P : Nat) (S : xSt) (v0 : Nat) (v1 : Int32) (v2 : Int32) (v3 : Int32) (D : xDt) : Option (Int32 × xDt) :=
  (f_X10_cell F P S v0 v1 v2 D).bind fun q1 => (f_X10_cell F P S v0 v1 v3 q1.2).bind fun q2 => xlet (q1.1 ||| q2.1) fun v4_3 => (f_X10_setCells F P S v0 v1 v4_3 v4_3 q2.2).bind fun q4 => (f_J13_bitCount_95d88 F P S v4_3 q4).bind fun q5 => some (q5.1, q5.2)
set_option maxHeartbeats 4000000 in
theorem S_X10_merge {F P : Nat} {S : xSt} (hS : xWF S) {v0 : Nat} {v1 : Int32} {v2 : Int32} {v3 : Int32} {D : xDt} {r : Int32 × xDt} (k0 : xK S v0 10) (h : f_X10_merge F P S v0 v1 v2 v3 D = some r) : xSp md_X10_merge (1, 0, 0) [.ref v0, .int v1, .int v2, .int v3] (S, D) (xQi S r) := by
  unfold f_X10_merge at h
  refine xEntry (by decide) (Nat.le_of_ble_eq_true rfl) ?_
  refine x_lv (lv' := [(0, .ref v0), (1, .int v1), (2, .int v2), (3, .int v3)]) [0, 1, 2, 3] rfl ?_
  refine x_aload_n dX10_merge_0 0 rfl ?_
  refine x_iload_n dX10_merge_1 1 rfl ?_
  refine x_iload_n dX10_merge_2 2 rfl ?_
  refine xbnd_e h (fun q1 e1 h => ?_)
  refine y_callVl (As := [.int v1, .int v2]) (q := q1) cv_RX10_28 dX10_merge_3 k0 rfl (Nat.le_of_ble_eq_true rfl) (by omega) (S_X10_cell hS k0 e1) ?_
  refine x_aload_n dX10_merge_6 0 rfl ?_
  refine x_iload_n dX10_merge_7 1 rfl ?_
  refine x_iload_n dX10_merge_8 3 rfl ?_
  refine xbnd_e h (fun q2 e2 h => ?_)
  refine y_callVl (As := [.int v1, .int v3]) (q := q2) cv_RX10_28 dX10_merge_9 k0 rfl (Nat.le_of_ble_eq_true rfl) (by omega) (S_X10_cell hS k0 e2) ?_
  refine x_lor dX10_merge_12 ?_
  refine xlet_e h (fun v4_3 ev4_3 h => ?_)
  refine y_lstore v4_3 ev4_3 [(4, .long v4_3), (0, .ref v0), (1, .int v1), (2, .int v2), (3, .int v3)] dX10_merge_13 (by show _ < 6; decide) rfl ?_
  refine x_aload_n dX10_merge_15 1 rfl ?_
  refine x_iload_n dX10_merge_16 2 rfl ?_
  refine x_lload dX10_merge_17 0 rfl ?_
  refine x_lload dX10_merge_19 0 rfl ?_
  refine xbnd_e h (fun q4 e4 h => ?_)
  refine y_callVv (As := [.int v1, .long v4_3, .long v4_3]) (q := q4) cv_RX10_32 dX10_merge_21 k0 rfl (Nat.le_of_ble_eq_true rfl) (by omega) (S_X10_setCells hS k0 e4) ?_
  refine x_lload dX10_merge_24 0 rfl ?_
  refine xbnd_e h (fun q5 e5 h => ?_)
  refine y_callSi (As := [.long v4_3]) (q := q5) cs_RX10_36 dX10_merge_26 rfl (Nat.le_of_ble_eq_true rfl) (by omega) (S_J13_bitCount_95d88 hS e5) ?_
  obtain rfl := Option.some.inj h
  exact y_iret rfl dX10_merge_29

theorem dX10_part_0 : decode cX10_part 0 = .ok (.aload_n 0, 1) := by decide +kernel
theorem dX10_part_1 : decode cX10_part 1 = .ok (.iload_n 1, 1) := by decide +kernel
theorem dX10_part_2 : decode cX10_part 2 = .ok (.iload_n 2, 1) := by decide +kernel
theorem dX10_part_3 : decode cX10_part 3 = .ok (.invokevirtual 28, 3) := by decide +kernel
theorem dX10_part_6 : decode cX10_part 6 = .ok (.lconst 1, 1) := by decide +kernel
theorem dX10_part_7 : decode cX10_part 7 = .ok (.iload_n 2, 1) := by decide +kernel
theorem dX10_part_8 : decode cX10_part 8 = .ok (.lshl, 1) := by decide +kernel
theorem dX10_part_9 : decode cX10_part 9 = .ok (.ldc2_w 22, 3) := by decide +kernel
theorem dX10_part_12 : decode cX10_part 12 = .ok (.lxor, 1) := by decide +kernel
theorem dX10_part_13 : decode cX10_part 13 = .ok (.land, 1) := by decide +kernel
theorem dX10_part_14 : decode cX10_part 14 = .ok (.lstore_n 3, 1) := by decide +kernel
theorem dX10_part_15 : decode cX10_part 15 = .ok (.aload_n 0, 1) := by decide +kernel
theorem dX10_part_16 : decode cX10_part 16 = .ok (.iload_n 1, 1) := by decide +kernel
theorem dX10_part_17 : decode cX10_part 17 = .ok (.lload_n 3, 1) := by decide +kernel
theorem dX10_part_18 : decode cX10_part 18 = .ok (.lload_n 3, 1) := by decide +kernel
theorem dX10_part_19 : decode cX10_part 19 = .ok (.invokevirtual 32, 3) := by decide +kernel
theorem dX10_part_22 : decode cX10_part 22 = .ok (.aload_n 0, 1) := by decide +kernel
theorem dX10_part_23 : decode cX10_part 23 = .ok (.iload_n 1, 1) := by decide +kernel
theorem dX10_part_24 : decode cX10_part 24 = .ok (.lconst 1, 1) := by decide +kernel
theorem dX10_part_25 : decode cX10_part 25 = .ok (.iload_n 2, 1) := by decide +kernel
theorem dX10_part_26 : decode cX10_part 26 = .ok (.lshl, 1) := by decide +kernel
theorem dX10_part_27 : decode cX10_part 27 = .ok (.lconst 1, 1) := by decide +kernel
theorem dX10_part_28 : decode cX10_part 28 = .ok (.iload_n 2, 1) := by decide +kernel
theorem dX10_part_29 : decode cX10_part 29 = .ok (.lshl, 1) := by decide +kernel
theorem dX10_part_30 : decode cX10_part 30 = .ok (.invokevirtual 32, 3) := by decide +kernel
theorem dX10_part_33 : decode cX10_part 33 = .ok (.lload_n 3, 1) := by decide +kernel
theorem dX10_part_34 : decode cX10_part 34 = .ok (.invokestatic 36, 3) := by decide +kernel
theorem dX10_part_37 : decode cX10_part 37 = .ok (.ireturn, 1) := by decide +kernel
def f_X10_part (F P : Nat) (S : xSt) (v0 : Nat) (v1 : Int32) (v2 : Int32) (D : xDt) : Option (Int32 × xDt) :=
  (f_X10_cell F P S v0 v1 v2 D).bind fun q1 => xlet (q1.1 &&& ((jlshl 1 v2) ^^^ (-1))) fun v3_2 => (f_X10_setCells F P S v0 v1 v3_2 v3_2 q1.2).bind fun q3 => (f_X10_setCells F P S v0 v1 (jlshl 1 v2) (jlshl 1 v2) q3).bind fun q4 => (f_J13_bitCount_95d88 F P S v3_2 q4).bind fun q5 => some (q5.1, q5.2)
set_option maxHeartbeats 4000000 in
theorem S_X10_part {F P : Nat} {S : xSt} (hS : xWF S) {v0 : Nat} {v1 : Int32} {v2 : Int32} {D : xDt} {r : Int32 × xDt} (k0 : xK S v0 10) (h : f_X10_part F P S v0 v1 v2 D = some r) : xSp md_X10_part (1, 0, 0) [.ref v0, .int v1, .int v2] (S, D) (xQi S r) := by
  unfold f_X10_part at h
  refine xEntry (by decide) (Nat.le_of_ble_eq_true rfl) ?_
  refine x_lv (lv' := [(0, .ref v0), (1, .int v1), (2, .int v2)]) [0, 1, 2] rfl ?_
  refine x_aload_n dX10_part_0 0 rfl ?_
  refine x_iload_n dX10_part_1 1 rfl ?_
  refine x_iload_n dX10_part_2 2 rfl ?_
  refine xbnd_e h (fun q1 e1 h => ?_)
  refine y_callVl (As := [.int v1, .int v2]) (q := q1) cv_RX10_28 dX10_part_3 k0 rfl (Nat.le_of_ble_eq_true rfl) (by omega) (S_X10_cell hS k0 e1) ?_
  refine x_lconst 1 dX10_part_6 (by decide) ?_
  refine x_iload_n dX10_part_7 2 rfl ?_
  refine x_lshl dX10_part_8 ?_
  refine x_ldc2 (-1) dX10_part_9 wd_425 ?_
  refine x_lxor dX10_part_12 ?_
  refine x_land dX10_part_13 ?_
  refine xlet_e h (fun v3_2 ev3_2 h => ?_)
  refine y_lstore_n v3_2 ev3_2 [(3, .long v3_2), (0, .ref v0), (1, .int v1), (2, .int v2)] dX10_part_14 (by show _ < 5; decide) rfl ?_
  refine x_aload_n dX10_part_15 1 rfl ?_
  refine x_iload_n dX10_part_16 2 rfl ?_
  refine x_lload_n dX10_part_17 0 rfl ?_
  refine x_lload_n dX10_part_18 0 rfl ?_
  refine xbnd_e h (fun q3 e3 h => ?_)
  refine y_callVv (As := [.int v1, .long v3_2, .long v3_2]) (q := q3) cv_RX10_32 dX10_part_19 k0 rfl (Nat.le_of_ble_eq_true rfl) (by omega) (S_X10_setCells hS k0 e3) ?_
  refine x_aload_n dX10_part_22 1 rfl ?_
  refine x_iload_n dX10_part_23 2 rfl ?_
  refine x_lconst 1 dX10_part_24 (by decide) ?_
  refine x_iload_n dX10_part_25 3 rfl ?_
  refine x_lshl dX10_part_26 ?_
  refine x_lconst 1 dX10_part_27 (by decide) ?_
  refine x_iload_n dX10_part_28 3 rfl ?_
  refine x_lshl dX10_part_29 ?_
  refine xbnd_e h (fun q4 e4 h => ?_)
  refine y_callVv (As := [.int v1, .long (jlshl 1 v2), .long (jlshl 1 v2)]) (q := q4) cv_RX10_32 dX10_part_30 k0 rfl (Nat.le_of_ble_eq_true rfl) (by omega) (S_X10_setCells hS k0 e4) ?_
  refine x_lload_n dX10_part_33 0 rfl ?_
  refine xbnd_e h (fun q5 e5 h => ?_)
  refine y_callSi (As := [.long v3_2]) (q := q5) cs_RX10_36 dX10_part_34 rfl (Nat.le_of_ble_eq_true rfl) (by omega) (S_J13_bitCount_95d88 hS e5) ?_
  obtain rfl := Option.some.inj h
  exact y_iret rfl dX10_part_37

theorem dX10_drawn_0 : decode cX10_drawn 0 = .ok (.lconst 0, 1) := by decide +kernel
theorem dX10_drawn_1 : decode cX10_drawn 1 = .ok (.lstore 4, 2) := by decide +kernel
theorem dX10_drawn_3 : decode cX10_drawn 3 = .ok (.iconst 0, 1) := by decide +kernel
theorem dX10_drawn_4 : decode cX10_drawn 4 = .ok (.istore 6, 2) := by decide +kernel
theorem dX10_drawn_6 : decode cX10_drawn 6 = .ok (.iload 6, 2) := by decide +kernel
theorem dX10_drawn_8 : decode cX10_drawn 8 = .ok (.aload_n 0, 1) := by decide +kernel
theorem dX10_drawn_9 : decode cX10_drawn 9 = .ok (.getfield 18, 3) := by decide +kernel
theorem dX10_drawn_12 : decode cX10_drawn 12 = .ok (.if_icmp .ge 25, 3) := by decide +kernel
theorem dX10_drawn_15 : decode cX10_drawn 15 = .ok (.lload 4, 2) := by decide +kernel
theorem dX10_drawn_17 : decode cX10_drawn 17 = .ok (.lload_n 1, 1) := by decide +kernel
theorem dX10_drawn_18 : decode cX10_drawn 18 = .ok (.aload_n 3, 1) := by decide +kernel
theorem dX10_drawn_19 : decode cX10_drawn 19 = .ok (.iload 6, 2) := by decide +kernel
theorem dX10_drawn_21 : decode cX10_drawn 21 = .ok (.iaload, 1) := by decide +kernel
theorem dX10_drawn_22 : decode cX10_drawn 22 = .ok (.lushr, 1) := by decide +kernel
theorem dX10_drawn_23 : decode cX10_drawn 23 = .ok (.lconst 1, 1) := by decide +kernel
theorem dX10_drawn_24 : decode cX10_drawn 24 = .ok (.land, 1) := by decide +kernel
theorem dX10_drawn_25 : decode cX10_drawn 25 = .ok (.iload 6, 2) := by decide +kernel
theorem dX10_drawn_27 : decode cX10_drawn 27 = .ok (.lshl, 1) := by decide +kernel
theorem dX10_drawn_28 : decode cX10_drawn 28 = .ok (.lor, 1) := by decide +kernel
theorem dX10_drawn_29 : decode cX10_drawn 29 = .ok (.lstore 4, 2) := by decide +kernel
theorem dX10_drawn_31 : decode cX10_drawn 31 = .ok (.iinc 6 1, 3) := by decide +kernel
theorem dX10_drawn_34 : decode cX10_drawn 34 = .ok (.goto (-28), 3) := by decide +kernel
theorem dX10_drawn_37 : decode cX10_drawn 37 = .ok (.lload 4, 2) := by decide +kernel
theorem dX10_drawn_39 : decode cX10_drawn 39 = .ok (.lreturn, 1) := by decide +kernel
def f_X10_drawn_6s (F P : Nat) (S : xSt) (rec_6 : Nat → Int64 → Nat → Int64 → Int32 → xDt → Option (Int64 × xDt)) (v0 : Nat) (v1 : Int64) (v3 : Nat) (v4 : Int64) (v6 : Int32) (D : xDt) : Option (Int64 × xDt) :=
  if (D.1 v0 0) ≤ v6 then (some (v4, D)) else (xgrd (xin v6 (xl S v3)) (xlet (v4 ||| (jlshl ((jlushr v1 (D.1 v3 (v6).toNatClampNeg)) &&& 1) v6)) fun v4_2 => xlet (v6 + 1) fun v6_3 => rec_6 v0 v1 v3 v4_2 v6_3 D))
def f_X10_drawn_6 (F P : Nat) (S : xSt) : Nat → Nat → Int64 → Nat → Int64 → Int32 → xDt → Option (Int64 × xDt)
  | 0 => fun _ _ _ _ _ _ => none
  | n + 1 => f_X10_drawn_6s F P S (f_X10_drawn_6 F P S n)
set_option maxHeartbeats 4000000 in
theorem t_X10_drawn_6s {F P : Nat} {S : xSt} (hS : xWF S) {rec_6 : Nat → Int64 → Nat → Int64 → Int32 → xDt → Option (Int64 × xDt)} (hrec_6 : ∀ {v0 : Nat} {v1 : Int64} {v3 : Nat} {v4 : Int64} {v6 : Int32} {D : xDt} {r : Int64 × xDt}, xK S v0 10 → xK S v3 100 → rec_6 v0 v1 v3 v4 v6 D = some r → yEx md_X10_drawn 0 6 [(0, .ref v0), (1, .long v1), (3, .ref v3), (4, .long v4), (6, .int v6)] [] S D (xQl S r)) {v0 : Nat} {v1 : Int64} {v3 : Nat} {v4 : Int64} {v6 : Int32} {D : xDt} {r : Int64 × xDt} (k0 : xK S v0 10) (k3 : xK S v3 100) (h : f_X10_drawn_6s F P S rec_6 v0 v1 v3 v4 v6 D = some r) : yEx md_X10_drawn 0 6 [(0, .ref v0), (1, .long v1), (3, .ref v3), (4, .long v4), (6, .int v6)] [] S D (xQl S r) := by
  unfold f_X10_drawn_6s at h
  refine x_iload dX10_drawn_6 4 rfl ?_
  refine x_aload_n dX10_drawn_8 0 rfl ?_
  refine y_geti fl_RX10_18 dX10_drawn_9 rfl k0 ?_
  refine x_icmp_ge 37 dX10_drawn_12 (by decide) (fun c => ?_) (fun c => ?_)
  · rw [if_pos c] at h
    refine x_lload dX10_drawn_37 3 rfl ?_
    obtain rfl := Option.some.inj h
    exact y_lret rfl dX10_drawn_39
  · rw [if_neg c] at h
    refine x_lload dX10_drawn_15 3 rfl ?_
    refine x_lload_n dX10_drawn_17 1 rfl ?_
    refine x_aload_n dX10_drawn_18 2 rfl ?_
    refine x_iload dX10_drawn_19 4 rfl ?_
    refine xgrd_e h (fun g1 h => ?_)
    refine y_iald dX10_drawn_21 k3 g1 ?_
    refine x_lushr dX10_drawn_22 ?_
    refine x_lconst 1 dX10_drawn_23 (by decide) ?_
    refine x_land dX10_drawn_24 ?_
    refine x_iload dX10_drawn_25 4 rfl ?_
    refine x_lshl dX10_drawn_27 ?_
    refine x_lor dX10_drawn_28 ?_
    refine xlet_e h (fun v4_2 ev4_2 h => ?_)
    refine y_lstore v4_2 ev4_2 [(4, .long v4_2), (0, .ref v0), (1, .long v1), (3, .ref v3), (6, .int v6)] dX10_drawn_29 (by show _ < 7; decide) rfl ?_
    refine xlet_e h (fun v6_3 ev6_3 h => ?_)
    refine y_iinc v6_3 ev6_3 (by decide) [(6, .int v6_3), (4, .long v4_2), (0, .ref v0), (1, .long v1), (3, .ref v3)] dX10_drawn_31 4 rfl (by show _ < 7; decide) rfl ?_
    refine x_goto 6 dX10_drawn_34 (by decide) ?_
    refine x_lv (lv' := [(0, .ref v0), (1, .long v1), (3, .ref v3), (4, .long v4_2), (6, .int v6_3)]) [2, 3, 4, 1, 0] rfl ?_
    exact hrec_6 k0 k3 h
theorem t_X10_drawn_6 {F P : Nat} {S : xSt} (hS : xWF S) : ∀ (n : Nat) {v0 : Nat} {v1 : Int64} {v3 : Nat} {v4 : Int64} {v6 : Int32} {D : xDt} {r : Int64 × xDt}, xK S v0 10 → xK S v3 100 → f_X10_drawn_6 F P S n v0 v1 v3 v4 v6 D = some r → yEx md_X10_drawn 0 6 [(0, .ref v0), (1, .long v1), (3, .ref v3), (4, .long v4), (6, .int v6)] [] S D (xQl S r) := by
  intro n
  induction n with
  | zero => intros; rename_i h; cases h
  | succ n ih =>
    intro v0 v1 v3 v4 v6 D r k0 k3 h
    exact t_X10_drawn_6s hS (fun k0 k3 h => ih k0 k3 h) k0 k3 h

def f_X10_drawn (F P : Nat) (S : xSt) (v0 : Nat) (v1 : Int64) (v3 : Nat) (D : xDt) : Option (Int64 × xDt) :=
  f_X10_drawn_6 F P S F v0 v1 v3 0 0 D
set_option maxHeartbeats 4000000 in
theorem S_X10_drawn {F P : Nat} {S : xSt} (hS : xWF S) {v0 : Nat} {v1 : Int64} {v3 : Nat} {D : xDt} {r : Int64 × xDt} (k0 : xK S v0 10) (k3 : xK S v3 100) (h : f_X10_drawn F P S v0 v1 v3 D = some r) : xSp md_X10_drawn (0, 0, 0) [.ref v0, .long v1, .ref v3] (S, D) (xQl S r) := by
  unfold f_X10_drawn at h
  refine xEntry (by decide) (Nat.le_of_ble_eq_true rfl) ?_
  refine x_lv (lv' := [(0, .ref v0), (1, .long v1), (3, .ref v3)]) [0, 1, 2] rfl ?_
  refine x_lconst 0 dX10_drawn_0 (by decide) ?_
  refine y_lstore 0 rfl [(4, .long 0), (0, .ref v0), (1, .long v1), (3, .ref v3)] dX10_drawn_1 (by show _ < 7; decide) rfl ?_
  refine x_iconst 0 dX10_drawn_3 (by decide) ?_
  refine y_istore 0 rfl [(6, .int 0), (4, .long 0), (0, .ref v0), (1, .long v1), (3, .ref v3)] dX10_drawn_4 (by show _ < 7; decide) rfl ?_
  refine x_lv (lv' := [(0, .ref v0), (1, .long v1), (3, .ref v3), (4, .long 0), (6, .int 0)]) [2, 3, 4, 1, 0] rfl ?_
  exact t_X10_drawn_6 hS F k0 k3 h

theorem dX10_take_0 : decode cX10_take 0 = .ok (.aload_n 0, 1) := by decide +kernel
theorem dX10_take_1 : decode cX10_take 1 = .ok (.iload 4, 2) := by decide +kernel
theorem dX10_take_3 : decode cX10_take 3 = .ok (.bipush 64, 2) := by decide +kernel
theorem dX10_take_5 : decode cX10_take 5 = .ok (.invokestatic 48, 3) := by decide +kernel
theorem dX10_take_8 : decode cX10_take 8 = .ok (.putfield 18, 3) := by decide +kernel
theorem dX10_take_11 : decode cX10_take 11 = .ok (.iconst 0, 1) := by decide +kernel
theorem dX10_take_12 : decode cX10_take 12 = .ok (.istore 5, 2) := by decide +kernel
theorem dX10_take_14 : decode cX10_take 14 = .ok (.iload 5, 2) := by decide +kernel
theorem dX10_take_16 : decode cX10_take 16 = .ok (.bipush 8, 2) := by decide +kernel
theorem dX10_take_18 : decode cX10_take 18 = .ok (.if_icmp .ge 28, 3) := by decide +kernel
theorem dX10_take_21 : decode cX10_take 21 = .ok (.aload_n 0, 1) := by decide +kernel
theorem dX10_take_22 : decode cX10_take 22 = .ok (.getfield 9, 3) := by decide +kernel
theorem dX10_take_25 : decode cX10_take 25 = .ok (.iload 5, 2) := by decide +kernel
theorem dX10_take_27 : decode cX10_take 27 = .ok (.aload_n 0, 1) := by decide +kernel
theorem dX10_take_28 : decode cX10_take 28 = .ok (.aload_n 1, 1) := by decide +kernel
theorem dX10_take_29 : decode cX10_take 29 = .ok (.getfield 9, 3) := by decide +kernel
theorem dX10_take_32 : decode cX10_take 32 = .ok (.iload 5, 2) := by decide +kernel
theorem dX10_take_34 : decode cX10_take 34 = .ok (.laload, 1) := by decide +kernel
theorem dX10_take_35 : decode cX10_take 35 = .ok (.aload_n 3, 1) := by decide +kernel
theorem dX10_take_36 : decode cX10_take 36 = .ok (.invokevirtual 54, 3) := by decide +kernel
theorem dX10_take_39 : decode cX10_take 39 = .ok (.lastore, 1) := by decide +kernel
theorem dX10_take_40 : decode cX10_take 40 = .ok (.iinc 5 1, 3) := by decide +kernel
theorem dX10_take_43 : decode cX10_take 43 = .ok (.goto (-29), 3) := by decide +kernel
theorem dX10_take_46 : decode cX10_take 46 = .ok (.iconst 0, 1) := by decide +kernel
theorem dX10_take_47 : decode cX10_take 47 = .ok (.istore 5, 2) := by decide +kernel
theorem dX10_take_49 : decode cX10_take 49 = .ok (.iload 5, 2) := by decide +kernel
theorem dX10_take_51 : decode cX10_take 51 = .ok (.iconst 4, 1) := by decide +kernel
theorem dX10_take_52 : decode cX10_take 52 = .ok (.if_icmp .ge 58, 3) := by decide +kernel
theorem dX10_take_55 : decode cX10_take 55 = .ok (.iload 5, 2) := by decide +kernel
theorem dX10_take_57 : decode cX10_take 57 = .ok (.bipush 64, 2) := by decide +kernel
theorem dX10_take_59 : decode cX10_take 59 = .ok (.imul, 1) := by decide +kernel
theorem dX10_take_60 : decode cX10_take 60 = .ok (.istore 6, 2) := by decide +kernel
theorem dX10_take_62 : decode cX10_take 62 = .ok (.iconst 0, 1) := by decide +kernel
theorem dX10_take_63 : decode cX10_take 63 = .ok (.istore 7, 2) := by decide +kernel
theorem dX10_take_65 : decode cX10_take 65 = .ok (.iload 7, 2) := by decide +kernel
theorem dX10_take_67 : decode cX10_take 67 = .ok (.aload_n 0, 1) := by decide +kernel
theorem dX10_take_68 : decode cX10_take 68 = .ok (.getfield 18, 3) := by decide +kernel
theorem dX10_take_71 : decode cX10_take 71 = .ok (.if_icmp .ge 33, 3) := by decide +kernel
theorem dX10_take_74 : decode cX10_take 74 = .ok (.aload_n 0, 1) := by decide +kernel
theorem dX10_take_75 : decode cX10_take 75 = .ok (.getfield 15, 3) := by decide +kernel
theorem dX10_take_78 : decode cX10_take 78 = .ok (.iload 6, 2) := by decide +kernel
theorem dX10_take_80 : decode cX10_take 80 = .ok (.iload 7, 2) := by decide +kernel
theorem dX10_take_82 : decode cX10_take 82 = .ok (.iadd, 1) := by decide +kernel
theorem dX10_take_83 : decode cX10_take 83 = .ok (.aload_n 0, 1) := by decide +kernel
theorem dX10_take_84 : decode cX10_take 84 = .ok (.aload_n 2, 1) := by decide +kernel
theorem dX10_take_85 : decode cX10_take 85 = .ok (.iload 6, 2) := by decide +kernel
theorem dX10_take_87 : decode cX10_take 87 = .ok (.aload_n 3, 1) := by decide +kernel
theorem dX10_take_88 : decode cX10_take 88 = .ok (.iload 7, 2) := by decide +kernel
theorem dX10_take_90 : decode cX10_take 90 = .ok (.iaload, 1) := by decide +kernel
theorem dX10_take_91 : decode cX10_take 91 = .ok (.iadd, 1) := by decide +kernel
theorem dX10_take_92 : decode cX10_take 92 = .ok (.laload, 1) := by decide +kernel
theorem dX10_take_93 : decode cX10_take 93 = .ok (.aload_n 3, 1) := by decide +kernel
theorem dX10_take_94 : decode cX10_take 94 = .ok (.invokevirtual 54, 3) := by decide +kernel
theorem dX10_take_97 : decode cX10_take 97 = .ok (.lastore, 1) := by decide +kernel
theorem dX10_take_98 : decode cX10_take 98 = .ok (.iinc 7 1, 3) := by decide +kernel
theorem dX10_take_101 : decode cX10_take 101 = .ok (.goto (-36), 3) := by decide +kernel
theorem dX10_take_104 : decode cX10_take 104 = .ok (.iinc 5 1, 3) := by decide +kernel
theorem dX10_take_107 : decode cX10_take 107 = .ok (.goto (-58), 3) := by decide +kernel
theorem dX10_take_110 : decode cX10_take 110 = .ok (.return_, 1) := by decide +kernel
def f_X10_take_65s (F P : Nat) (S : xSt) (rec_49 : Nat → Nat → Nat → Int32 → xDt → Option (xDt)) (rec_65 : Nat → Nat → Nat → Int32 → Int32 → Int32 → xDt → Option (xDt)) (v0 : Nat) (v2 : Nat) (v3 : Nat) (v5 : Int32) (v6 : Int32) (v7 : Int32) (D : xDt) : Option (xDt) :=
  if (D.1 v0 0) ≤ v7 then (xlet (v5 + 1) fun v5_1 => rec_49 v0 v2 v3 v5_1 D) else (xgrd (xin v7 (xl S v3)) (xgrd (xin (v6 + (D.1 v3 (v7).toNatClampNeg)) (xl S v2)) ((f_X10_drawn F P S v0 (D.2 v2 (v6 + (D.1 v3 (v7).toNatClampNeg)).toNatClampNeg) v3 D).bind fun q4 => xgrd (xin (v6 + v7) (xl S (xr S v0 2))) (xlet (q4.2.1, xup q4.2.2 (xr S v0 2) (v6 + v7).toNatClampNeg q4.1) fun D6 => xlet (v7 + 1) fun v7_7 => rec_65 v0 v2 v3 v5 v6 v7_7 D6))))
def f_X10_take_65 (F P : Nat) (S : xSt) (rec_49 : Nat → Nat → Nat → Int32 → xDt → Option (xDt)) : Nat → Nat → Nat → Nat → Int32 → Int32 → Int32 → xDt → Option (xDt)
  | 0 => fun _ _ _ _ _ _ _ => none
  | n + 1 => f_X10_take_65s F P S rec_49 (f_X10_take_65 F P S rec_49 n)
set_option maxHeartbeats 4000000 in
theorem t_X10_take_65s {F P : Nat} {S : xSt} (hS : xWF S) {rec_49 : Nat → Nat → Nat → Int32 → xDt → Option (xDt)} (hrec_49 : ∀ {v0 : Nat} {v2 : Nat} {v3 : Nat} {v5 : Int32} {D : xDt} {r : xDt}, xK S v0 10 → xK S v2 101 → xK S v3 100 → rec_49 v0 v2 v3 v5 D = some r → yEx md_X10_take 1 49 [(0, .ref v0), (2, .ref v2), (3, .ref v3), (5, .int v5)] [] S D (xQv S r)) {rec_65 : Nat → Nat → Nat → Int32 → Int32 → Int32 → xDt → Option (xDt)} (hrec_65 : ∀ {v0 : Nat} {v2 : Nat} {v3 : Nat} {v5 : Int32} {v6 : Int32} {v7 : Int32} {D : xDt} {r : xDt}, xK S v0 10 → xK S v2 101 → xK S v3 100 → rec_65 v0 v2 v3 v5 v6 v7 D = some r → yEx md_X10_take 1 65 [(0, .ref v0), (2, .ref v2), (3, .ref v3), (5, .int v5), (6, .int v6), (7, .int v7)] [] S D (xQv S r)) {v0 : Nat} {v2 : Nat} {v3 : Nat} {v5 : Int32} {v6 : Int32} {v7 : Int32} {D : xDt} {r : xDt} (k0 : xK S v0 10) (k2 : xK S v2 101) (k3 : xK S v3 100) (h : f_X10_take_65s F P S rec_49 rec_65 v0 v2 v3 v5 v6 v7 D = some r) : yEx md_X10_take 1 65 [(0, .ref v0), (2, .ref v2), (3, .ref v3), (5, .int v5), (6, .int v6), (7, .int v7)] [] S D (xQv S r) := by
  unfold f_X10_take_65s at h
  refine x_iload dX10_take_65 5 rfl ?_
  refine x_aload_n dX10_take_67 0 rfl ?_
  refine y_geti fl_RX10_18 dX10_take_68 rfl k0 ?_
  refine x_icmp_ge 104 dX10_take_71 (by decide) (fun c => ?_) (fun c => ?_)
  · rw [if_pos c] at h
    refine xlet_e h (fun v5_1 ev5_1 h => ?_)
    refine y_iinc v5_1 ev5_1 (by decide) [(5, .int v5_1), (0, .ref v0), (2, .ref v2), (3, .ref v3), (6, .int v6), (7, .int v7)] dX10_take_104 3 rfl (by show _ < 8; decide) rfl ?_
    refine x_goto 49 dX10_take_107 (by decide) ?_
    refine x_lv (lv' := [(0, .ref v0), (2, .ref v2), (3, .ref v3), (5, .int v5_1)]) [1, 2, 3, 0] rfl ?_
    exact hrec_49 k0 k2 k3 h
  · rw [if_neg c] at h
    refine x_aload_n dX10_take_74 0 rfl ?_
    refine y_getr (kd := 101) hS fl_RX10_15 dX10_take_75 rfl k0 ?_
    refine x_iload dX10_take_78 4 rfl ?_
    refine x_iload dX10_take_80 5 rfl ?_
    refine x_iadd dX10_take_82 ?_
    refine x_aload_n dX10_take_83 0 rfl ?_
    refine x_aload_n dX10_take_84 1 rfl ?_
    refine x_iload dX10_take_85 4 rfl ?_
    refine x_aload_n dX10_take_87 2 rfl ?_
    refine x_iload dX10_take_88 5 rfl ?_
    refine xgrd_e h (fun g2 h => ?_)
    refine y_iald dX10_take_90 k3 g2 ?_
    refine x_iadd dX10_take_91 ?_
    refine xgrd_e h (fun g3 h => ?_)
    refine y_lald dX10_take_92 k2 g3 ?_
    refine x_aload_n dX10_take_93 2 rfl ?_
    refine xbnd_e h (fun q4 e4 h => ?_)
    refine y_callVl (As := [.long (D.2 v2 (v6 + (D.1 v3 (v7).toNatClampNeg)).toNatClampNeg), .ref v3]) (q := q4) cv_RX10_54 dX10_take_94 k0 rfl (Nat.le_of_ble_eq_true rfl) (by omega) (S_X10_drawn hS k0 k3 e4) ?_
    refine xgrd_e h (fun g5 h => ?_)
    refine xlet_e h (fun D6 eD6 h => ?_)
    refine y_last dX10_take_97 ((hS.f k0 2 101 rfl).2) g5 eD6 ?_
    refine xlet_e h (fun v7_7 ev7_7 h => ?_)
    refine y_iinc v7_7 ev7_7 (by decide) [(7, .int v7_7), (0, .ref v0), (2, .ref v2), (3, .ref v3), (5, .int v5), (6, .int v6)] dX10_take_98 5 rfl (by show _ < 8; decide) rfl ?_
    refine x_goto 65 dX10_take_101 (by decide) ?_
    refine x_lv (lv' := [(0, .ref v0), (2, .ref v2), (3, .ref v3), (5, .int v5), (6, .int v6), (7, .int v7_7)]) [1, 2, 3, 4, 5, 0] rfl ?_
    exact hrec_65 k0 k2 k3 h
theorem t_X10_take_65 {F P : Nat} {S : xSt} (hS : xWF S) {rec_49 : Nat → Nat → Nat → Int32 → xDt → Option (xDt)} (hrec_49 : ∀ {v0 : Nat} {v2 : Nat} {v3 : Nat} {v5 : Int32} {D : xDt} {r : xDt}, xK S v0 10 → xK S v2 101 → xK S v3 100 → rec_49 v0 v2 v3 v5 D = some r → yEx md_X10_take 1 49 [(0, .ref v0), (2, .ref v2), (3, .ref v3), (5, .int v5)] [] S D (xQv S r)) : ∀ (n : Nat) {v0 : Nat} {v2 : Nat} {v3 : Nat} {v5 : Int32} {v6 : Int32} {v7 : Int32} {D : xDt} {r : xDt}, xK S v0 10 → xK S v2 101 → xK S v3 100 → f_X10_take_65 F P S rec_49 n v0 v2 v3 v5 v6 v7 D = some r → yEx md_X10_take 1 65 [(0, .ref v0), (2, .ref v2), (3, .ref v3), (5, .int v5), (6, .int v6), (7, .int v7)] [] S D (xQv S r) := by
  intro n
  induction n with
  | zero => intros; rename_i h; cases h
  | succ n ih =>
    intro v0 v2 v3 v5 v6 v7 D r k0 k2 k3 h
    exact t_X10_take_65s hS hrec_49 (fun k0 k2 k3 h => ih k0 k2 k3 h) k0 k2 k3 h

def f_X10_take_49s (F P : Nat) (S : xSt) (rec_49 : Nat → Nat → Nat → Int32 → xDt → Option (xDt)) (v0 : Nat) (v2 : Nat) (v3 : Nat) (v5 : Int32) (D : xDt) : Option (xDt) :=
  if 4 ≤ v5 then (some D) else (xlet (v5 * 64) fun v6_1 => f_X10_take_65 F P S rec_49 F v0 v2 v3 v5 v6_1 0 D)
def f_X10_take_49 (F P : Nat) (S : xSt) : Nat → Nat → Nat → Nat → Int32 → xDt → Option (xDt)
  | 0 => fun _ _ _ _ _ => none
  | n + 1 => f_X10_take_49s F P S (f_X10_take_49 F P S n)
set_option maxHeartbeats 4000000 in
theorem t_X10_take_49s {F P : Nat} {S : xSt} (hS : xWF S) {rec_49 : Nat → Nat → Nat → Int32 → xDt → Option (xDt)} (hrec_49 : ∀ {v0 : Nat} {v2 : Nat} {v3 : Nat} {v5 : Int32} {D : xDt} {r : xDt}, xK S v0 10 → xK S v2 101 → xK S v3 100 → rec_49 v0 v2 v3 v5 D = some r → yEx md_X10_take 1 49 [(0, .ref v0), (2, .ref v2), (3, .ref v3), (5, .int v5)] [] S D (xQv S r)) {v0 : Nat} {v2 : Nat} {v3 : Nat} {v5 : Int32} {D : xDt} {r : xDt} (k0 : xK S v0 10) (k2 : xK S v2 101) (k3 : xK S v3 100) (h : f_X10_take_49s F P S rec_49 v0 v2 v3 v5 D = some r) : yEx md_X10_take 1 49 [(0, .ref v0), (2, .ref v2), (3, .ref v3), (5, .int v5)] [] S D (xQv S r) := by
  unfold f_X10_take_49s at h
  refine x_iload dX10_take_49 3 rfl ?_
  refine x_iconst 4 dX10_take_51 (by decide) ?_
  refine x_icmp_ge 110 dX10_take_52 (by decide) (fun c => ?_) (fun c => ?_)
  · rw [if_pos c] at h
    obtain rfl := Option.some.inj h
    exact y_vret rfl dX10_take_110
  · rw [if_neg c] at h
    refine x_iload dX10_take_55 3 rfl ?_
    refine x_bipush 64 dX10_take_57 (by decide) ?_
    refine x_imul dX10_take_59 ?_
    refine xlet_e h (fun v6_1 ev6_1 h => ?_)
    refine y_istore v6_1 ev6_1 [(6, .int v6_1), (0, .ref v0), (2, .ref v2), (3, .ref v3), (5, .int v5)] dX10_take_60 (by show _ < 8; decide) rfl ?_
    refine x_iconst 0 dX10_take_62 (by decide) ?_
    refine y_istore 0 rfl [(7, .int 0), (6, .int v6_1), (0, .ref v0), (2, .ref v2), (3, .ref v3), (5, .int v5)] dX10_take_63 (by show _ < 8; decide) rfl ?_
    refine x_lv (lv' := [(0, .ref v0), (2, .ref v2), (3, .ref v3), (5, .int v5), (6, .int v6_1), (7, .int 0)]) [2, 3, 4, 5, 1, 0] rfl ?_
    exact t_X10_take_65 hS hrec_49 F k0 k2 k3 h
theorem t_X10_take_49 {F P : Nat} {S : xSt} (hS : xWF S) : ∀ (n : Nat) {v0 : Nat} {v2 : Nat} {v3 : Nat} {v5 : Int32} {D : xDt} {r : xDt}, xK S v0 10 → xK S v2 101 → xK S v3 100 → f_X10_take_49 F P S n v0 v2 v3 v5 D = some r → yEx md_X10_take 1 49 [(0, .ref v0), (2, .ref v2), (3, .ref v3), (5, .int v5)] [] S D (xQv S r) := by
  intro n
  induction n with
  | zero => intros; rename_i h; cases h
  | succ n ih =>
    intro v0 v2 v3 v5 D r k0 k2 k3 h
    exact t_X10_take_49s hS (fun k0 k2 k3 h => ih k0 k2 k3 h) k0 k2 k3 h

def f_X10_take_14s (F P : Nat) (S : xSt) (rec_14 : Nat → Nat → Nat → Nat → Int32 → xDt → Option (xDt)) (v0 : Nat) (v1 : Nat) (v2 : Nat) (v3 : Nat) (v5 : Int32) (D : xDt) : Option (xDt) :=
  if 8 ≤ v5 then (f_X10_take_49 F P S F v0 v2 v3 0 D) else (xgrd (xin v5 (xl S (xr S v1 1))) ((f_X10_drawn F P S v0 (D.2 (xr S v1 1) (v5).toNatClampNeg) v3 D).bind fun q2 => xgrd (xin v5 (xl S (xr S v0 1))) (xlet (q2.2.1, xup q2.2.2 (xr S v0 1) (v5).toNatClampNeg q2.1) fun D4 => xlet (v5 + 1) fun v5_5 => rec_14 v0 v1 v2 v3 v5_5 D4)))
def f_X10_take_14 (F P : Nat) (S : xSt) : Nat → Nat → Nat → Nat → Nat → Int32 → xDt → Option (xDt)
  | 0 => fun _ _ _ _ _ _ => none
  | n + 1 => f_X10_take_14s F P S (f_X10_take_14 F P S n)
set_option maxHeartbeats 4000000 in
theorem t_X10_take_14s {F P : Nat} {S : xSt} (hS : xWF S) {rec_14 : Nat → Nat → Nat → Nat → Int32 → xDt → Option (xDt)} (hrec_14 : ∀ {v0 : Nat} {v1 : Nat} {v2 : Nat} {v3 : Nat} {v5 : Int32} {D : xDt} {r : xDt}, xK S v0 10 → xK S v1 10 → xK S v2 101 → xK S v3 100 → rec_14 v0 v1 v2 v3 v5 D = some r → yEx md_X10_take 1 14 [(0, .ref v0), (1, .ref v1), (2, .ref v2), (3, .ref v3), (5, .int v5)] [] S D (xQv S r)) {v0 : Nat} {v1 : Nat} {v2 : Nat} {v3 : Nat} {v5 : Int32} {D : xDt} {r : xDt} (k0 : xK S v0 10) (k1 : xK S v1 10) (k2 : xK S v2 101) (k3 : xK S v3 100) (h : f_X10_take_14s F P S rec_14 v0 v1 v2 v3 v5 D = some r) : yEx md_X10_take 1 14 [(0, .ref v0), (1, .ref v1), (2, .ref v2), (3, .ref v3), (5, .int v5)] [] S D (xQv S r) := by
  unfold f_X10_take_14s at h
  refine x_iload dX10_take_14 4 rfl ?_
  refine x_bipush 8 dX10_take_16 (by decide) ?_
  refine x_icmp_ge 46 dX10_take_18 (by decide) (fun c => ?_) (fun c => ?_)
  · rw [if_pos c] at h
    refine x_iconst 0 dX10_take_46 (by decide) ?_
    refine y_istore 0 rfl [(5, .int 0), (0, .ref v0), (1, .ref v1), (2, .ref v2), (3, .ref v3)] dX10_take_47 (by show _ < 8; decide) rfl ?_
    refine x_lv (lv' := [(0, .ref v0), (2, .ref v2), (3, .ref v3), (5, .int 0)]) [1, 3, 4, 0] rfl ?_
    exact t_X10_take_49 hS F k0 k2 k3 h
  · rw [if_neg c] at h
    refine x_aload_n dX10_take_21 0 rfl ?_
    refine y_getr (kd := 101) hS fl_RX10_9 dX10_take_22 rfl k0 ?_
    refine x_iload dX10_take_25 4 rfl ?_
    refine x_aload_n dX10_take_27 0 rfl ?_
    refine x_aload_n dX10_take_28 1 rfl ?_
    refine y_getr (kd := 101) hS fl_RX10_9 dX10_take_29 rfl k1 ?_
    refine x_iload dX10_take_32 4 rfl ?_
    refine xgrd_e h (fun g1 h => ?_)
    refine y_lald dX10_take_34 ((hS.f k1 1 101 rfl).2) g1 ?_
    refine x_aload_n dX10_take_35 3 rfl ?_
    refine xbnd_e h (fun q2 e2 h => ?_)
    refine y_callVl (As := [.long (D.2 (xr S v1 1) (v5).toNatClampNeg), .ref v3]) (q := q2) cv_RX10_54 dX10_take_36 k0 rfl (Nat.le_of_ble_eq_true rfl) (by omega) (S_X10_drawn hS k0 k3 e2) ?_
    refine xgrd_e h (fun g3 h => ?_)
    refine xlet_e h (fun D4 eD4 h => ?_)
    refine y_last dX10_take_39 ((hS.f k0 1 101 rfl).2) g3 eD4 ?_
    refine xlet_e h (fun v5_5 ev5_5 h => ?_)
    refine y_iinc v5_5 ev5_5 (by decide) [(5, .int v5_5), (0, .ref v0), (1, .ref v1), (2, .ref v2), (3, .ref v3)] dX10_take_40 4 rfl (by show _ < 8; decide) rfl ?_
    refine x_goto 14 dX10_take_43 (by decide) ?_
    refine x_lv (lv' := [(0, .ref v0), (1, .ref v1), (2, .ref v2), (3, .ref v3), (5, .int v5_5)]) [1, 2, 3, 4, 0] rfl ?_
    exact hrec_14 k0 k1 k2 k3 h
theorem t_X10_take_14 {F P : Nat} {S : xSt} (hS : xWF S) : ∀ (n : Nat) {v0 : Nat} {v1 : Nat} {v2 : Nat} {v3 : Nat} {v5 : Int32} {D : xDt} {r : xDt}, xK S v0 10 → xK S v1 10 → xK S v2 101 → xK S v3 100 → f_X10_take_14 F P S n v0 v1 v2 v3 v5 D = some r → yEx md_X10_take 1 14 [(0, .ref v0), (1, .ref v1), (2, .ref v2), (3, .ref v3), (5, .int v5)] [] S D (xQv S r) := by
  intro n
  induction n with
  | zero => intros; rename_i h; cases h
  | succ n ih =>
    intro v0 v1 v2 v3 v5 D r k0 k1 k2 k3 h
    exact t_X10_take_14s hS (fun k0 k1 k2 k3 h => ih k0 k1 k2 k3 h) k0 k1 k2 k3 h

def f_X10_take (F P : Nat) (S : xSt) (v0 : Nat) (v1 : Nat) (v2 : Nat) (v3 : Nat) (v4 : Int32) (D : xDt) : Option (xDt) :=
  xlet (xup D.1 v0 0 (jmin v4 64), D.2) fun D1 => f_X10_take_14 F P S F v0 v1 v2 v3 0 D1
set_option maxHeartbeats 4000000 in
theorem S_X10_take {F P : Nat} {S : xSt} (hS : xWF S) {v0 : Nat} {v1 : Nat} {v2 : Nat} {v3 : Nat} {v4 : Int32} {D : xDt} {r : xDt} (k0 : xK S v0 10) (k1 : xK S v1 10) (k2 : xK S v2 101) (k3 : xK S v3 100) (h : f_X10_take F P S v0 v1 v2 v3 v4 D = some r) : xSp md_X10_take (1, 0, 0) [.ref v0, .ref v1, .ref v2, .ref v3, .int v4] (S, D) (xQv S r) := by
  unfold f_X10_take at h
  refine xEntry (by decide) (Nat.le_of_ble_eq_true rfl) ?_
  refine x_lv (lv' := [(0, .ref v0), (1, .ref v1), (2, .ref v2), (3, .ref v3), (4, .int v4)]) [0, 1, 2, 3, 4] rfl ?_
  refine x_aload_n dX10_take_0 0 rfl ?_
  refine x_iload dX10_take_1 4 rfl ?_
  refine x_bipush 64 dX10_take_3 (by decide) ?_
  refine y_min mm_RX10_48 dX10_take_5 (Nat.le_of_ble_eq_true rfl) (by omega) ?_
  refine xlet_e h (fun D1 eD1 h => ?_)
  refine y_puti fp_RX10_18 dX10_take_8 rfl k0 eD1 ?_
  refine x_iconst 0 dX10_take_11 (by decide) ?_
  refine y_istore 0 rfl [(5, .int 0), (0, .ref v0), (1, .ref v1), (2, .ref v2), (3, .ref v3), (4, .int v4)] dX10_take_12 (by show _ < 8; decide) rfl ?_
  refine x_lv (lv' := [(0, .ref v0), (1, .ref v1), (2, .ref v2), (3, .ref v3), (5, .int 0)]) [1, 2, 3, 4, 0] rfl ?_
  exact t_X10_take_14 hS F k0 k1 k2 k3 h

theorem dX11_worldsEdited_0 : decode cX11_worldsEdited 0 = .ok (.aload_n 0, 1) := by decide +kernel
theorem dX11_worldsEdited_1 : decode cX11_worldsEdited 1 = .ok (.getfield 19, 3) := by decide +kernel
theorem dX11_worldsEdited_4 : decode cX11_worldsEdited 4 = .ok (.iconst 0, 1) := by decide +kernel
theorem dX11_worldsEdited_5 : decode cX11_worldsEdited 5 = .ok (.putfield 207, 3) := by decide +kernel
theorem dX11_worldsEdited_8 : decode cX11_worldsEdited 8 = .ok (.aload_n 0, 1) := by decide +kernel
theorem dX11_worldsEdited_9 : decode cX11_worldsEdited 9 = .ok (.iconst 0, 1) := by decide +kernel
theorem dX11_worldsEdited_10 : decode cX11_worldsEdited 10 = .ok (.putfield 211, 3) := by decide +kernel
theorem dX11_worldsEdited_13 : decode cX11_worldsEdited 13 = .ok (.return_, 1) := by decide +kernel
def f_X11_worldsEdited (F P : Nat) (S : xSt) (v0 : Nat) (D : xDt) : Option (xDt) :=
  xlet (xup D.1 (xr S v0 1) 2 0, D.2) fun D1 => xlet (xup D1.1 v0 13 0, D1.2) fun D2 => some D2
set_option maxHeartbeats 4000000 in
theorem S_X11_worldsEdited {F P : Nat} {S : xSt} (hS : xWF S) {v0 : Nat} {D : xDt} {r : xDt} (k0 : xK S v0 11) (h : f_X11_worldsEdited F P S v0 D = some r) : xSp md_X11_worldsEdited (0, 0, 0) [.ref v0] (S, D) (xQv S r) := by
  unfold f_X11_worldsEdited at h
  refine xEntry (by decide) (Nat.le_of_ble_eq_true rfl) ?_
  refine x_lv (lv' := [(0, .ref v0)]) [0] rfl ?_
  refine x_aload_n dX11_worldsEdited_0 0 rfl ?_
  refine y_getr (kd := 5) hS fl_RX11_19 dX11_worldsEdited_1 rfl k0 ?_
  refine x_iconst 0 dX11_worldsEdited_4 (by decide) ?_
  refine xlet_e h (fun D1 eD1 h => ?_)
  refine y_puti fp_RX11_207 dX11_worldsEdited_5 rfl ((hS.f k0 1 5 rfl).2) eD1 ?_
  refine x_aload_n dX11_worldsEdited_8 0 rfl ?_
  refine x_iconst 0 dX11_worldsEdited_9 (by decide) ?_
  refine xlet_e h (fun D2 eD2 h => ?_)
  refine y_putz rfl fp_RX11_211 dX11_worldsEdited_10 rfl k0 eD2 ?_
  obtain rfl := Option.some.inj h
  exact y_vret rfl dX11_worldsEdited_13

theorem dX11_world_0 : decode cX11_world 0 = .ok (.iload_n 1, 1) := by decide +kernel
theorem dX11_world_1 : decode cX11_world 1 = .ok (.ifCond .lt 22, 3) := by decide +kernel
theorem dX11_world_4 : decode cX11_world 4 = .ok (.iload_n 1, 1) := by decide +kernel
theorem dX11_world_5 : decode cX11_world 5 = .ok (.sipush 256, 3) := by decide +kernel
theorem dX11_world_8 : decode cX11_world 8 = .ok (.if_icmp .ge 15, 3) := by decide +kernel
theorem dX11_world_11 : decode cX11_world 11 = .ok (.aload_n 0, 1) := by decide +kernel
theorem dX11_world_12 : decode cX11_world 12 = .ok (.getfield 10, 3) := by decide +kernel
theorem dX11_world_15 : decode cX11_world 15 = .ok (.getfield 92, 3) := by decide +kernel
theorem dX11_world_18 : decode cX11_world 18 = .ok (.bipush 64, 2) := by decide +kernel
theorem dX11_world_20 : decode cX11_world 20 = .ok (.if_icmp .lt 5, 3) := by decide +kernel
theorem dX11_world_23 : decode cX11_world 23 = .ok (.iconst (-1), 1) := by decide +kernel
theorem dX11_world_24 : decode cX11_world 24 = .ok (.ireturn, 1) := by decide +kernel
theorem dX11_world_25 : decode cX11_world 25 = .ok (.aload_n 0, 1) := by decide +kernel
theorem dX11_world_26 : decode cX11_world 26 = .ok (.invokevirtual 96, 3) := by decide +kernel
theorem dX11_world_29 : decode cX11_world 29 = .ok (.aload_n 0, 1) := by decide +kernel
theorem dX11_world_30 : decode cX11_world 30 = .ok (.getfield 10, 3) := by decide +kernel
theorem dX11_world_33 : decode cX11_world 33 = .ok (.iload_n 1, 1) := by decide +kernel
theorem dX11_world_34 : decode cX11_world 34 = .ok (.invokevirtual 99, 3) := by decide +kernel
theorem dX11_world_37 : decode cX11_world 37 = .ok (.ireturn, 1) := by decide +kernel
def f_X11_world (F P : Nat) (S : xSt) (v0 : Nat) (v1 : Int32) (D : xDt) : Option (Int32 × xDt) :=
  if v1 < 0 then (some ((-1), D)) else (if 256 ≤ v1 then (some ((-1), D)) else (if (D.1 (xr S v0 0) 0) < 64 then ((f_X11_worldsEdited F P S v0 D).bind fun q1 => (f_X10_add F P S (xr S v0 0) v1 q1).bind fun q2 => some (q2.1, q2.2)) else (some ((-1), D))))
set_option maxHeartbeats 4000000 in
theorem S_X11_world {F P : Nat} {S : xSt} (hS : xWF S) {v0 : Nat} {v1 : Int32} {D : xDt} {r : Int32 × xDt} (k0 : xK S v0 11) (h : f_X11_world F P S v0 v1 D = some r) : xSp md_X11_world (2, 0, 0) [.ref v0, .int v1] (S, D) (xQi S r) := by
  unfold f_X11_world at h
  refine xEntry (by decide) (Nat.le_of_ble_eq_true rfl) ?_
  refine x_lv (lv' := [(0, .ref v0), (1, .int v1)]) [0, 1] rfl ?_
  refine x_iload_n dX11_world_0 1 rfl ?_
  refine x_if_lt 23 dX11_world_1 (by decide) (fun c => ?_) (fun c => ?_)
  · rw [if_pos c] at h
    refine x_iconst (-1) dX11_world_23 (by decide) ?_
    obtain rfl := Option.some.inj h
    exact y_iret rfl dX11_world_24
  · rw [if_neg c] at h
    refine x_iload_n dX11_world_4 1 rfl ?_
    refine x_sipush 256 dX11_world_5 (by decide) ?_
    refine x_icmp_ge 23 dX11_world_8 (by decide) (fun c => ?_) (fun c => ?_)
    · rw [if_pos c] at h
      refine x_iconst (-1) dX11_world_23 (by decide) ?_
      obtain rfl := Option.some.inj h
      exact y_iret rfl dX11_world_24
    · rw [if_neg c] at h
      refine x_aload_n dX11_world_11 0 rfl ?_
      refine y_getr (kd := 10) hS fl_RX11_10 dX11_world_12 rfl k0 ?_
      refine y_geti fl_RX11_92 dX11_world_15 rfl ((hS.f k0 0 10 rfl).2) ?_
      refine x_bipush 64 dX11_world_18 (by decide) ?_
      refine x_icmp_lt 25 dX11_world_20 (by decide) (fun c => ?_) (fun c => ?_)
      · rw [if_pos c] at h
        refine x_aload_n dX11_world_25 0 rfl ?_
        refine xbnd_e h (fun q1 e1 h => ?_)
        refine y_callVv (As := []) (q := q1) cv_RX11_96 dX11_world_26 k0 rfl (Nat.le_of_ble_eq_true rfl) (by omega) (S_X11_worldsEdited hS k0 e1) ?_
        refine x_aload_n dX11_world_29 0 rfl ?_
        refine y_getr (kd := 10) hS fl_RX11_10 dX11_world_30 rfl k0 ?_
        refine x_iload_n dX11_world_33 1 rfl ?_
        refine xbnd_e h (fun q2 e2 h => ?_)
        refine y_callVi (As := [.int v1]) (q := q2) cv_RX11_99 dX11_world_34 ((hS.f k0 0 10 rfl).2) rfl (Nat.le_of_ble_eq_true rfl) (by omega) (S_X10_add hS ((hS.f k0 0 10 rfl).2) e2) ?_
        obtain rfl := Option.some.inj h
        exact y_iret rfl dX11_world_37
      · rw [if_neg c] at h
        refine x_iconst (-1) dX11_world_23 (by decide) ?_
        obtain rfl := Option.some.inj h
        exact y_iret rfl dX11_world_24

theorem dX11_isAgent_0 : decode cX11_isAgent 0 = .ok (.iload_n 0, 1) := by decide +kernel
theorem dX11_isAgent_1 : decode cX11_isAgent 1 = .ok (.iconst 1, 1) := by decide +kernel
theorem dX11_isAgent_2 : decode cX11_isAgent 2 = .ok (.if_icmp .lt 12, 3) := by decide +kernel
theorem dX11_isAgent_5 : decode cX11_isAgent 5 = .ok (.iload_n 0, 1) := by decide +kernel
theorem dX11_isAgent_6 : decode cX11_isAgent 6 = .ok (.iconst 4, 1) := by decide +kernel
theorem dX11_isAgent_7 : decode cX11_isAgent 7 = .ok (.if_icmp .gt 7, 3) := by decide +kernel
theorem dX11_isAgent_10 : decode cX11_isAgent 10 = .ok (.iconst 1, 1) := by decide +kernel
theorem dX11_isAgent_11 : decode cX11_isAgent 11 = .ok (.goto 4, 3) := by decide +kernel
theorem dX11_isAgent_14 : decode cX11_isAgent 14 = .ok (.iconst 0, 1) := by decide +kernel
theorem dX11_isAgent_15 : decode cX11_isAgent 15 = .ok (.ireturn, 1) := by decide +kernel
def f_X11_isAgent_14 (F P : Nat) (S : xSt) (D : xDt) : Option (Int32 × xDt) :=
  some (0, D)
set_option maxHeartbeats 4000000 in
theorem t_X11_isAgent_14 {F P : Nat} {S : xSt} (hS : xWF S) {D : xDt} {r : Int32 × xDt} (h : f_X11_isAgent_14 F P S D = some r) : yEx md_X11_isAgent 0 14 [] [] S D (xQi S r) := by
  unfold f_X11_isAgent_14 at h
  refine x_iconst 0 dX11_isAgent_14 (by decide) ?_
  obtain rfl := Option.some.inj h
  exact y_zret rfl rfl dX11_isAgent_15

def f_X11_isAgent (F P : Nat) (S : xSt) (v0 : Int32) (D : xDt) : Option (Int32 × xDt) :=
  if v0 < 1 then (f_X11_isAgent_14 F P S D) else (if 4 < v0 then (f_X11_isAgent_14 F P S D) else (some (1, D)))
set_option maxHeartbeats 4000000 in
theorem S_X11_isAgent {F P : Nat} {S : xSt} (hS : xWF S) {v0 : Int32} {D : xDt} {r : Int32 × xDt} (h : f_X11_isAgent F P S v0 D = some r) : xSp md_X11_isAgent (0, 0, 0) [.int v0] (S, D) (xQi S r) := by
  unfold f_X11_isAgent at h
  refine xEntry (by decide) (Nat.le_of_ble_eq_true rfl) ?_
  refine x_lv (lv' := [(0, .int v0)]) [0] rfl ?_
  refine x_iload_n dX11_isAgent_0 0 rfl ?_
  refine x_iconst 1 dX11_isAgent_1 (by decide) ?_
  refine x_icmp_lt 14 dX11_isAgent_2 (by decide) (fun c => ?_) (fun c => ?_)
  · rw [if_pos c] at h
    refine x_lv (lv' := []) [] rfl ?_
    exact t_X11_isAgent_14 hS h
  · rw [if_neg c] at h
    refine x_iload_n dX11_isAgent_5 0 rfl ?_
    refine x_iconst 4 dX11_isAgent_6 (by decide) ?_
    refine x_icmp_gt 14 dX11_isAgent_7 (by decide) (fun c => ?_) (fun c => ?_)
    · rw [if_pos c] at h
      refine x_lv (lv' := []) [] rfl ?_
      exact t_X11_isAgent_14 hS h
    · rw [if_neg c] at h
      refine x_iconst 1 dX11_isAgent_10 (by decide) ?_
      refine x_goto 15 dX11_isAgent_11 (by decide) ?_
      obtain rfl := Option.some.inj h
      exact y_zret rfl rfl dX11_isAgent_15

theorem dX11_tie_0 : decode cX11_tie 0 = .ok (.iload_n 1, 1) := by decide +kernel
theorem dX11_tie_1 : decode cX11_tie 1 = .ok (.invokestatic 102, 3) := by decide +kernel
theorem dX11_tie_4 : decode cX11_tie 4 = .ok (.ifCond .eq 25, 3) := by decide +kernel
theorem dX11_tie_7 : decode cX11_tie 7 = .ok (.aload_n 0, 1) := by decide +kernel
theorem dX11_tie_8 : decode cX11_tie 8 = .ok (.getfield 10, 3) := by decide +kernel
theorem dX11_tie_11 : decode cX11_tie 11 = .ok (.iload_n 2, 1) := by decide +kernel
theorem dX11_tie_12 : decode cX11_tie 12 = .ok (.invokevirtual 105, 3) := by decide +kernel
theorem dX11_tie_15 : decode cX11_tie 15 = .ok (.ifCond .eq 14, 3) := by decide +kernel
theorem dX11_tie_18 : decode cX11_tie 18 = .ok (.aload_n 0, 1) := by decide +kernel
theorem dX11_tie_19 : decode cX11_tie 19 = .ok (.getfield 10, 3) := by decide +kernel
theorem dX11_tie_22 : decode cX11_tie 22 = .ok (.iload_n 3, 1) := by decide +kernel
theorem dX11_tie_23 : decode cX11_tie 23 = .ok (.invokevirtual 105, 3) := by decide +kernel
theorem dX11_tie_26 : decode cX11_tie 26 = .ok (.ifCond .ne 5, 3) := by decide +kernel
theorem dX11_tie_29 : decode cX11_tie 29 = .ok (.iconst (-1), 1) := by decide +kernel
theorem dX11_tie_30 : decode cX11_tie 30 = .ok (.ireturn, 1) := by decide +kernel
theorem dX11_tie_31 : decode cX11_tie 31 = .ok (.aload_n 0, 1) := by decide +kernel
theorem dX11_tie_32 : decode cX11_tie 32 = .ok (.invokevirtual 96, 3) := by decide +kernel
theorem dX11_tie_35 : decode cX11_tie 35 = .ok (.aload_n 0, 1) := by decide +kernel
theorem dX11_tie_36 : decode cX11_tie 36 = .ok (.getfield 10, 3) := by decide +kernel
theorem dX11_tie_39 : decode cX11_tie 39 = .ok (.iload_n 1, 1) := by decide +kernel
theorem dX11_tie_40 : decode cX11_tie 40 = .ok (.iconst 1, 1) := by decide +kernel
theorem dX11_tie_41 : decode cX11_tie 41 = .ok (.isub, 1) := by decide +kernel
theorem dX11_tie_42 : decode cX11_tie 42 = .ok (.iload_n 2, 1) := by decide +kernel
theorem dX11_tie_43 : decode cX11_tie 43 = .ok (.iload_n 3, 1) := by decide +kernel
theorem dX11_tie_44 : decode cX11_tie 44 = .ok (.invokevirtual 108, 3) := by decide +kernel
theorem dX11_tie_47 : decode cX11_tie 47 = .ok (.ireturn, 1) := by decide +kernel
def f_X11_tie (F P : Nat) (S : xSt) (v0 : Nat) (v1 : Int32) (v2 : Int32) (v3 : Int32) (D : xDt) : Option (Int32 × xDt) :=
  (f_X11_isAgent F P S v1 D).bind fun q1 => if q1.1 = 0 then (some ((-1), q1.2)) else ((f_X10_has F P S (xr S v0 0) v2 q1.2).bind fun q2 => if q2.1 = 0 then (some ((-1), q2.2)) else ((f_X10_has F P S (xr S v0 0) v3 q2.2).bind fun q3 => if q3.1 = 0 then (some ((-1), q3.2)) else ((f_X11_worldsEdited F P S v0 q3.2).bind fun q4 => (f_X10_merge F P S (xr S v0 0) (v1 - 1) v2 v3 q4).bind fun q5 => some (q5.1, q5.2))))
set_option maxHeartbeats 4000000 in
theorem S_X11_tie {F P : Nat} {S : xSt} (hS : xWF S) {v0 : Nat} {v1 : Int32} {v2 : Int32} {v3 : Int32} {D : xDt} {r : Int32 × xDt} (k0 : xK S v0 11) (h : f_X11_tie F P S v0 v1 v2 v3 D = some r) : xSp md_X11_tie (2, 0, 0) [.ref v0, .int v1, .int v2, .int v3] (S, D) (xQi S r) := by
  unfold f_X11_tie at h
  refine xEntry (by decide) (Nat.le_of_ble_eq_true rfl) ?_
  refine x_lv (lv' := [(0, .ref v0), (1, .int v1), (2, .int v2), (3, .int v3)]) [0, 1, 2, 3] rfl ?_
  refine x_iload_n dX11_tie_0 1 rfl ?_
  refine xbnd_e h (fun q1 e1 h => ?_)
  refine y_callSi (As := [.int v1]) (q := q1) cs_RX11_102 dX11_tie_1 rfl (Nat.le_of_ble_eq_true rfl) (by omega) (S_X11_isAgent hS e1) ?_
  refine x_if_eq 29 dX11_tie_4 (by decide) (fun c => ?_) (fun c => ?_)
  · rw [if_pos c] at h
    refine x_iconst (-1) dX11_tie_29 (by decide) ?_
    obtain rfl := Option.some.inj h
    exact y_iret rfl dX11_tie_30
  · rw [if_neg c] at h
    refine x_aload_n dX11_tie_7 0 rfl ?_
    refine y_getr (kd := 10) hS fl_RX11_10 dX11_tie_8 rfl k0 ?_
    refine x_iload_n dX11_tie_11 2 rfl ?_
    refine xbnd_e h (fun q2 e2 h => ?_)
    refine y_callVi (As := [.int v2]) (q := q2) cv_RX11_105 dX11_tie_12 ((hS.f k0 0 10 rfl).2) rfl (Nat.le_of_ble_eq_true rfl) (by omega) (S_X10_has hS ((hS.f k0 0 10 rfl).2) e2) ?_
    refine x_if_eq 29 dX11_tie_15 (by decide) (fun c => ?_) (fun c => ?_)
    · rw [if_pos c] at h
      refine x_iconst (-1) dX11_tie_29 (by decide) ?_
      obtain rfl := Option.some.inj h
      exact y_iret rfl dX11_tie_30
    · rw [if_neg c] at h
      refine x_aload_n dX11_tie_18 0 rfl ?_
      refine y_getr (kd := 10) hS fl_RX11_10 dX11_tie_19 rfl k0 ?_
      refine x_iload_n dX11_tie_22 3 rfl ?_
      refine xbnd_e h (fun q3 e3 h => ?_)
      refine y_callVi (As := [.int v3]) (q := q3) cv_RX11_105 dX11_tie_23 ((hS.f k0 0 10 rfl).2) rfl (Nat.le_of_ble_eq_true rfl) (by omega) (S_X10_has hS ((hS.f k0 0 10 rfl).2) e3) ?_
      refine x_if_ne 31 dX11_tie_26 (by decide) (fun c => ?_) (fun c => ?_)
      · rw [if_neg c] at h
        refine x_aload_n dX11_tie_31 0 rfl ?_
        refine xbnd_e h (fun q4 e4 h => ?_)
        refine y_callVv (As := []) (q := q4) cv_RX11_96 dX11_tie_32 k0 rfl (Nat.le_of_ble_eq_true rfl) (by omega) (S_X11_worldsEdited hS k0 e4) ?_
        refine x_aload_n dX11_tie_35 0 rfl ?_
        refine y_getr (kd := 10) hS fl_RX11_10 dX11_tie_36 rfl k0 ?_
        refine x_iload_n dX11_tie_39 1 rfl ?_
        refine x_iconst 1 dX11_tie_40 (by decide) ?_
        refine x_isub dX11_tie_41 ?_
        refine x_iload_n dX11_tie_42 2 rfl ?_
        refine x_iload_n dX11_tie_43 3 rfl ?_
        refine xbnd_e h (fun q5 e5 h => ?_)
        refine y_callVi (As := [.int (v1 - 1), .int v2, .int v3]) (q := q5) cv_RX11_108 dX11_tie_44 ((hS.f k0 0 10 rfl).2) rfl (Nat.le_of_ble_eq_true rfl) (by omega) (S_X10_merge hS ((hS.f k0 0 10 rfl).2) e5) ?_
        obtain rfl := Option.some.inj h
        exact y_iret rfl dX11_tie_47
      · rw [if_pos c] at h
        refine x_iconst (-1) dX11_tie_29 (by decide) ?_
        obtain rfl := Option.some.inj h
        exact y_iret rfl dX11_tie_30

theorem dX11_alone_0 : decode cX11_alone 0 = .ok (.iload_n 1, 1) := by decide +kernel
theorem dX11_alone_1 : decode cX11_alone 1 = .ok (.invokestatic 102, 3) := by decide +kernel
theorem dX11_alone_4 : decode cX11_alone 4 = .ok (.ifCond .eq 14, 3) := by decide +kernel
theorem dX11_alone_7 : decode cX11_alone 7 = .ok (.aload_n 0, 1) := by decide +kernel
theorem dX11_alone_8 : decode cX11_alone 8 = .ok (.getfield 10, 3) := by decide +kernel
theorem dX11_alone_11 : decode cX11_alone 11 = .ok (.iload_n 2, 1) := by decide +kernel
theorem dX11_alone_12 : decode cX11_alone 12 = .ok (.invokevirtual 105, 3) := by decide +kernel
theorem dX11_alone_15 : decode cX11_alone 15 = .ok (.ifCond .ne 5, 3) := by decide +kernel
theorem dX11_alone_18 : decode cX11_alone 18 = .ok (.iconst (-1), 1) := by decide +kernel
theorem dX11_alone_19 : decode cX11_alone 19 = .ok (.ireturn, 1) := by decide +kernel
theorem dX11_alone_20 : decode cX11_alone 20 = .ok (.aload_n 0, 1) := by decide +kernel
theorem dX11_alone_21 : decode cX11_alone 21 = .ok (.invokevirtual 96, 3) := by decide +kernel
theorem dX11_alone_24 : decode cX11_alone 24 = .ok (.aload_n 0, 1) := by decide +kernel
theorem dX11_alone_25 : decode cX11_alone 25 = .ok (.getfield 10, 3) := by decide +kernel
theorem dX11_alone_28 : decode cX11_alone 28 = .ok (.iload_n 1, 1) := by decide +kernel
theorem dX11_alone_29 : decode cX11_alone 29 = .ok (.iconst 1, 1) := by decide +kernel
theorem dX11_alone_30 : decode cX11_alone 30 = .ok (.isub, 1) := by decide +kernel
theorem dX11_alone_31 : decode cX11_alone 31 = .ok (.iload_n 2, 1) := by decide +kernel
theorem dX11_alone_32 : decode cX11_alone 32 = .ok (.invokevirtual 112, 3) := by decide +kernel
theorem dX11_alone_35 : decode cX11_alone 35 = .ok (.ireturn, 1) := by decide +kernel
def f_X11_alone (F P : Nat) (S : xSt) (v0 : Nat) (v1 : Int32) (v2 : Int32) (D : xDt) : Option (Int32 × xDt) :=
  (f_X11_isAgent F P S v1 D).bind fun q1 => if q1.1 = 0 then (some ((-1), q1.2)) else ((f_X10_has F P S (xr S v0 0) v2 q1.2).bind fun q2 => if q2.1 = 0 then (some ((-1), q2.2)) else ((f_X11_worldsEdited F P S v0 q2.2).bind fun q3 => (f_X10_part F P S (xr S v0 0) (v1 - 1) v2 q3).bind fun q4 => some (q4.1, q4.2)))
set_option maxHeartbeats 4000000 in
theorem S_X11_alone {F P : Nat} {S : xSt} (hS : xWF S) {v0 : Nat} {v1 : Int32} {v2 : Int32} {D : xDt} {r : Int32 × xDt} (k0 : xK S v0 11) (h : f_X11_alone F P S v0 v1 v2 D = some r) : xSp md_X11_alone (2, 0, 0) [.ref v0, .int v1, .int v2] (S, D) (xQi S r) := by
  unfold f_X11_alone at h
  refine xEntry (by decide) (Nat.le_of_ble_eq_true rfl) ?_
  refine x_lv (lv' := [(0, .ref v0), (1, .int v1), (2, .int v2)]) [0, 1, 2] rfl ?_
  refine x_iload_n dX11_alone_0 1 rfl ?_
  refine xbnd_e h (fun q1 e1 h => ?_)
  refine y_callSi (As := [.int v1]) (q := q1) cs_RX11_102 dX11_alone_1 rfl (Nat.le_of_ble_eq_true rfl) (by omega) (S_X11_isAgent hS e1) ?_
  refine x_if_eq 18 dX11_alone_4 (by decide) (fun c => ?_) (fun c => ?_)
  · rw [if_pos c] at h
    refine x_iconst (-1) dX11_alone_18 (by decide) ?_
    obtain rfl := Option.some.inj h
    exact y_iret rfl dX11_alone_19
  · rw [if_neg c] at h
    refine x_aload_n dX11_alone_7 0 rfl ?_
    refine y_getr (kd := 10) hS fl_RX11_10 dX11_alone_8 rfl k0 ?_
    refine x_iload_n dX11_alone_11 2 rfl ?_
    refine xbnd_e h (fun q2 e2 h => ?_)
    refine y_callVi (As := [.int v2]) (q := q2) cv_RX11_105 dX11_alone_12 ((hS.f k0 0 10 rfl).2) rfl (Nat.le_of_ble_eq_true rfl) (by omega) (S_X10_has hS ((hS.f k0 0 10 rfl).2) e2) ?_
    refine x_if_ne 20 dX11_alone_15 (by decide) (fun c => ?_) (fun c => ?_)
    · rw [if_neg c] at h
      refine x_aload_n dX11_alone_20 0 rfl ?_
      refine xbnd_e h (fun q3 e3 h => ?_)
      refine y_callVv (As := []) (q := q3) cv_RX11_96 dX11_alone_21 k0 rfl (Nat.le_of_ble_eq_true rfl) (by omega) (S_X11_worldsEdited hS k0 e3) ?_
      refine x_aload_n dX11_alone_24 0 rfl ?_
      refine y_getr (kd := 10) hS fl_RX11_10 dX11_alone_25 rfl k0 ?_
      refine x_iload_n dX11_alone_28 1 rfl ?_
      refine x_iconst 1 dX11_alone_29 (by decide) ?_
      refine x_isub dX11_alone_30 ?_
      refine x_iload_n dX11_alone_31 2 rfl ?_
      refine xbnd_e h (fun q4 e4 h => ?_)
      refine y_callVi (As := [.int (v1 - 1), .int v2]) (q := q4) cv_RX11_112 dX11_alone_32 ((hS.f k0 0 10 rfl).2) rfl (Nat.le_of_ble_eq_true rfl) (by omega) (S_X10_part hS ((hS.f k0 0 10 rfl).2) e4) ?_
      obtain rfl := Option.some.inj h
      exact y_iret rfl dX11_alone_35
    · rw [if_pos c] at h
      refine x_iconst (-1) dX11_alone_18 (by decide) ?_
      obtain rfl := Option.some.inj h
      exact y_iret rfl dX11_alone_19

theorem dX11_isAtom_0 : decode cX11_isAtom 0 = .ok (.iload_n 0, 1) := by decide +kernel
theorem dX11_isAtom_1 : decode cX11_isAtom 1 = .ok (.ifCond .lt 13, 3) := by decide +kernel
theorem dX11_isAtom_4 : decode cX11_isAtom 4 = .ok (.iload_n 0, 1) := by decide +kernel
theorem dX11_isAtom_5 : decode cX11_isAtom 5 = .ok (.bipush 8, 2) := by decide +kernel
theorem dX11_isAtom_7 : decode cX11_isAtom 7 = .ok (.if_icmp .ge 7, 3) := by decide +kernel
theorem dX11_isAtom_10 : decode cX11_isAtom 10 = .ok (.iconst 1, 1) := by decide +kernel
theorem dX11_isAtom_11 : decode cX11_isAtom 11 = .ok (.goto 4, 3) := by decide +kernel
theorem dX11_isAtom_14 : decode cX11_isAtom 14 = .ok (.iconst 0, 1) := by decide +kernel
theorem dX11_isAtom_15 : decode cX11_isAtom 15 = .ok (.ireturn, 1) := by decide +kernel
def f_X11_isAtom_14 (F P : Nat) (S : xSt) (D : xDt) : Option (Int32 × xDt) :=
  some (0, D)
set_option maxHeartbeats 4000000 in
theorem t_X11_isAtom_14 {F P : Nat} {S : xSt} (hS : xWF S) {D : xDt} {r : Int32 × xDt} (h : f_X11_isAtom_14 F P S D = some r) : yEx md_X11_isAtom 0 14 [] [] S D (xQi S r) := by
  unfold f_X11_isAtom_14 at h
  refine x_iconst 0 dX11_isAtom_14 (by decide) ?_
  obtain rfl := Option.some.inj h
  exact y_zret rfl rfl dX11_isAtom_15

def f_X11_isAtom (F P : Nat) (S : xSt) (v0 : Int32) (D : xDt) : Option (Int32 × xDt) :=
  if v0 < 0 then (f_X11_isAtom_14 F P S D) else (if 8 ≤ v0 then (f_X11_isAtom_14 F P S D) else (some (1, D)))
set_option maxHeartbeats 4000000 in
theorem S_X11_isAtom {F P : Nat} {S : xSt} (hS : xWF S) {v0 : Int32} {D : xDt} {r : Int32 × xDt} (h : f_X11_isAtom F P S v0 D = some r) : xSp md_X11_isAtom (0, 0, 0) [.int v0] (S, D) (xQi S r) := by
  unfold f_X11_isAtom at h
  refine xEntry (by decide) (Nat.le_of_ble_eq_true rfl) ?_
  refine x_lv (lv' := [(0, .int v0)]) [0] rfl ?_
  refine x_iload_n dX11_isAtom_0 0 rfl ?_
  refine x_if_lt 14 dX11_isAtom_1 (by decide) (fun c => ?_) (fun c => ?_)
  · rw [if_pos c] at h
    refine x_lv (lv' := []) [] rfl ?_
    exact t_X11_isAtom_14 hS h
  · rw [if_neg c] at h
    refine x_iload_n dX11_isAtom_4 0 rfl ?_
    refine x_bipush 8 dX11_isAtom_5 (by decide) ?_
    refine x_icmp_ge 14 dX11_isAtom_7 (by decide) (fun c => ?_) (fun c => ?_)
    · rw [if_pos c] at h
      refine x_lv (lv' := []) [] rfl ?_
      exact t_X11_isAtom_14 hS h
    · rw [if_neg c] at h
      refine x_iconst 1 dX11_isAtom_10 (by decide) ?_
      refine x_goto 15 dX11_isAtom_11 (by decide) ?_
      obtain rfl := Option.some.inj h
      exact y_zret rfl rfl dX11_isAtom_15

theorem dX11_atom_0 : decode cX11_atom 0 = .ok (.aload_n 0, 1) := by decide +kernel
theorem dX11_atom_1 : decode cX11_atom 1 = .ok (.getfield 10, 3) := by decide +kernel
theorem dX11_atom_4 : decode cX11_atom 4 = .ok (.iload_n 1, 1) := by decide +kernel
theorem dX11_atom_5 : decode cX11_atom 5 = .ok (.invokevirtual 105, 3) := by decide +kernel
theorem dX11_atom_8 : decode cX11_atom 8 = .ok (.ifCond .eq 10, 3) := by decide +kernel
theorem dX11_atom_11 : decode cX11_atom 11 = .ok (.iload_n 2, 1) := by decide +kernel
theorem dX11_atom_12 : decode cX11_atom 12 = .ok (.invokestatic 116, 3) := by decide +kernel
theorem dX11_atom_15 : decode cX11_atom 15 = .ok (.ifCond .ne 5, 3) := by decide +kernel
theorem dX11_atom_18 : decode cX11_atom 18 = .ok (.iconst (-1), 1) := by decide +kernel
theorem dX11_atom_19 : decode cX11_atom 19 = .ok (.ireturn, 1) := by decide +kernel
theorem dX11_atom_20 : decode cX11_atom 20 = .ok (.aload_n 0, 1) := by decide +kernel
theorem dX11_atom_21 : decode cX11_atom 21 = .ok (.invokevirtual 96, 3) := by decide +kernel
theorem dX11_atom_24 : decode cX11_atom 24 = .ok (.aload_n 0, 1) := by decide +kernel
theorem dX11_atom_25 : decode cX11_atom 25 = .ok (.getfield 10, 3) := by decide +kernel
theorem dX11_atom_28 : decode cX11_atom 28 = .ok (.getfield 119, 3) := by decide +kernel
theorem dX11_atom_31 : decode cX11_atom 31 = .ok (.iload_n 2, 1) := by decide +kernel
theorem dX11_atom_32 : decode cX11_atom 32 = .ok (.laload, 1) := by decide +kernel
theorem dX11_atom_33 : decode cX11_atom 33 = .ok (.iload_n 1, 1) := by decide +kernel
theorem dX11_atom_34 : decode cX11_atom 34 = .ok (.lushr, 1) := by decide +kernel
theorem dX11_atom_35 : decode cX11_atom 35 = .ok (.lconst 1, 1) := by decide +kernel
theorem dX11_atom_36 : decode cX11_atom 36 = .ok (.land, 1) := by decide +kernel
theorem dX11_atom_37 : decode cX11_atom 37 = .ok (.l2i, 1) := by decide +kernel
theorem dX11_atom_38 : decode cX11_atom 38 = .ok (.istore 4, 2) := by decide +kernel
theorem dX11_atom_40 : decode cX11_atom 40 = .ok (.aload_n 0, 1) := by decide +kernel
theorem dX11_atom_41 : decode cX11_atom 41 = .ok (.getfield 10, 3) := by decide +kernel
theorem dX11_atom_44 : decode cX11_atom 44 = .ok (.iload_n 1, 1) := by decide +kernel
theorem dX11_atom_45 : decode cX11_atom 45 = .ok (.iload_n 2, 1) := by decide +kernel
theorem dX11_atom_46 : decode cX11_atom 46 = .ok (.iload_n 3, 1) := by decide +kernel
theorem dX11_atom_47 : decode cX11_atom 47 = .ok (.invokevirtual 123, 3) := by decide +kernel
theorem dX11_atom_50 : decode cX11_atom 50 = .ok (.iload 4, 2) := by decide +kernel
theorem dX11_atom_52 : decode cX11_atom 52 = .ok (.ireturn, 1) := by decide +kernel
def f_X11_atom (F P : Nat) (S : xSt) (v0 : Nat) (v1 : Int32) (v2 : Int32) (v3 : Int32) (D : xDt) : Option (Int32 × xDt) :=
  (f_X10_has F P S (xr S v0 0) v1 D).bind fun q1 => if q1.1 = 0 then (some ((-1), q1.2)) else ((f_X11_isAtom F P S v2 q1.2).bind fun q2 => if q2.1 = 0 then (some ((-1), q2.2)) else ((f_X11_worldsEdited F P S v0 q2.2).bind fun q3 => xgrd (xin v2 (xl S (xr S (xr S v0 0) 1))) (xlet (((jlushr (q3.2 (xr S (xr S v0 0) 1) (v2).toNatClampNeg) v1) &&& 1).toInt32) fun v4_5 => (f_X10_setAtom F P S (xr S v0 0) v1 v2 v3 q3).bind fun q6 => some (v4_5, q6))))
set_option maxHeartbeats 4000000 in
theorem S_X11_atom {F P : Nat} {S : xSt} (hS : xWF S) {v0 : Nat} {v1 : Int32} {v2 : Int32} {v3 : Int32} {D : xDt} {r : Int32 × xDt} (k0 : xK S v0 11) (h : f_X11_atom F P S v0 v1 v2 v3 D = some r) : xSp md_X11_atom (1, 0, 0) [.ref v0, .int v1, .int v2, .int v3] (S, D) (xQi S r) := by
  unfold f_X11_atom at h
  refine xEntry (by decide) (Nat.le_of_ble_eq_true rfl) ?_
  refine x_lv (lv' := [(0, .ref v0), (1, .int v1), (2, .int v2), (3, .int v3)]) [0, 1, 2, 3] rfl ?_
  refine x_aload_n dX11_atom_0 0 rfl ?_
  refine y_getr (kd := 10) hS fl_RX11_10 dX11_atom_1 rfl k0 ?_
  refine x_iload_n dX11_atom_4 1 rfl ?_
  refine xbnd_e h (fun q1 e1 h => ?_)
  refine y_callVi (As := [.int v1]) (q := q1) cv_RX11_105 dX11_atom_5 ((hS.f k0 0 10 rfl).2) rfl (Nat.le_of_ble_eq_true rfl) (by omega) (S_X10_has hS ((hS.f k0 0 10 rfl).2) e1) ?_
  refine x_if_eq 18 dX11_atom_8 (by decide) (fun c => ?_) (fun c => ?_)
  · rw [if_pos c] at h
    refine x_iconst (-1) dX11_atom_18 (by decide) ?_
    obtain rfl := Option.some.inj h
    exact y_iret rfl dX11_atom_19
  · rw [if_neg c] at h
    refine x_iload_n dX11_atom_11 2 rfl ?_
    refine xbnd_e h (fun q2 e2 h => ?_)
    refine y_callSi (As := [.int v2]) (q := q2) cs_RX11_116 dX11_atom_12 rfl (Nat.le_of_ble_eq_true rfl) (by omega) (S_X11_isAtom hS e2) ?_
    refine x_if_ne 20 dX11_atom_15 (by decide) (fun c => ?_) (fun c => ?_)
    · rw [if_neg c] at h
      refine x_aload_n dX11_atom_20 0 rfl ?_
      refine xbnd_e h (fun q3 e3 h => ?_)
      refine y_callVv (As := []) (q := q3) cv_RX11_96 dX11_atom_21 k0 rfl (Nat.le_of_ble_eq_true rfl) (by omega) (S_X11_worldsEdited hS k0 e3) ?_
      refine x_aload_n dX11_atom_24 0 rfl ?_
      refine y_getr (kd := 10) hS fl_RX11_10 dX11_atom_25 rfl k0 ?_
      refine y_getr (kd := 101) hS fl_RX11_119 dX11_atom_28 rfl ((hS.f k0 0 10 rfl).2) ?_
      refine x_iload_n dX11_atom_31 2 rfl ?_
      refine xgrd_e h (fun g4 h => ?_)
      refine y_lald dX11_atom_32 ((hS.f ((hS.f k0 0 10 rfl).2) 1 101 rfl).2) g4 ?_
      refine x_iload_n dX11_atom_33 1 rfl ?_
      refine x_lushr dX11_atom_34 ?_
      refine x_lconst 1 dX11_atom_35 (by decide) ?_
      refine x_land dX11_atom_36 ?_
      refine x_l2i dX11_atom_37 ?_
      refine xlet_e h (fun v4_5 ev4_5 h => ?_)
      refine y_istore v4_5 ev4_5 [(4, .int v4_5), (0, .ref v0), (1, .int v1), (2, .int v2), (3, .int v3)] dX11_atom_38 (by show _ < 5; decide) rfl ?_
      refine x_aload_n dX11_atom_40 1 rfl ?_
      refine y_getr (kd := 10) hS fl_RX11_10 dX11_atom_41 rfl k0 ?_
      refine x_iload_n dX11_atom_44 2 rfl ?_
      refine x_iload_n dX11_atom_45 3 rfl ?_
      refine x_iload_n dX11_atom_46 4 rfl ?_
      refine xbnd_e h (fun q6 e6 h => ?_)
      refine y_callVv (As := [.int v1, .int v2, .int v3]) (q := q6) cv_RX11_123 dX11_atom_47 ((hS.f k0 0 10 rfl).2) rfl (Nat.le_of_ble_eq_true rfl) (by omega) (S_X10_setAtom hS ((hS.f k0 0 10 rfl).2) e6) ?_
      refine x_iload dX11_atom_50 0 rfl ?_
      obtain rfl := Option.some.inj h
      exact y_iret rfl dX11_atom_52
    · rw [if_pos c] at h
      refine x_iconst (-1) dX11_atom_18 (by decide) ?_
      obtain rfl := Option.some.inj h
      exact y_iret rfl dX11_atom_19

theorem dX11_told_0 : decode cX11_told 0 = .ok (.aload_n 0, 1) := by decide +kernel
theorem dX11_told_1 : decode cX11_told 1 = .ok (.getfield 10, 3) := by decide +kernel
theorem dX11_told_4 : decode cX11_told 4 = .ok (.iload_n 1, 1) := by decide +kernel
theorem dX11_told_5 : decode cX11_told 5 = .ok (.invokevirtual 105, 3) := by decide +kernel
theorem dX11_told_8 : decode cX11_told 8 = .ok (.ifCond .eq 12, 3) := by decide +kernel
theorem dX11_told_11 : decode cX11_told 11 = .ok (.iload_n 2, 1) := by decide +kernel
theorem dX11_told_12 : decode cX11_told 12 = .ok (.ifCond .lt 8, 3) := by decide +kernel
theorem dX11_told_15 : decode cX11_told 15 = .ok (.iload_n 2, 1) := by decide +kernel
theorem dX11_told_16 : decode cX11_told 16 = .ok (.iconst 4, 1) := by decide +kernel
theorem dX11_told_17 : decode cX11_told 17 = .ok (.if_icmp .le 5, 3) := by decide +kernel
theorem dX11_told_20 : decode cX11_told 20 = .ok (.iconst (-1), 1) := by decide +kernel
theorem dX11_told_21 : decode cX11_told 21 = .ok (.ireturn, 1) := by decide +kernel
theorem dX11_told_22 : decode cX11_told 22 = .ok (.iload_n 2, 1) := by decide +kernel
theorem dX11_told_23 : decode cX11_told 23 = .ok (.ifCond .ne 14, 3) := by decide +kernel
theorem dX11_told_26 : decode cX11_told 26 = .ok (.aload_n 0, 1) := by decide +kernel
theorem dX11_told_27 : decode cX11_told 27 = .ok (.getfield 10, 3) := by decide +kernel
theorem dX11_told_30 : decode cX11_told 30 = .ok (.iload_n 1, 1) := by decide +kernel
theorem dX11_told_31 : decode cX11_told 31 = .ok (.invokevirtual 127, 3) := by decide +kernel
theorem dX11_told_34 : decode cX11_told 34 = .ok (.goto 17, 3) := by decide +kernel
theorem dX11_told_37 : decode cX11_told 37 = .ok (.aload_n 0, 1) := by decide +kernel
theorem dX11_told_38 : decode cX11_told 38 = .ok (.getfield 10, 3) := by decide +kernel
theorem dX11_told_41 : decode cX11_told 41 = .ok (.iload_n 2, 1) := by decide +kernel
theorem dX11_told_42 : decode cX11_told 42 = .ok (.iconst 1, 1) := by decide +kernel
theorem dX11_told_43 : decode cX11_told 43 = .ok (.isub, 1) := by decide +kernel
theorem dX11_told_44 : decode cX11_told 44 = .ok (.iload_n 1, 1) := by decide +kernel
theorem dX11_told_45 : decode cX11_told 45 = .ok (.invokevirtual 130, 3) := by decide +kernel
theorem dX11_told_48 : decode cX11_told 48 = .ok (.invokestatic 134, 3) := by decide +kernel
theorem dX11_told_51 : decode cX11_told 51 = .ok (.ireturn, 1) := by decide +kernel
def f_X11_told (F P : Nat) (S : xSt) (v0 : Nat) (v1 : Int32) (v2 : Int32) (D : xDt) : Option (Int32 × xDt) :=
  (f_X10_has F P S (xr S v0 0) v1 D).bind fun q1 => if q1.1 = 0 then (some ((-1), q1.2)) else (if v2 < 0 then (some ((-1), q1.2)) else (if v2 ≤ 4 then (if v2 = 0 then ((f_X10_atomsOf F P S (xr S v0 0) v1 q1.2).bind fun q4 => some (q4.1, q4.2)) else ((f_X10_cell F P S (xr S v0 0) (v2 - 1) v1 q1.2).bind fun q2 => (f_X11_lowest F P S q2.1 q2.2).bind fun q3 => some (q3.1, q3.2))) else (some ((-1), q1.2))))
set_option maxHeartbeats 4000000 in
theorem S_X11_told {F P : Nat} {S : xSt} (hS : xWF S) {v0 : Nat} {v1 : Int32} {v2 : Int32} {D : xDt} {r : Int32 × xDt} (k0 : xK S v0 11) (h : f_X11_told F P S v0 v1 v2 D = some r) : xSp md_X11_told (2, 0, 0) [.ref v0, .int v1, .int v2] (S, D) (xQi S r) := by
  unfold f_X11_told at h
  refine xEntry (by decide) (Nat.le_of_ble_eq_true rfl) ?_
  refine x_lv (lv' := [(0, .ref v0), (1, .int v1), (2, .int v2)]) [0, 1, 2] rfl ?_
  refine x_aload_n dX11_told_0 0 rfl ?_
  refine y_getr (kd := 10) hS fl_RX11_10 dX11_told_1 rfl k0 ?_
  refine x_iload_n dX11_told_4 1 rfl ?_
  refine xbnd_e h (fun q1 e1 h => ?_)
  refine y_callVi (As := [.int v1]) (q := q1) cv_RX11_105 dX11_told_5 ((hS.f k0 0 10 rfl).2) rfl (Nat.le_of_ble_eq_true rfl) (by omega) (S_X10_has hS ((hS.f k0 0 10 rfl).2) e1) ?_
  refine x_if_eq 20 dX11_told_8 (by decide) (fun c => ?_) (fun c => ?_)
  · rw [if_pos c] at h
    refine x_iconst (-1) dX11_told_20 (by decide) ?_
    obtain rfl := Option.some.inj h
    exact y_iret rfl dX11_told_21
  · rw [if_neg c] at h
    refine x_iload_n dX11_told_11 2 rfl ?_
    refine x_if_lt 20 dX11_told_12 (by decide) (fun c => ?_) (fun c => ?_)
    · rw [if_pos c] at h
      refine x_iconst (-1) dX11_told_20 (by decide) ?_
      obtain rfl := Option.some.inj h
      exact y_iret rfl dX11_told_21
    · rw [if_neg c] at h
      refine x_iload_n dX11_told_15 2 rfl ?_
      refine x_iconst 4 dX11_told_16 (by decide) ?_
      refine x_icmp_le 22 dX11_told_17 (by decide) (fun c => ?_) (fun c => ?_)
      · rw [if_pos c] at h
        refine x_iload_n dX11_told_22 2 rfl ?_
        refine x_if_ne 37 dX11_told_23 (by decide) (fun c => ?_) (fun c => ?_)
        · rw [if_neg c] at h
          refine x_aload_n dX11_told_37 0 rfl ?_
          refine y_getr (kd := 10) hS fl_RX11_10 dX11_told_38 rfl k0 ?_
          refine x_iload_n dX11_told_41 2 rfl ?_
          refine x_iconst 1 dX11_told_42 (by decide) ?_
          refine x_isub dX11_told_43 ?_
          refine x_iload_n dX11_told_44 1 rfl ?_
          refine xbnd_e h (fun q2 e2 h => ?_)
          refine y_callVl (As := [.int (v2 - 1), .int v1]) (q := q2) cv_RX11_130 dX11_told_45 ((hS.f k0 0 10 rfl).2) rfl (Nat.le_of_ble_eq_true rfl) (by omega) (S_X10_cell hS ((hS.f k0 0 10 rfl).2) e2) ?_
          refine xbnd_e h (fun q3 e3 h => ?_)
          refine y_callSi (As := [.long q2.1]) (q := q3) cs_RX11_134 dX11_told_48 rfl (Nat.le_of_ble_eq_true rfl) (by omega) (S_X11_lowest hS e3) ?_
          obtain rfl := Option.some.inj h
          exact y_iret rfl dX11_told_51
        · rw [if_pos c] at h
          refine x_aload_n dX11_told_26 0 rfl ?_
          refine y_getr (kd := 10) hS fl_RX11_10 dX11_told_27 rfl k0 ?_
          refine x_iload_n dX11_told_30 1 rfl ?_
          refine xbnd_e h (fun q4 e4 h => ?_)
          refine y_callVi (As := [.int v1]) (q := q4) cv_RX11_127 dX11_told_31 ((hS.f k0 0 10 rfl).2) rfl (Nat.le_of_ble_eq_true rfl) (by omega) (S_X10_atomsOf hS ((hS.f k0 0 10 rfl).2) e4) ?_
          refine x_goto 51 dX11_told_34 (by decide) ?_
          obtain rfl := Option.some.inj h
          exact y_iret rfl dX11_told_51
      · rw [if_neg c] at h
        refine x_iconst (-1) dX11_told_20 (by decide) ?_
        obtain rfl := Option.some.inj h
        exact y_iret rfl dX11_told_21

theorem dX11_type_0 : decode cX11_type 0 = .ok (.aload_n 0, 1) := by decide +kernel
theorem dX11_type_1 : decode cX11_type 1 = .ok (.getfield 33, 3) := by decide +kernel
theorem dX11_type_4 : decode cX11_type 4 = .ok (.iload_n 1, 1) := by decide +kernel
theorem dX11_type_5 : decode cX11_type 5 = .ok (.invokevirtual 138, 3) := by decide +kernel
theorem dX11_type_8 : decode cX11_type 8 = .ok (.ireturn, 1) := by decide +kernel
def f_X11_type (F P : Nat) (S : xSt) (v0 : Nat) (v1 : Int32) (D : xDt) : Option (Int32 × xDt) :=
  (f_X6_collect F P S (xr S v0 3) v1 D).bind fun q1 => some (q1.1, q1.2)
set_option maxHeartbeats 4000000 in
theorem S_X11_type {F P : Nat} {S : xSt} (hS : xWF S) {v0 : Nat} {v1 : Int32} {D : xDt} {r : Int32 × xDt} (k0 : xK S v0 11) (h : f_X11_type F P S v0 v1 D = some r) : xSp md_X11_type (2, 0, 0) [.ref v0, .int v1] (S, D) (xQi S r) := by
  unfold f_X11_type at h
  refine xEntry (by decide) (Nat.le_of_ble_eq_true rfl) ?_
  refine x_lv (lv' := [(0, .ref v0), (1, .int v1)]) [0, 1] rfl ?_
  refine x_aload_n dX11_type_0 0 rfl ?_
  refine y_getr (kd := 6) hS fl_RX11_33 dX11_type_1 rfl k0 ?_
  refine x_iload_n dX11_type_4 1 rfl ?_
  refine xbnd_e h (fun q1 e1 h => ?_)
  refine y_callVi (As := [.int v1]) (q := q1) cv_RX11_138 dX11_type_5 ((hS.f k0 3 6 rfl).2) rfl (Nat.le_of_ble_eq_true rfl) (by omega) (S_X6_collect hS ((hS.f k0 3 6 rfl).2) e1) ?_
  obtain rfl := Option.some.inj h
  exact y_iret rfl dX11_type_8

theorem dX11_four_0 : decode cX11_four 0 = .ok (.aload_n 0, 1) := by decide +kernel
theorem dX11_four_1 : decode cX11_four 1 = .ok (.getfield 33, 3) := by decide +kernel
theorem dX11_four_4 : decode cX11_four 4 = .ok (.iload_n 1, 1) := by decide +kernel
theorem dX11_four_5 : decode cX11_four 5 = .ok (.invokevirtual 141, 3) := by decide +kernel
theorem dX11_four_8 : decode cX11_four 8 = .ok (.ireturn, 1) := by decide +kernel
def f_X11_four (F P : Nat) (S : xSt) (v0 : Nat) (v1 : Int32) (D : xDt) : Option (Int32 × xDt) :=
  (f_X6_collectFour F P S (xr S v0 3) v1 D).bind fun q1 => some (q1.1, q1.2)
set_option maxHeartbeats 4000000 in
theorem S_X11_four {F P : Nat} {S : xSt} (hS : xWF S) {v0 : Nat} {v1 : Int32} {D : xDt} {r : Int32 × xDt} (k0 : xK S v0 11) (h : f_X11_four F P S v0 v1 D = some r) : xSp md_X11_four (3, 0, 0) [.ref v0, .int v1] (S, D) (xQi S r) := by
  unfold f_X11_four at h
  refine xEntry (by decide) (Nat.le_of_ble_eq_true rfl) ?_
  refine x_lv (lv' := [(0, .ref v0), (1, .int v1)]) [0, 1] rfl ?_
  refine x_aload_n dX11_four_0 0 rfl ?_
  refine y_getr (kd := 6) hS fl_RX11_33 dX11_four_1 rfl k0 ?_
  refine x_iload_n dX11_four_4 1 rfl ?_
  refine xbnd_e h (fun q1 e1 h => ?_)
  refine y_callVi (As := [.int v1]) (q := q1) cv_RX11_141 dX11_four_5 ((hS.f k0 3 6 rfl).2) rfl (Nat.le_of_ble_eq_true rfl) (by omega) (S_X6_collectFour hS ((hS.f k0 3 6 rfl).2) e1) ?_
  obtain rfl := Option.some.inj h
  exact y_iret rfl dX11_four_8

theorem dX11_handChanged_0 : decode cX11_handChanged 0 = .ok (.aload_n 0, 1) := by decide +kernel
theorem dX11_handChanged_1 : decode cX11_handChanged 1 = .ok (.iconst 0, 1) := by decide +kernel
theorem dX11_handChanged_2 : decode cX11_handChanged 2 = .ok (.putfield 211, 3) := by decide +kernel
theorem dX11_handChanged_5 : decode cX11_handChanged 5 = .ok (.aload_n 0, 1) := by decide +kernel
theorem dX11_handChanged_6 : decode cX11_handChanged 6 = .ok (.iconst 0, 1) := by decide +kernel
theorem dX11_handChanged_7 : decode cX11_handChanged 7 = .ok (.putfield 232, 3) := by decide +kernel
theorem dX11_handChanged_10 : decode cX11_handChanged 10 = .ok (.return_, 1) := by decide +kernel
def f_X11_handChanged (F P : Nat) (S : xSt) (v0 : Nat) (D : xDt) : Option (xDt) :=
  xlet (xup D.1 v0 13 0, D.2) fun D1 => xlet (xup D1.1 v0 14 0, D1.2) fun D2 => some D2
set_option maxHeartbeats 4000000 in
theorem S_X11_handChanged {F P : Nat} {S : xSt} (hS : xWF S) {v0 : Nat} {D : xDt} {r : xDt} (k0 : xK S v0 11) (h : f_X11_handChanged F P S v0 D = some r) : xSp md_X11_handChanged (0, 0, 0) [.ref v0] (S, D) (xQv S r) := by
  unfold f_X11_handChanged at h
  refine xEntry (by decide) (Nat.le_of_ble_eq_true rfl) ?_
  refine x_lv (lv' := [(0, .ref v0)]) [0] rfl ?_
  refine x_aload_n dX11_handChanged_0 0 rfl ?_
  refine x_iconst 0 dX11_handChanged_1 (by decide) ?_
  refine xlet_e h (fun D1 eD1 h => ?_)
  refine y_putz rfl fp_RX11_211 dX11_handChanged_2 rfl k0 eD1 ?_
  refine x_aload_n dX11_handChanged_5 0 rfl ?_
  refine x_iconst 0 dX11_handChanged_6 (by decide) ?_
  refine xlet_e h (fun D2 eD2 h => ?_)
  refine y_putz rfl fp_RX11_232 dX11_handChanged_7 rfl k0 eD2 ?_
  obtain rfl := Option.some.inj h
  exact y_vret rfl dX11_handChanged_10

theorem dX11_formula_0 : decode cX11_formula 0 = .ok (.aload_n 0, 1) := by decide +kernel
theorem dX11_formula_1 : decode cX11_formula 1 = .ok (.getfield 33, 3) := by decide +kernel
theorem dX11_formula_4 : decode cX11_formula 4 = .ok (.aload_n 0, 1) := by decide +kernel
theorem dX11_formula_5 : decode cX11_formula 5 = .ok (.getfield 42, 3) := by decide +kernel
theorem dX11_formula_8 : decode cX11_formula 8 = .ok (.invokevirtual 144, 3) := by decide +kernel
theorem dX11_formula_11 : decode cX11_formula 11 = .ok (.istore_n 1, 1) := by decide +kernel
theorem dX11_formula_12 : decode cX11_formula 12 = .ok (.iload_n 1, 1) := by decide +kernel
theorem dX11_formula_13 : decode cX11_formula 13 = .ok (.ifCond .le 7, 3) := by decide +kernel
theorem dX11_formula_16 : decode cX11_formula 16 = .ok (.aload_n 0, 1) := by decide +kernel
theorem dX11_formula_17 : decode cX11_formula 17 = .ok (.invokevirtual 148, 3) := by decide +kernel
theorem dX11_formula_20 : decode cX11_formula 20 = .ok (.iload_n 1, 1) := by decide +kernel
theorem dX11_formula_21 : decode cX11_formula 21 = .ok (.ireturn, 1) := by decide +kernel
def f_X11_formula (F P : Nat) (S : xSt) (v0 : Nat) (D : xDt) : Option (Int32 × xDt) :=
  (f_X6_read F P S (xr S v0 3) (xr S v0 4) D).bind fun q1 => if q1.1 ≤ 0 then (some (q1.1, q1.2)) else ((f_X11_handChanged F P S v0 q1.2).bind fun q2 => some (q1.1, q2))
set_option maxHeartbeats 4000000 in
theorem S_X11_formula {F P : Nat} {S : xSt} (hS : xWF S) {v0 : Nat} {D : xDt} {r : Int32 × xDt} (k0 : xK S v0 11) (h : f_X11_formula F P S v0 D = some r) : xSp md_X11_formula (6, 0, 0) [.ref v0] (S, D) (xQi S r) := by
  unfold f_X11_formula at h
  refine xEntry (by decide) (Nat.le_of_ble_eq_true rfl) ?_
  refine x_lv (lv' := [(0, .ref v0)]) [0] rfl ?_
  refine x_aload_n dX11_formula_0 0 rfl ?_
  refine y_getr (kd := 6) hS fl_RX11_33 dX11_formula_1 rfl k0 ?_
  refine x_aload_n dX11_formula_4 0 rfl ?_
  refine y_getr (kd := 2) hS fl_RX11_42 dX11_formula_5 rfl k0 ?_
  refine xbnd_e h (fun q1 e1 h => ?_)
  refine y_callVi (As := [.ref (xr S v0 4)]) (q := q1) cv_RX11_144 dX11_formula_8 ((hS.f k0 3 6 rfl).2) rfl (Nat.le_of_ble_eq_true rfl) (by omega) (S_X6_read hS ((hS.f k0 3 6 rfl).2) ((hS.f k0 4 2 rfl).2) e1) ?_
  refine y_istore_n q1.1 rfl [(1, .int q1.1), (0, .ref v0)] dX11_formula_11 (by show _ < 2; decide) rfl ?_
  refine x_iload_n dX11_formula_12 0 rfl ?_
  refine x_if_le 20 dX11_formula_13 (by decide) (fun c => ?_) (fun c => ?_)
  · rw [if_pos c] at h
    refine x_iload_n dX11_formula_20 0 rfl ?_
    obtain rfl := Option.some.inj h
    exact y_iret rfl dX11_formula_21
  · rw [if_neg c] at h
    refine x_aload_n dX11_formula_16 1 rfl ?_
    refine xbnd_e h (fun q2 e2 h => ?_)
    refine y_callVv (As := []) (q := q2) cv_RX11_148 dX11_formula_17 k0 rfl (Nat.le_of_ble_eq_true rfl) (by omega) (S_X11_handChanged hS k0 e2) ?_
    refine x_iload_n dX11_formula_20 0 rfl ?_
    obtain rfl := Option.some.inj h
    exact y_iret rfl dX11_formula_21

theorem dX11_truths_0 : decode cX11_truths 0 = .ok (.aload_n 0, 1) := by decide +kernel
theorem dX11_truths_1 : decode cX11_truths 1 = .ok (.getfield 211, 3) := by decide +kernel
theorem dX11_truths_4 : decode cX11_truths 4 = .ok (.ifCond .ne 27, 3) := by decide +kernel
theorem dX11_truths_7 : decode cX11_truths 7 = .ok (.aload_n 0, 1) := by decide +kernel
theorem dX11_truths_8 : decode cX11_truths 8 = .ok (.aload_n 0, 1) := by decide +kernel
theorem dX11_truths_9 : decode cX11_truths 9 = .ok (.getfield 56, 3) := by decide +kernel
theorem dX11_truths_12 : decode cX11_truths 12 = .ok (.aload_n 0, 1) := by decide +kernel
theorem dX11_truths_13 : decode cX11_truths 13 = .ok (.getfield 42, 3) := by decide +kernel
theorem dX11_truths_16 : decode cX11_truths 16 = .ok (.aload_n 0, 1) := by decide +kernel
theorem dX11_truths_17 : decode cX11_truths 17 = .ok (.getfield 10, 3) := by decide +kernel
theorem dX11_truths_20 : decode cX11_truths 20 = .ok (.invokevirtual 251, 3) := by decide +kernel
theorem dX11_truths_23 : decode cX11_truths 23 = .ok (.putfield 255, 3) := by decide +kernel
theorem dX11_truths_26 : decode cX11_truths 26 = .ok (.aload_n 0, 1) := by decide +kernel
theorem dX11_truths_27 : decode cX11_truths 27 = .ok (.iconst 1, 1) := by decide +kernel
theorem dX11_truths_28 : decode cX11_truths 28 = .ok (.putfield 211, 3) := by decide +kernel
theorem dX11_truths_31 : decode cX11_truths 31 = .ok (.aload_n 0, 1) := by decide +kernel
theorem dX11_truths_32 : decode cX11_truths 32 = .ok (.getfield 255, 3) := by decide +kernel
theorem dX11_truths_35 : decode cX11_truths 35 = .ok (.lreturn, 1) := by decide +kernel
def f_X11_truths (F P : Nat) (S : xSt) (v0 : Nat) (D : xDt) : Option (Int64 × xDt) :=
  if (D.1 v0 13) = 0 then ((f_X3_where F P S (xr S v0 6) (xr S v0 4) (xr S v0 0) D).bind fun q1 => xlet (q1.2.1, xup q1.2.2 v0 12 q1.1) fun D2 => xlet (xup D2.1 v0 13 1, D2.2) fun D3 => some (D3.2 v0 12, D3)) else (some (D.2 v0 12, D))
set_option maxHeartbeats 4000000 in
theorem S_X11_truths {F P : Nat} {S : xSt} (hS : xWF S) {v0 : Nat} {D : xDt} {r : Int64 × xDt} (k0 : xK S v0 11) (h : f_X11_truths F P S v0 D = some r) : xSp md_X11_truths (5, 0, 0) [.ref v0] (S, D) (xQl S r) := by
  unfold f_X11_truths at h
  refine xEntry (by decide) (Nat.le_of_ble_eq_true rfl) ?_
  refine x_lv (lv' := [(0, .ref v0)]) [0] rfl ?_
  refine x_aload_n dX11_truths_0 0 rfl ?_
  refine y_geti fl_RX11_211 dX11_truths_1 rfl k0 ?_
  refine x_if_ne 31 dX11_truths_4 (by decide) (fun c => ?_) (fun c => ?_)
  · rw [if_neg c] at h
    refine x_aload_n dX11_truths_31 0 rfl ?_
    refine y_getl fl_RX11_255 dX11_truths_32 rfl k0 ?_
    obtain rfl := Option.some.inj h
    exact y_lret rfl dX11_truths_35
  · rw [if_pos c] at h
    refine x_aload_n dX11_truths_7 0 rfl ?_
    refine x_aload_n dX11_truths_8 0 rfl ?_
    refine y_getr (kd := 3) hS fl_RX11_56 dX11_truths_9 rfl k0 ?_
    refine x_aload_n dX11_truths_12 0 rfl ?_
    refine y_getr (kd := 2) hS fl_RX11_42 dX11_truths_13 rfl k0 ?_
    refine x_aload_n dX11_truths_16 0 rfl ?_
    refine y_getr (kd := 10) hS fl_RX11_10 dX11_truths_17 rfl k0 ?_
    refine xbnd_e h (fun q1 e1 h => ?_)
    refine y_callVl (As := [.ref (xr S v0 4), .ref (xr S v0 0)]) (q := q1) cv_RX11_251 dX11_truths_20 ((hS.f k0 6 3 rfl).2) rfl (Nat.le_of_ble_eq_true rfl) (by omega) (S_X3_where hS ((hS.f k0 6 3 rfl).2) ((hS.f k0 4 2 rfl).2) ((hS.f k0 0 10 rfl).2) e1) ?_
    refine xlet_e h (fun D2 eD2 h => ?_)
    refine y_putl fp_RX11_255 dX11_truths_23 rfl k0 eD2 ?_
    refine x_aload_n dX11_truths_26 0 rfl ?_
    refine x_iconst 1 dX11_truths_27 (by decide) ?_
    refine xlet_e h (fun D3 eD3 h => ?_)
    refine y_putz rfl fp_RX11_211 dX11_truths_28 rfl k0 eD3 ?_
    refine x_aload_n dX11_truths_31 0 rfl ?_
    refine y_getl fl_RX11_255 dX11_truths_32 rfl k0 ?_
    obtain rfl := Option.some.inj h
    exact y_lret rfl dX11_truths_35

theorem dX11_holds_0 : decode cX11_holds 0 = .ok (.aload_n 0, 1) := by decide +kernel
theorem dX11_holds_1 : decode cX11_holds 1 = .ok (.getfield 10, 3) := by decide +kernel
theorem dX11_holds_4 : decode cX11_holds 4 = .ok (.iload_n 1, 1) := by decide +kernel
theorem dX11_holds_5 : decode cX11_holds 5 = .ok (.invokevirtual 105, 3) := by decide +kernel
theorem dX11_holds_8 : decode cX11_holds 8 = .ok (.ifCond .ne 5, 3) := by decide +kernel
theorem dX11_holds_11 : decode cX11_holds 11 = .ok (.iconst (-1), 1) := by decide +kernel
theorem dX11_holds_12 : decode cX11_holds 12 = .ok (.ireturn, 1) := by decide +kernel
theorem dX11_holds_13 : decode cX11_holds 13 = .ok (.aload_n 0, 1) := by decide +kernel
theorem dX11_holds_14 : decode cX11_holds 14 = .ok (.invokevirtual 151, 3) := by decide +kernel
theorem dX11_holds_17 : decode cX11_holds 17 = .ok (.iload_n 1, 1) := by decide +kernel
theorem dX11_holds_18 : decode cX11_holds 18 = .ok (.lushr, 1) := by decide +kernel
theorem dX11_holds_19 : decode cX11_holds 19 = .ok (.lconst 1, 1) := by decide +kernel
theorem dX11_holds_20 : decode cX11_holds 20 = .ok (.land, 1) := by decide +kernel
theorem dX11_holds_21 : decode cX11_holds 21 = .ok (.l2i, 1) := by decide +kernel
theorem dX11_holds_22 : decode cX11_holds 22 = .ok (.ireturn, 1) := by decide +kernel
def f_X11_holds (F P : Nat) (S : xSt) (v0 : Nat) (v1 : Int32) (D : xDt) : Option (Int32 × xDt) :=
  (f_X10_has F P S (xr S v0 0) v1 D).bind fun q1 => if q1.1 = 0 then (some ((-1), q1.2)) else ((f_X11_truths F P S v0 q1.2).bind fun q2 => some (((jlushr q2.1 v1) &&& 1).toInt32, q2.2))
set_option maxHeartbeats 4000000 in
theorem S_X11_holds {F P : Nat} {S : xSt} (hS : xWF S) {v0 : Nat} {v1 : Int32} {D : xDt} {r : Int32 × xDt} (k0 : xK S v0 11) (h : f_X11_holds F P S v0 v1 D = some r) : xSp md_X11_holds (6, 0, 0) [.ref v0, .int v1] (S, D) (xQi S r) := by
  unfold f_X11_holds at h
  refine xEntry (by decide) (Nat.le_of_ble_eq_true rfl) ?_
  refine x_lv (lv' := [(0, .ref v0), (1, .int v1)]) [0, 1] rfl ?_
  refine x_aload_n dX11_holds_0 0 rfl ?_
  refine y_getr (kd := 10) hS fl_RX11_10 dX11_holds_1 rfl k0 ?_
  refine x_iload_n dX11_holds_4 1 rfl ?_
  refine xbnd_e h (fun q1 e1 h => ?_)
  refine y_callVi (As := [.int v1]) (q := q1) cv_RX11_105 dX11_holds_5 ((hS.f k0 0 10 rfl).2) rfl (Nat.le_of_ble_eq_true rfl) (by omega) (S_X10_has hS ((hS.f k0 0 10 rfl).2) e1) ?_
  refine x_if_ne 13 dX11_holds_8 (by decide) (fun c => ?_) (fun c => ?_)
  · rw [if_neg c] at h
    refine x_aload_n dX11_holds_13 0 rfl ?_
    refine xbnd_e h (fun q2 e2 h => ?_)
    refine y_callVl (As := []) (q := q2) cv_RX11_151 dX11_holds_14 k0 rfl (Nat.le_of_ble_eq_true rfl) (by omega) (S_X11_truths hS k0 e2) ?_
    refine x_iload_n dX11_holds_17 1 rfl ?_
    refine x_lushr dX11_holds_18 ?_
    refine x_lconst 1 dX11_holds_19 (by decide) ?_
    refine x_land dX11_holds_20 ?_
    refine x_l2i dX11_holds_21 ?_
    obtain rfl := Option.some.inj h
    exact y_iret rfl dX11_holds_22
  · rw [if_pos c] at h
    refine x_iconst (-1) dX11_holds_11 (by decide) ?_
    obtain rfl := Option.some.inj h
    exact y_iret rfl dX11_holds_12

theorem dX11_worlds_0 : decode cX11_worlds 0 = .ok (.aload_n 0, 1) := by decide +kernel
theorem dX11_worlds_1 : decode cX11_worlds 1 = .ok (.invokevirtual 151, 3) := by decide +kernel
theorem dX11_worlds_4 : decode cX11_worlds 4 = .ok (.invokestatic 155, 3) := by decide +kernel
theorem dX11_worlds_7 : decode cX11_worlds 7 = .ok (.ireturn, 1) := by decide +kernel
def f_X11_worlds (F P : Nat) (S : xSt) (v0 : Nat) (D : xDt) : Option (Int32 × xDt) :=
  (f_X11_truths F P S v0 D).bind fun q1 => (f_J13_bitCount_95d88 F P S q1.1 q1.2).bind fun q2 => some (q2.1, q2.2)
set_option maxHeartbeats 4000000 in
theorem S_X11_worlds {F P : Nat} {S : xSt} (hS : xWF S) {v0 : Nat} {D : xDt} {r : Int32 × xDt} (k0 : xK S v0 11) (h : f_X11_worlds F P S v0 D = some r) : xSp md_X11_worlds (6, 0, 0) [.ref v0] (S, D) (xQi S r) := by
  unfold f_X11_worlds at h
  refine xEntry (by decide) (Nat.le_of_ble_eq_true rfl) ?_
  refine x_lv (lv' := [(0, .ref v0)]) [0] rfl ?_
  refine x_aload_n dX11_worlds_0 0 rfl ?_
  refine xbnd_e h (fun q1 e1 h => ?_)
  refine y_callVl (As := []) (q := q1) cv_RX11_151 dX11_worlds_1 k0 rfl (Nat.le_of_ble_eq_true rfl) (by omega) (S_X11_truths hS k0 e1) ?_
  refine xbnd_e h (fun q2 e2 h => ?_)
  refine y_callSi (As := [.long q1.1]) (q := q2) cs_RX11_155 dX11_worlds_4 rfl (Nat.le_of_ble_eq_true rfl) (by omega) (S_J13_bitCount_95d88 hS e2) ?_
  obtain rfl := Option.some.inj h
  exact y_iret rfl dX11_worlds_7

theorem dX11_tell_0 : decode cX11_tell 0 = .ok (.aload_n 0, 1) := by decide +kernel
theorem dX11_tell_1 : decode cX11_tell 1 = .ok (.getfield 49, 3) := by decide +kernel
theorem dX11_tell_4 : decode cX11_tell 4 = .ok (.aload_n 0, 1) := by decide +kernel
theorem dX11_tell_5 : decode cX11_tell 5 = .ok (.getfield 42, 3) := by decide +kernel
theorem dX11_tell_8 : decode cX11_tell 8 = .ok (.invokevirtual 160, 3) := by decide +kernel
theorem dX11_tell_11 : decode cX11_tell 11 = .ok (.ireturn, 1) := by decide +kernel
def f_X11_tell (F P : Nat) (S : xSt) (v0 : Nat) (D : xDt) : Option (Int32 × xDt) :=
  (f_X9_write F P S (xr S v0 5) (xr S v0 4) D).bind fun q1 => some (q1.1, q1.2)
set_option maxHeartbeats 4000000 in
theorem S_X11_tell {F P : Nat} {S : xSt} (hS : xWF S) {v0 : Nat} {D : xDt} {r : Int32 × xDt} (k0 : xK S v0 11) (h : f_X11_tell F P S v0 D = some r) : xSp md_X11_tell (4, 0, 0) [.ref v0] (S, D) (xQi S r) := by
  unfold f_X11_tell at h
  refine xEntry (by decide) (Nat.le_of_ble_eq_true rfl) ?_
  refine x_lv (lv' := [(0, .ref v0)]) [0] rfl ?_
  refine x_aload_n dX11_tell_0 0 rfl ?_
  refine y_getr (kd := 9) hS fl_RX11_49 dX11_tell_1 rfl k0 ?_
  refine x_aload_n dX11_tell_4 0 rfl ?_
  refine y_getr (kd := 2) hS fl_RX11_42 dX11_tell_5 rfl k0 ?_
  refine xbnd_e h (fun q1 e1 h => ?_)
  refine y_callVi (As := [.ref (xr S v0 4)]) (q := q1) cv_RX11_160 dX11_tell_8 ((hS.f k0 5 9 rfl).2) rfl (Nat.le_of_ble_eq_true rfl) (by omega) (S_X9_write hS ((hS.f k0 5 9 rfl).2) ((hS.f k0 4 2 rfl).2) e1) ?_
  obtain rfl := Option.some.inj h
  exact y_iret rfl dX11_tell_11

theorem dX11_letter_0 : decode cX11_letter 0 = .ok (.iload_n 1, 1) := by decide +kernel
theorem dX11_letter_1 : decode cX11_letter 1 = .ok (.ifCond .lt 14, 3) := by decide +kernel
theorem dX11_letter_4 : decode cX11_letter 4 = .ok (.iload_n 1, 1) := by decide +kernel
theorem dX11_letter_5 : decode cX11_letter 5 = .ok (.aload_n 0, 1) := by decide +kernel
theorem dX11_letter_6 : decode cX11_letter 6 = .ok (.getfield 49, 3) := by decide +kernel
theorem dX11_letter_9 : decode cX11_letter 9 = .ok (.getfield 163, 3) := by decide +kernel
theorem dX11_letter_12 : decode cX11_letter 12 = .ok (.if_icmp .lt 6, 3) := by decide +kernel
theorem dX11_letter_15 : decode cX11_letter 15 = .ok (.bipush (-2), 2) := by decide +kernel
theorem dX11_letter_17 : decode cX11_letter 17 = .ok (.ireturn, 1) := by decide +kernel
theorem dX11_letter_18 : decode cX11_letter 18 = .ok (.aload_n 0, 1) := by decide +kernel
theorem dX11_letter_19 : decode cX11_letter 19 = .ok (.getfield 49, 3) := by decide +kernel
theorem dX11_letter_22 : decode cX11_letter 22 = .ok (.getfield 164, 3) := by decide +kernel
theorem dX11_letter_25 : decode cX11_letter 25 = .ok (.iload_n 1, 1) := by decide +kernel
theorem dX11_letter_26 : decode cX11_letter 26 = .ok (.caload, 1) := by decide +kernel
theorem dX11_letter_27 : decode cX11_letter 27 = .ok (.ireturn, 1) := by decide +kernel
def f_X11_letter (F P : Nat) (S : xSt) (v0 : Nat) (v1 : Int32) (D : xDt) : Option (Int32 × xDt) :=
  if v1 < 0 then (some ((-2), D)) else (if v1 < (D.1 (xr S v0 5) 1) then (xgrd (xin v1 (xl S (xr S (xr S v0 5) 0))) (some (D.1 (xr S (xr S v0 5) 0) (v1).toNatClampNeg, D))) else (some ((-2), D)))
set_option maxHeartbeats 4000000 in
theorem S_X11_letter {F P : Nat} {S : xSt} (hS : xWF S) {v0 : Nat} {v1 : Int32} {D : xDt} {r : Int32 × xDt} (k0 : xK S v0 11) (h : f_X11_letter F P S v0 v1 D = some r) : xSp md_X11_letter (0, 0, 0) [.ref v0, .int v1] (S, D) (xQi S r) := by
  unfold f_X11_letter at h
  refine xEntry (by decide) (Nat.le_of_ble_eq_true rfl) ?_
  refine x_lv (lv' := [(0, .ref v0), (1, .int v1)]) [0, 1] rfl ?_
  refine x_iload_n dX11_letter_0 1 rfl ?_
  refine x_if_lt 15 dX11_letter_1 (by decide) (fun c => ?_) (fun c => ?_)
  · rw [if_pos c] at h
    refine x_bipush (-2) dX11_letter_15 (by decide) ?_
    obtain rfl := Option.some.inj h
    exact y_iret rfl dX11_letter_17
  · rw [if_neg c] at h
    refine x_iload_n dX11_letter_4 1 rfl ?_
    refine x_aload_n dX11_letter_5 0 rfl ?_
    refine y_getr (kd := 9) hS fl_RX11_49 dX11_letter_6 rfl k0 ?_
    refine y_geti fl_RX11_163 dX11_letter_9 rfl ((hS.f k0 5 9 rfl).2) ?_
    refine x_icmp_lt 18 dX11_letter_12 (by decide) (fun c => ?_) (fun c => ?_)
    · rw [if_pos c] at h
      refine x_aload_n dX11_letter_18 0 rfl ?_
      refine y_getr (kd := 9) hS fl_RX11_49 dX11_letter_19 rfl k0 ?_
      refine y_getr (kd := 102) hS fl_RX11_164 dX11_letter_22 rfl ((hS.f k0 5 9 rfl).2) ?_
      refine x_iload_n dX11_letter_25 1 rfl ?_
      refine xgrd_e h (fun g1 h => ?_)
      refine y_cald dX11_letter_26 ((hS.f ((hS.f k0 5 9 rfl).2) 0 102 rfl).2) g1 ?_
      obtain rfl := Option.some.inj h
      exact y_iret rfl dX11_letter_27
    · rw [if_neg c] at h
      refine x_bipush (-2) dX11_letter_15 (by decide) ?_
      obtain rfl := Option.some.inj h
      exact y_iret rfl dX11_letter_17

theorem dX11_choose_0 : decode cX11_choose 0 = .ok (.iconst 0, 1) := by decide +kernel
theorem dX11_choose_1 : decode cX11_choose 1 = .ok (.istore_n 3, 1) := by decide +kernel
theorem dX11_choose_2 : decode cX11_choose 2 = .ok (.iconst 0, 1) := by decide +kernel
theorem dX11_choose_3 : decode cX11_choose 3 = .ok (.istore 4, 2) := by decide +kernel
theorem dX11_choose_5 : decode cX11_choose 5 = .ok (.iload 4, 2) := by decide +kernel
theorem dX11_choose_7 : decode cX11_choose 7 = .ok (.bipush 64, 2) := by decide +kernel
theorem dX11_choose_9 : decode cX11_choose 9 = .ok (.if_icmp .ge 31, 3) := by decide +kernel
theorem dX11_choose_12 : decode cX11_choose 12 = .ok (.lload_n 1, 1) := by decide +kernel
theorem dX11_choose_13 : decode cX11_choose 13 = .ok (.iload 4, 2) := by decide +kernel
theorem dX11_choose_15 : decode cX11_choose 15 = .ok (.lushr, 1) := by decide +kernel
theorem dX11_choose_16 : decode cX11_choose 16 = .ok (.lconst 1, 1) := by decide +kernel
theorem dX11_choose_17 : decode cX11_choose 17 = .ok (.land, 1) := by decide +kernel
theorem dX11_choose_18 : decode cX11_choose 18 = .ok (.lconst 0, 1) := by decide +kernel
theorem dX11_choose_19 : decode cX11_choose 19 = .ok (.lcmp, 1) := by decide +kernel
theorem dX11_choose_20 : decode cX11_choose 20 = .ok (.ifCond .eq 14, 3) := by decide +kernel
theorem dX11_choose_23 : decode cX11_choose 23 = .ok (.aload_n 0, 1) := by decide +kernel
theorem dX11_choose_24 : decode cX11_choose 24 = .ok (.getfield 81, 3) := by decide +kernel
theorem dX11_choose_27 : decode cX11_choose 27 = .ok (.iload_n 3, 1) := by decide +kernel
theorem dX11_choose_28 : decode cX11_choose 28 = .ok (.iinc 3 1, 3) := by decide +kernel
theorem dX11_choose_31 : decode cX11_choose 31 = .ok (.iload 4, 2) := by decide +kernel
theorem dX11_choose_33 : decode cX11_choose 33 = .ok (.iastore, 1) := by decide +kernel
theorem dX11_choose_34 : decode cX11_choose 34 = .ok (.iinc 4 1, 3) := by decide +kernel
theorem dX11_choose_37 : decode cX11_choose 37 = .ok (.goto (-32), 3) := by decide +kernel
theorem dX11_choose_40 : decode cX11_choose 40 = .ok (.iload_n 3, 1) := by decide +kernel
theorem dX11_choose_41 : decode cX11_choose 41 = .ok (.ireturn, 1) := by decide +kernel
def f_X11_choose_34 (F P : Nat) (S : xSt) (rec_5 : Nat → Int64 → Int32 → Int32 → xDt → Option (Int32 × xDt)) (v0 : Nat) (v1 : Int64) (v3 : Int32) (v4 : Int32) (D : xDt) : Option (Int32 × xDt) :=
  xlet (v4 + 1) fun v4_1 => rec_5 v0 v1 v3 v4_1 D
set_option maxHeartbeats 4000000 in
theorem t_X11_choose_34 {F P : Nat} {S : xSt} (hS : xWF S) {rec_5 : Nat → Int64 → Int32 → Int32 → xDt → Option (Int32 × xDt)} (hrec_5 : ∀ {v0 : Nat} {v1 : Int64} {v3 : Int32} {v4 : Int32} {D : xDt} {r : Int32 × xDt}, xK S v0 11 → rec_5 v0 v1 v3 v4 D = some r → yEx md_X11_choose 0 5 [(0, .ref v0), (1, .long v1), (3, .int v3), (4, .int v4)] [] S D (xQi S r)) {v0 : Nat} {v1 : Int64} {v3 : Int32} {v4 : Int32} {D : xDt} {r : Int32 × xDt} (k0 : xK S v0 11) (h : f_X11_choose_34 F P S rec_5 v0 v1 v3 v4 D = some r) : yEx md_X11_choose 0 34 [(0, .ref v0), (1, .long v1), (3, .int v3), (4, .int v4)] [] S D (xQi S r) := by
  unfold f_X11_choose_34 at h
  refine xlet_e h (fun v4_1 ev4_1 h => ?_)
  refine y_iinc v4_1 ev4_1 (by decide) [(4, .int v4_1), (0, .ref v0), (1, .long v1), (3, .int v3)] dX11_choose_34 3 rfl (by show _ < 5; decide) rfl ?_
  refine x_goto 5 dX11_choose_37 (by decide) ?_
  refine x_lv (lv' := [(0, .ref v0), (1, .long v1), (3, .int v3), (4, .int v4_1)]) [1, 2, 3, 0] rfl ?_
  exact hrec_5 k0 h

def f_X11_choose_5s (F P : Nat) (S : xSt) (rec_5 : Nat → Int64 → Int32 → Int32 → xDt → Option (Int32 × xDt)) (v0 : Nat) (v1 : Int64) (v3 : Int32) (v4 : Int32) (D : xDt) : Option (Int32 × xDt) :=
  if 64 ≤ v4 then (some (v3, D)) else (if (lg_cmp ((jlushr v1 v4) &&& 1) 0) = 0 then (f_X11_choose_34 F P S rec_5 v0 v1 v3 v4 D) else (xlet (v3 + 1) fun v3_1 => xgrd (xin v3 (xl S (xr S v0 10))) (xlet (xup D.1 (xr S v0 10) (v3).toNatClampNeg v4, D.2) fun D3 => f_X11_choose_34 F P S rec_5 v0 v1 v3_1 v4 D3)))
def f_X11_choose_5 (F P : Nat) (S : xSt) : Nat → Nat → Int64 → Int32 → Int32 → xDt → Option (Int32 × xDt)
  | 0 => fun _ _ _ _ _ => none
  | n + 1 => f_X11_choose_5s F P S (f_X11_choose_5 F P S n)
set_option maxHeartbeats 4000000 in
theorem t_X11_choose_5s {F P : Nat} {S : xSt} (hS : xWF S) {rec_5 : Nat → Int64 → Int32 → Int32 → xDt → Option (Int32 × xDt)} (hrec_5 : ∀ {v0 : Nat} {v1 : Int64} {v3 : Int32} {v4 : Int32} {D : xDt} {r : Int32 × xDt}, xK S v0 11 → rec_5 v0 v1 v3 v4 D = some r → yEx md_X11_choose 0 5 [(0, .ref v0), (1, .long v1), (3, .int v3), (4, .int v4)] [] S D (xQi S r)) {v0 : Nat} {v1 : Int64} {v3 : Int32} {v4 : Int32} {D : xDt} {r : Int32 × xDt} (k0 : xK S v0 11) (h : f_X11_choose_5s F P S rec_5 v0 v1 v3 v4 D = some r) : yEx md_X11_choose 0 5 [(0, .ref v0), (1, .long v1), (3, .int v3), (4, .int v4)] [] S D (xQi S r) := by
  unfold f_X11_choose_5s at h
  refine x_iload dX11_choose_5 3 rfl ?_
  refine x_bipush 64 dX11_choose_7 (by decide) ?_
  refine x_icmp_ge 40 dX11_choose_9 (by decide) (fun c => ?_) (fun c => ?_)
  · rw [if_pos c] at h
    refine x_iload_n dX11_choose_40 2 rfl ?_
    obtain rfl := Option.some.inj h
    exact y_iret rfl dX11_choose_41
  · rw [if_neg c] at h
    refine x_lload_n dX11_choose_12 1 rfl ?_
    refine x_iload dX11_choose_13 3 rfl ?_
    refine x_lushr dX11_choose_15 ?_
    refine x_lconst 1 dX11_choose_16 (by decide) ?_
    refine x_land dX11_choose_17 ?_
    refine x_lconst 0 dX11_choose_18 (by decide) ?_
    refine x_lcmp dX11_choose_19 ?_
    refine x_if_eq 34 dX11_choose_20 (by decide) (fun c => ?_) (fun c => ?_)
    · rw [if_pos c] at h
      exact t_X11_choose_34 hS hrec_5 k0 h
    · rw [if_neg c] at h
      refine x_aload_n dX11_choose_23 0 rfl ?_
      refine y_getr (kd := 100) hS fl_RX11_81 dX11_choose_24 rfl k0 ?_
      refine x_iload_n dX11_choose_27 2 rfl ?_
      refine xlet_e h (fun v3_1 ev3_1 h => ?_)
      refine y_iinc v3_1 ev3_1 (by decide) [(3, .int v3_1), (0, .ref v0), (1, .long v1), (4, .int v4)] dX11_choose_28 2 rfl (by show _ < 5; decide) rfl ?_
      refine x_iload dX11_choose_31 3 rfl ?_
      refine xgrd_e h (fun g2 h => ?_)
      refine xlet_e h (fun D3 eD3 h => ?_)
      refine y_iast dX11_choose_33 ((hS.f k0 10 100 rfl).2) g2 eD3 ?_
      refine x_lv (lv' := [(0, .ref v0), (1, .long v1), (3, .int v3_1), (4, .int v4)]) [1, 2, 0, 3] rfl ?_
      exact t_X11_choose_34 hS hrec_5 k0 h
theorem t_X11_choose_5 {F P : Nat} {S : xSt} (hS : xWF S) : ∀ (n : Nat) {v0 : Nat} {v1 : Int64} {v3 : Int32} {v4 : Int32} {D : xDt} {r : Int32 × xDt}, xK S v0 11 → f_X11_choose_5 F P S n v0 v1 v3 v4 D = some r → yEx md_X11_choose 0 5 [(0, .ref v0), (1, .long v1), (3, .int v3), (4, .int v4)] [] S D (xQi S r) := by
  intro n
  induction n with
  | zero => intros; rename_i h; cases h
  | succ n ih =>
    intro v0 v1 v3 v4 D r k0 h
    exact t_X11_choose_5s hS (fun k0 h => ih k0 h) k0 h

def f_X11_choose (F P : Nat) (S : xSt) (v0 : Nat) (v1 : Int64) (D : xDt) : Option (Int32 × xDt) :=
  f_X11_choose_5 F P S F v0 v1 0 0 D
set_option maxHeartbeats 4000000 in
theorem S_X11_choose {F P : Nat} {S : xSt} (hS : xWF S) {v0 : Nat} {v1 : Int64} {D : xDt} {r : Int32 × xDt} (k0 : xK S v0 11) (h : f_X11_choose F P S v0 v1 D = some r) : xSp md_X11_choose (0, 0, 0) [.ref v0, .long v1] (S, D) (xQi S r) := by
  unfold f_X11_choose at h
  refine xEntry (by decide) (Nat.le_of_ble_eq_true rfl) ?_
  refine x_lv (lv' := [(0, .ref v0), (1, .long v1)]) [0, 1] rfl ?_
  refine x_iconst 0 dX11_choose_0 (by decide) ?_
  refine y_istore_n 0 rfl [(3, .int 0), (0, .ref v0), (1, .long v1)] dX11_choose_1 (by show _ < 5; decide) rfl ?_
  refine x_iconst 0 dX11_choose_2 (by decide) ?_
  refine y_istore 0 rfl [(4, .int 0), (3, .int 0), (0, .ref v0), (1, .long v1)] dX11_choose_3 (by show _ < 5; decide) rfl ?_
  refine x_lv (lv' := [(0, .ref v0), (1, .long v1), (3, .int 0), (4, .int 0)]) [2, 3, 1, 0] rfl ?_
  exact t_X11_choose_5 hS F k0 h

theorem dX11_keptWorlds_0 : decode cX11_keptWorlds 0 = .ok (.aload_n 0, 1) := by decide +kernel
theorem dX11_keptWorlds_1 : decode cX11_keptWorlds 1 = .ok (.iconst 0, 1) := by decide +kernel
theorem dX11_keptWorlds_2 : decode cX11_keptWorlds 2 = .ok (.putfield 211, 3) := by decide +kernel
theorem dX11_keptWorlds_5 : decode cX11_keptWorlds 5 = .ok (.aload_n 0, 1) := by decide +kernel
theorem dX11_keptWorlds_6 : decode cX11_keptWorlds 6 = .ok (.getfield 19, 3) := by decide +kernel
theorem dX11_keptWorlds_9 : decode cX11_keptWorlds 9 = .ok (.aload_n 0, 1) := by decide +kernel
theorem dX11_keptWorlds_10 : decode cX11_keptWorlds 10 = .ok (.getfield 10, 3) := by decide +kernel
theorem dX11_keptWorlds_13 : decode cX11_keptWorlds 13 = .ok (.invokevirtual 247, 3) := by decide +kernel
theorem dX11_keptWorlds_16 : decode cX11_keptWorlds 16 = .ok (.areturn, 1) := by decide +kernel
def f_X11_keptWorlds (F P : Nat) (S : xSt) (v0 : Nat) (D : xDt) : Option (Nat × xDt) :=
  xlet (xup D.1 v0 13 0, D.2) fun D1 => (f_X5_keep F P S (xr S v0 1) (xr S v0 0) D1).bind fun q2 => xgrd (xkb S q2.1 10) (some (q2.1, q2.2))
set_option maxHeartbeats 4000000 in
theorem S_X11_keptWorlds {F P : Nat} {S : xSt} (hS : xWF S) {v0 : Nat} {D : xDt} {r : Nat × xDt} (k0 : xK S v0 11) (h : f_X11_keptWorlds F P S v0 D = some r) : xSp md_X11_keptWorlds (3, 0, 0) [.ref v0] (S, D) (xQr S r) := by
  unfold f_X11_keptWorlds at h
  refine xEntry (by decide) (Nat.le_of_ble_eq_true rfl) ?_
  refine x_lv (lv' := [(0, .ref v0)]) [0] rfl ?_
  refine x_aload_n dX11_keptWorlds_0 0 rfl ?_
  refine x_iconst 0 dX11_keptWorlds_1 (by decide) ?_
  refine xlet_e h (fun D1 eD1 h => ?_)
  refine y_putz rfl fp_RX11_211 dX11_keptWorlds_2 rfl k0 eD1 ?_
  refine x_aload_n dX11_keptWorlds_5 0 rfl ?_
  refine y_getr (kd := 5) hS fl_RX11_19 dX11_keptWorlds_6 rfl k0 ?_
  refine x_aload_n dX11_keptWorlds_9 0 rfl ?_
  refine y_getr (kd := 10) hS fl_RX11_10 dX11_keptWorlds_10 rfl k0 ?_
  refine xbnd_e h (fun q2 e2 h => ?_)
  refine y_callVr (As := [.ref (xr S v0 0)]) (q := q2) cv_RX11_247 dX11_keptWorlds_13 ((hS.f k0 1 5 rfl).2) rfl (Nat.le_of_ble_eq_true rfl) (by omega) (S_X5_keep hS ((hS.f k0 1 5 rfl).2) ((hS.f k0 0 10 rfl).2) e2) ?_
  refine xgrd_e h (fun g3 h => ?_)
  obtain rfl := Option.some.inj h
  exact y_aret rfl dX11_keptWorlds_16

theorem dX11_say_0 : decode cX11_say 0 = .ok (.aload_n 0, 1) := by decide +kernel
theorem dX11_say_1 : decode cX11_say 1 = .ok (.aload_n 0, 1) := by decide +kernel
theorem dX11_say_2 : decode cX11_say 2 = .ok (.invokevirtual 151, 3) := by decide +kernel
theorem dX11_say_5 : decode cX11_say 5 = .ok (.invokevirtual 168, 3) := by decide +kernel
theorem dX11_say_8 : decode cX11_say 8 = .ok (.istore_n 1, 1) := by decide +kernel
theorem dX11_say_9 : decode cX11_say 9 = .ok (.iload_n 1, 1) := by decide +kernel
theorem dX11_say_10 : decode cX11_say 10 = .ok (.ifCond .le 36, 3) := by decide +kernel
theorem dX11_say_13 : decode cX11_say 13 = .ok (.iload_n 1, 1) := by decide +kernel
theorem dX11_say_14 : decode cX11_say 14 = .ok (.aload_n 0, 1) := by decide +kernel
theorem dX11_say_15 : decode cX11_say 15 = .ok (.getfield 10, 3) := by decide +kernel
theorem dX11_say_18 : decode cX11_say 18 = .ok (.getfield 92, 3) := by decide +kernel
theorem dX11_say_21 : decode cX11_say 21 = .ok (.if_icmp .ge 25, 3) := by decide +kernel
theorem dX11_say_24 : decode cX11_say 24 = .ok (.aload_n 0, 1) := by decide +kernel
theorem dX11_say_25 : decode cX11_say 25 = .ok (.invokevirtual 171, 3) := by decide +kernel
theorem dX11_say_28 : decode cX11_say 28 = .ok (.astore_n 2, 1) := by decide +kernel
theorem dX11_say_29 : decode cX11_say 29 = .ok (.aload_n 0, 1) := by decide +kernel
theorem dX11_say_30 : decode cX11_say 30 = .ok (.getfield 10, 3) := by decide +kernel
theorem dX11_say_33 : decode cX11_say 33 = .ok (.aload_n 2, 1) := by decide +kernel
theorem dX11_say_34 : decode cX11_say 34 = .ok (.aload_n 2, 1) := by decide +kernel
theorem dX11_say_35 : decode cX11_say 35 = .ok (.getfield 175, 3) := by decide +kernel
theorem dX11_say_38 : decode cX11_say 38 = .ok (.aload_n 0, 1) := by decide +kernel
theorem dX11_say_39 : decode cX11_say 39 = .ok (.getfield 81, 3) := by decide +kernel
theorem dX11_say_42 : decode cX11_say 42 = .ok (.iload_n 1, 1) := by decide +kernel
theorem dX11_say_43 : decode cX11_say 43 = .ok (.invokevirtual 178, 3) := by decide +kernel
theorem dX11_say_46 : decode cX11_say 46 = .ok (.iload_n 1, 1) := by decide +kernel
theorem dX11_say_47 : decode cX11_say 47 = .ok (.ireturn, 1) := by decide +kernel
def f_X11_say (F P : Nat) (S : xSt) (v0 : Nat) (D : xDt) : Option (Int32 × xDt) :=
  (f_X11_truths F P S v0 D).bind fun q1 => (f_X11_choose F P S v0 q1.1 q1.2).bind fun q2 => if q2.1 ≤ 0 then (some (q2.1, q2.2)) else (if (q2.2.1 (xr S v0 0) 0) ≤ q2.1 then (some (q2.1, q2.2)) else ((f_X11_keptWorlds F P S v0 q2.2).bind fun q3 => xgrd (xkb S q3.1 10) ((f_X10_take F P S (xr S v0 0) q3.1 (xr S q3.1 2) (xr S v0 10) q2.1 q3.2).bind fun q5 => some (q2.1, q5))))
set_option maxHeartbeats 4000000 in
theorem S_X11_say {F P : Nat} {S : xSt} (hS : xWF S) {v0 : Nat} {D : xDt} {r : Int32 × xDt} (k0 : xK S v0 11) (h : f_X11_say F P S v0 D = some r) : xSp md_X11_say (6, 0, 0) [.ref v0] (S, D) (xQi S r) := by
  unfold f_X11_say at h
  refine xEntry (by decide) (Nat.le_of_ble_eq_true rfl) ?_
  refine x_lv (lv' := [(0, .ref v0)]) [0] rfl ?_
  refine x_aload_n dX11_say_0 0 rfl ?_
  refine x_aload_n dX11_say_1 0 rfl ?_
  refine xbnd_e h (fun q1 e1 h => ?_)
  refine y_callVl (As := []) (q := q1) cv_RX11_151 dX11_say_2 k0 rfl (Nat.le_of_ble_eq_true rfl) (by omega) (S_X11_truths hS k0 e1) ?_
  refine xbnd_e h (fun q2 e2 h => ?_)
  refine y_callVi (As := [.long q1.1]) (q := q2) cv_RX11_168 dX11_say_5 k0 rfl (Nat.le_of_ble_eq_true rfl) (by omega) (S_X11_choose hS k0 e2) ?_
  refine y_istore_n q2.1 rfl [(1, .int q2.1), (0, .ref v0)] dX11_say_8 (by show _ < 3; decide) rfl ?_
  refine x_iload_n dX11_say_9 0 rfl ?_
  refine x_if_le 46 dX11_say_10 (by decide) (fun c => ?_) (fun c => ?_)
  · rw [if_pos c] at h
    refine x_iload_n dX11_say_46 0 rfl ?_
    obtain rfl := Option.some.inj h
    exact y_iret rfl dX11_say_47
  · rw [if_neg c] at h
    refine x_iload_n dX11_say_13 0 rfl ?_
    refine x_aload_n dX11_say_14 1 rfl ?_
    refine y_getr (kd := 10) hS fl_RX11_10 dX11_say_15 rfl k0 ?_
    refine y_geti fl_RX11_92 dX11_say_18 rfl ((hS.f k0 0 10 rfl).2) ?_
    refine x_icmp_ge 46 dX11_say_21 (by decide) (fun c => ?_) (fun c => ?_)
    · rw [if_pos c] at h
      refine x_iload_n dX11_say_46 0 rfl ?_
      obtain rfl := Option.some.inj h
      exact y_iret rfl dX11_say_47
    · rw [if_neg c] at h
      refine x_aload_n dX11_say_24 1 rfl ?_
      refine xbnd_e h (fun q3 e3 h => ?_)
      refine y_callVr (As := []) (q := q3) cv_RX11_171 dX11_say_25 k0 rfl (Nat.le_of_ble_eq_true rfl) (by omega) (S_X11_keptWorlds hS k0 e3) ?_
      refine xgrd_e h (fun g4 h => ?_)
      refine x_astore_n [(2, .ref q3.1), (1, .int q2.1), (0, .ref v0)] dX11_say_28 (by show _ < 3; decide) rfl ?_
      refine x_aload_n dX11_say_29 2 rfl ?_
      refine y_getr (kd := 10) hS fl_RX11_10 dX11_say_30 rfl k0 ?_
      refine x_aload_n dX11_say_33 0 rfl ?_
      refine x_aload_n dX11_say_34 0 rfl ?_
      refine y_getr (kd := 101) hS fl_RX11_175 dX11_say_35 rfl (xkb_K g4) ?_
      refine x_aload_n dX11_say_38 2 rfl ?_
      refine y_getr (kd := 100) hS fl_RX11_81 dX11_say_39 rfl k0 ?_
      refine x_iload_n dX11_say_42 1 rfl ?_
      refine xbnd_e h (fun q5 e5 h => ?_)
      refine y_callVv (As := [.ref q3.1, .ref (xr S q3.1 2), .ref (xr S v0 10), .int q2.1]) (q := q5) cv_RX11_178 dX11_say_43 ((hS.f k0 0 10 rfl).2) rfl (Nat.le_of_ble_eq_true rfl) (by omega) (S_X10_take hS ((hS.f k0 0 10 rfl).2) (xkb_K g4) ((hS.f (xkb_K g4) 2 101 rfl).2) ((hS.f k0 10 100 rfl).2) e5) ?_
      refine x_iload_n dX11_say_46 1 rfl ?_
      obtain rfl := Option.some.inj h
      exact y_iret rfl dX11_say_47

theorem dX11_event_0 : decode cX11_event 0 = .ok (.aload_n 0, 1) := by decide +kernel
theorem dX11_event_1 : decode cX11_event 1 = .ok (.getfield 26, 3) := by decide +kernel
theorem dX11_event_4 : decode cX11_event 4 = .ok (.aload_n 0, 1) := by decide +kernel
theorem dX11_event_5 : decode cX11_event 5 = .ok (.getfield 42, 3) := by decide +kernel
theorem dX11_event_8 : decode cX11_event 8 = .ok (.invokevirtual 182, 3) := by decide +kernel
theorem dX11_event_11 : decode cX11_event 11 = .ok (.ireturn, 1) := by decide +kernel
def f_X11_event (F P : Nat) (S : xSt) (v0 : Nat) (D : xDt) : Option (Int32 × xDt) :=
  (f_X1_add F P S (xr S v0 2) (xr S v0 4) D).bind fun q1 => some (q1.1, q1.2)
set_option maxHeartbeats 4000000 in
theorem S_X11_event {F P : Nat} {S : xSt} (hS : xWF S) {v0 : Nat} {D : xDt} {r : Int32 × xDt} (k0 : xK S v0 11) (h : f_X11_event F P S v0 D = some r) : xSp md_X11_event (4, 0, 0) [.ref v0] (S, D) (xQi S r) := by
  unfold f_X11_event at h
  refine xEntry (by decide) (Nat.le_of_ble_eq_true rfl) ?_
  refine x_lv (lv' := [(0, .ref v0)]) [0] rfl ?_
  refine x_aload_n dX11_event_0 0 rfl ?_
  refine y_getr (kd := 1) hS fl_RX11_26 dX11_event_1 rfl k0 ?_
  refine x_aload_n dX11_event_4 0 rfl ?_
  refine y_getr (kd := 2) hS fl_RX11_42 dX11_event_5 rfl k0 ?_
  refine xbnd_e h (fun q1 e1 h => ?_)
  refine y_callVi (As := [.ref (xr S v0 4)]) (q := q1) cv_RX11_182 dX11_event_8 ((hS.f k0 2 1 rfl).2) rfl (Nat.le_of_ble_eq_true rfl) (by omega) (S_X1_add hS ((hS.f k0 2 1 rfl).2) ((hS.f k0 4 2 rfl).2) e1) ?_
  obtain rfl := Option.some.inj h
  exact y_iret rfl dX11_event_11

theorem dX11_tieEvents_0 : decode cX11_tieEvents 0 = .ok (.iload_n 1, 1) := by decide +kernel
theorem dX11_tieEvents_1 : decode cX11_tieEvents 1 = .ok (.invokestatic 102, 3) := by decide +kernel
theorem dX11_tieEvents_4 : decode cX11_tieEvents 4 = .ok (.ifCond .eq 25, 3) := by decide +kernel
theorem dX11_tieEvents_7 : decode cX11_tieEvents 7 = .ok (.aload_n 0, 1) := by decide +kernel
theorem dX11_tieEvents_8 : decode cX11_tieEvents 8 = .ok (.getfield 26, 3) := by decide +kernel
theorem dX11_tieEvents_11 : decode cX11_tieEvents 11 = .ok (.iload_n 2, 1) := by decide +kernel
theorem dX11_tieEvents_12 : decode cX11_tieEvents 12 = .ok (.invokevirtual 184, 3) := by decide +kernel
theorem dX11_tieEvents_15 : decode cX11_tieEvents 15 = .ok (.ifCond .eq 14, 3) := by decide +kernel
theorem dX11_tieEvents_18 : decode cX11_tieEvents 18 = .ok (.aload_n 0, 1) := by decide +kernel
theorem dX11_tieEvents_19 : decode cX11_tieEvents 19 = .ok (.getfield 26, 3) := by decide +kernel
theorem dX11_tieEvents_22 : decode cX11_tieEvents 22 = .ok (.iload_n 3, 1) := by decide +kernel
theorem dX11_tieEvents_23 : decode cX11_tieEvents 23 = .ok (.invokevirtual 184, 3) := by decide +kernel
theorem dX11_tieEvents_26 : decode cX11_tieEvents 26 = .ok (.ifCond .ne 5, 3) := by decide +kernel
theorem dX11_tieEvents_29 : decode cX11_tieEvents 29 = .ok (.iconst (-1), 1) := by decide +kernel
theorem dX11_tieEvents_30 : decode cX11_tieEvents 30 = .ok (.ireturn, 1) := by decide +kernel
theorem dX11_tieEvents_31 : decode cX11_tieEvents 31 = .ok (.aload_n 0, 1) := by decide +kernel
theorem dX11_tieEvents_32 : decode cX11_tieEvents 32 = .ok (.getfield 26, 3) := by decide +kernel
theorem dX11_tieEvents_35 : decode cX11_tieEvents 35 = .ok (.iload_n 1, 1) := by decide +kernel
theorem dX11_tieEvents_36 : decode cX11_tieEvents 36 = .ok (.iconst 1, 1) := by decide +kernel
theorem dX11_tieEvents_37 : decode cX11_tieEvents 37 = .ok (.isub, 1) := by decide +kernel
theorem dX11_tieEvents_38 : decode cX11_tieEvents 38 = .ok (.iload_n 2, 1) := by decide +kernel
theorem dX11_tieEvents_39 : decode cX11_tieEvents 39 = .ok (.iload_n 3, 1) := by decide +kernel
theorem dX11_tieEvents_40 : decode cX11_tieEvents 40 = .ok (.invokevirtual 185, 3) := by decide +kernel
theorem dX11_tieEvents_43 : decode cX11_tieEvents 43 = .ok (.ireturn, 1) := by decide +kernel
def f_X11_tieEvents (F P : Nat) (S : xSt) (v0 : Nat) (v1 : Int32) (v2 : Int32) (v3 : Int32) (D : xDt) : Option (Int32 × xDt) :=
  (f_X11_isAgent F P S v1 D).bind fun q1 => if q1.1 = 0 then (some ((-1), q1.2)) else ((f_X1_has F P S (xr S v0 2) v2 q1.2).bind fun q2 => if q2.1 = 0 then (some ((-1), q2.2)) else ((f_X1_has F P S (xr S v0 2) v3 q2.2).bind fun q3 => if q3.1 = 0 then (some ((-1), q3.2)) else ((f_X1_merge F P S (xr S v0 2) (v1 - 1) v2 v3 q3.2).bind fun q4 => some (q4.1, q4.2))))
set_option maxHeartbeats 4000000 in
theorem S_X11_tieEvents {F P : Nat} {S : xSt} (hS : xWF S) {v0 : Nat} {v1 : Int32} {v2 : Int32} {v3 : Int32} {D : xDt} {r : Int32 × xDt} (k0 : xK S v0 11) (h : f_X11_tieEvents F P S v0 v1 v2 v3 D = some r) : xSp md_X11_tieEvents (2, 0, 0) [.ref v0, .int v1, .int v2, .int v3] (S, D) (xQi S r) := by
  unfold f_X11_tieEvents at h
  refine xEntry (by decide) (Nat.le_of_ble_eq_true rfl) ?_
  refine x_lv (lv' := [(0, .ref v0), (1, .int v1), (2, .int v2), (3, .int v3)]) [0, 1, 2, 3] rfl ?_
  refine x_iload_n dX11_tieEvents_0 1 rfl ?_
  refine xbnd_e h (fun q1 e1 h => ?_)
  refine y_callSi (As := [.int v1]) (q := q1) cs_RX11_102 dX11_tieEvents_1 rfl (Nat.le_of_ble_eq_true rfl) (by omega) (S_X11_isAgent hS e1) ?_
  refine x_if_eq 29 dX11_tieEvents_4 (by decide) (fun c => ?_) (fun c => ?_)
  · rw [if_pos c] at h
    refine x_iconst (-1) dX11_tieEvents_29 (by decide) ?_
    obtain rfl := Option.some.inj h
    exact y_iret rfl dX11_tieEvents_30
  · rw [if_neg c] at h
    refine x_aload_n dX11_tieEvents_7 0 rfl ?_
    refine y_getr (kd := 1) hS fl_RX11_26 dX11_tieEvents_8 rfl k0 ?_
    refine x_iload_n dX11_tieEvents_11 2 rfl ?_
    refine xbnd_e h (fun q2 e2 h => ?_)
    refine y_callVi (As := [.int v2]) (q := q2) cv_RX11_184 dX11_tieEvents_12 ((hS.f k0 2 1 rfl).2) rfl (Nat.le_of_ble_eq_true rfl) (by omega) (S_X1_has hS ((hS.f k0 2 1 rfl).2) e2) ?_
    refine x_if_eq 29 dX11_tieEvents_15 (by decide) (fun c => ?_) (fun c => ?_)
    · rw [if_pos c] at h
      refine x_iconst (-1) dX11_tieEvents_29 (by decide) ?_
      obtain rfl := Option.some.inj h
      exact y_iret rfl dX11_tieEvents_30
    · rw [if_neg c] at h
      refine x_aload_n dX11_tieEvents_18 0 rfl ?_
      refine y_getr (kd := 1) hS fl_RX11_26 dX11_tieEvents_19 rfl k0 ?_
      refine x_iload_n dX11_tieEvents_22 3 rfl ?_
      refine xbnd_e h (fun q3 e3 h => ?_)
      refine y_callVi (As := [.int v3]) (q := q3) cv_RX11_184 dX11_tieEvents_23 ((hS.f k0 2 1 rfl).2) rfl (Nat.le_of_ble_eq_true rfl) (by omega) (S_X1_has hS ((hS.f k0 2 1 rfl).2) e3) ?_
      refine x_if_ne 31 dX11_tieEvents_26 (by decide) (fun c => ?_) (fun c => ?_)
      · rw [if_neg c] at h
        refine x_aload_n dX11_tieEvents_31 0 rfl ?_
        refine y_getr (kd := 1) hS fl_RX11_26 dX11_tieEvents_32 rfl k0 ?_
        refine x_iload_n dX11_tieEvents_35 1 rfl ?_
        refine x_iconst 1 dX11_tieEvents_36 (by decide) ?_
        refine x_isub dX11_tieEvents_37 ?_
        refine x_iload_n dX11_tieEvents_38 2 rfl ?_
        refine x_iload_n dX11_tieEvents_39 3 rfl ?_
        refine xbnd_e h (fun q4 e4 h => ?_)
        refine y_callVi (As := [.int (v1 - 1), .int v2, .int v3]) (q := q4) cv_RX11_185 dX11_tieEvents_40 ((hS.f k0 2 1 rfl).2) rfl (Nat.le_of_ble_eq_true rfl) (by omega) (S_X1_merge hS ((hS.f k0 2 1 rfl).2) e4) ?_
        obtain rfl := Option.some.inj h
        exact y_iret rfl dX11_tieEvents_43
      · rw [if_pos c] at h
        refine x_iconst (-1) dX11_tieEvents_29 (by decide) ?_
        obtain rfl := Option.some.inj h
        exact y_iret rfl dX11_tieEvents_30

theorem dX11_change_0 : decode cX11_change 0 = .ok (.aload_n 0, 1) := by decide +kernel
theorem dX11_change_1 : decode cX11_change 1 = .ok (.getfield 26, 3) := by decide +kernel
theorem dX11_change_4 : decode cX11_change 4 = .ok (.iload_n 1, 1) := by decide +kernel
theorem dX11_change_5 : decode cX11_change 5 = .ok (.invokevirtual 184, 3) := by decide +kernel
theorem dX11_change_8 : decode cX11_change 8 = .ok (.ifCond .eq 23, 3) := by decide +kernel
theorem dX11_change_11 : decode cX11_change 11 = .ok (.iload_n 2, 1) := by decide +kernel
theorem dX11_change_12 : decode cX11_change 12 = .ok (.invokestatic 116, 3) := by decide +kernel
theorem dX11_change_15 : decode cX11_change 15 = .ok (.ifCond .eq 16, 3) := by decide +kernel
theorem dX11_change_18 : decode cX11_change 18 = .ok (.aload_n 0, 1) := by decide +kernel
theorem dX11_change_19 : decode cX11_change 19 = .ok (.getfield 42, 3) := by decide +kernel
theorem dX11_change_22 : decode cX11_change 22 = .ok (.getfield 186, 3) := by decide +kernel
theorem dX11_change_25 : decode cX11_change 25 = .ok (.sipush 150, 3) := by decide +kernel
theorem dX11_change_28 : decode cX11_change 28 = .ok (.if_icmp .le 5, 3) := by decide +kernel
theorem dX11_change_31 : decode cX11_change 31 = .ok (.iconst (-1), 1) := by decide +kernel
theorem dX11_change_32 : decode cX11_change 32 = .ok (.ireturn, 1) := by decide +kernel
theorem dX11_change_33 : decode cX11_change 33 = .ok (.aload_n 0, 1) := by decide +kernel
theorem dX11_change_34 : decode cX11_change 34 = .ok (.getfield 26, 3) := by decide +kernel
theorem dX11_change_37 : decode cX11_change 37 = .ok (.iload_n 1, 1) := by decide +kernel
theorem dX11_change_38 : decode cX11_change 38 = .ok (.iload_n 2, 1) := by decide +kernel
theorem dX11_change_39 : decode cX11_change 39 = .ok (.aload_n 0, 1) := by decide +kernel
theorem dX11_change_40 : decode cX11_change 40 = .ok (.getfield 42, 3) := by decide +kernel
theorem dX11_change_43 : decode cX11_change 43 = .ok (.invokevirtual 187, 3) := by decide +kernel
theorem dX11_change_46 : decode cX11_change 46 = .ok (.iconst 0, 1) := by decide +kernel
theorem dX11_change_47 : decode cX11_change 47 = .ok (.ireturn, 1) := by decide +kernel
def f_X11_change (F P : Nat) (S : xSt) (v0 : Nat) (v1 : Int32) (v2 : Int32) (D : xDt) : Option (Int32 × xDt) :=
  (f_X1_has F P S (xr S v0 2) v1 D).bind fun q1 => if q1.1 = 0 then (some ((-1), q1.2)) else ((f_X11_isAtom F P S v2 q1.2).bind fun q2 => if q2.1 = 0 then (some ((-1), q2.2)) else (if (q2.2.1 (xr S v0 4) 1) ≤ 150 then ((f_X1_setChange F P S (xr S v0 2) v1 v2 (xr S v0 4) q2.2).bind fun q3 => some (0, q3)) else (some ((-1), q2.2))))
set_option maxHeartbeats 4000000 in
theorem S_X11_change {F P : Nat} {S : xSt} (hS : xWF S) {v0 : Nat} {v1 : Int32} {v2 : Int32} {D : xDt} {r : Int32 × xDt} (k0 : xK S v0 11) (h : f_X11_change F P S v0 v1 v2 D = some r) : xSp md_X11_change (4, 0, 0) [.ref v0, .int v1, .int v2] (S, D) (xQi S r) := by
  unfold f_X11_change at h
  refine xEntry (by decide) (Nat.le_of_ble_eq_true rfl) ?_
  refine x_lv (lv' := [(0, .ref v0), (1, .int v1), (2, .int v2)]) [0, 1, 2] rfl ?_
  refine x_aload_n dX11_change_0 0 rfl ?_
  refine y_getr (kd := 1) hS fl_RX11_26 dX11_change_1 rfl k0 ?_
  refine x_iload_n dX11_change_4 1 rfl ?_
  refine xbnd_e h (fun q1 e1 h => ?_)
  refine y_callVi (As := [.int v1]) (q := q1) cv_RX11_184 dX11_change_5 ((hS.f k0 2 1 rfl).2) rfl (Nat.le_of_ble_eq_true rfl) (by omega) (S_X1_has hS ((hS.f k0 2 1 rfl).2) e1) ?_
  refine x_if_eq 31 dX11_change_8 (by decide) (fun c => ?_) (fun c => ?_)
  · rw [if_pos c] at h
    refine x_iconst (-1) dX11_change_31 (by decide) ?_
    obtain rfl := Option.some.inj h
    exact y_iret rfl dX11_change_32
  · rw [if_neg c] at h
    refine x_iload_n dX11_change_11 2 rfl ?_
    refine xbnd_e h (fun q2 e2 h => ?_)
    refine y_callSi (As := [.int v2]) (q := q2) cs_RX11_116 dX11_change_12 rfl (Nat.le_of_ble_eq_true rfl) (by omega) (S_X11_isAtom hS e2) ?_
    refine x_if_eq 31 dX11_change_15 (by decide) (fun c => ?_) (fun c => ?_)
    · rw [if_pos c] at h
      refine x_iconst (-1) dX11_change_31 (by decide) ?_
      obtain rfl := Option.some.inj h
      exact y_iret rfl dX11_change_32
    · rw [if_neg c] at h
      refine x_aload_n dX11_change_18 0 rfl ?_
      refine y_getr (kd := 2) hS fl_RX11_42 dX11_change_19 rfl k0 ?_
      refine y_geti fl_RX11_186 dX11_change_22 rfl ((hS.f k0 4 2 rfl).2) ?_
      refine x_sipush 150 dX11_change_25 (by decide) ?_
      refine x_icmp_le 33 dX11_change_28 (by decide) (fun c => ?_) (fun c => ?_)
      · rw [if_pos c] at h
        refine x_aload_n dX11_change_33 0 rfl ?_
        refine y_getr (kd := 1) hS fl_RX11_26 dX11_change_34 rfl k0 ?_
        refine x_iload_n dX11_change_37 1 rfl ?_
        refine x_iload_n dX11_change_38 2 rfl ?_
        refine x_aload_n dX11_change_39 0 rfl ?_
        refine y_getr (kd := 2) hS fl_RX11_42 dX11_change_40 rfl k0 ?_
        refine xbnd_e h (fun q3 e3 h => ?_)
        refine y_callVv (As := [.int v1, .int v2, .ref (xr S v0 4)]) (q := q3) cv_RX11_187 dX11_change_43 ((hS.f k0 2 1 rfl).2) rfl (Nat.le_of_ble_eq_true rfl) (by omega) (S_X1_setChange hS ((hS.f k0 2 1 rfl).2) ((hS.f k0 4 2 rfl).2) e3) ?_
        refine x_iconst 0 dX11_change_46 (by decide) ?_
        obtain rfl := Option.some.inj h
        exact y_iret rfl dX11_change_47
      · rw [if_neg c] at h
        refine x_iconst (-1) dX11_change_31 (by decide) ?_
        obtain rfl := Option.some.inj h
        exact y_iret rfl dX11_change_32

theorem dX11_noEvents_0 : decode cX11_noEvents 0 = .ok (.aload_n 0, 1) := by decide +kernel
theorem dX11_noEvents_1 : decode cX11_noEvents 1 = .ok (.getfield 26, 3) := by decide +kernel
theorem dX11_noEvents_4 : decode cX11_noEvents 4 = .ok (.getfield 191, 3) := by decide +kernel
theorem dX11_noEvents_7 : decode cX11_noEvents 7 = .ok (.istore_n 1, 1) := by decide +kernel
theorem dX11_noEvents_8 : decode cX11_noEvents 8 = .ok (.aload_n 0, 1) := by decide +kernel
theorem dX11_noEvents_9 : decode cX11_noEvents 9 = .ok (.getfield 26, 3) := by decide +kernel
theorem dX11_noEvents_12 : decode cX11_noEvents 12 = .ok (.iconst 0, 1) := by decide +kernel
theorem dX11_noEvents_13 : decode cX11_noEvents 13 = .ok (.putfield 191, 3) := by decide +kernel
theorem dX11_noEvents_16 : decode cX11_noEvents 16 = .ok (.iload_n 1, 1) := by decide +kernel
theorem dX11_noEvents_17 : decode cX11_noEvents 17 = .ok (.ireturn, 1) := by decide +kernel
def f_X11_noEvents (F P : Nat) (S : xSt) (v0 : Nat) (D : xDt) : Option (Int32 × xDt) :=
  xlet (D.1 (xr S v0 2) 0) fun v1_1 => xlet (xup D.1 (xr S v0 2) 0 0, D.2) fun D2 => some (v1_1, D2)
set_option maxHeartbeats 4000000 in
theorem S_X11_noEvents {F P : Nat} {S : xSt} (hS : xWF S) {v0 : Nat} {D : xDt} {r : Int32 × xDt} (k0 : xK S v0 11) (h : f_X11_noEvents F P S v0 D = some r) : xSp md_X11_noEvents (0, 0, 0) [.ref v0] (S, D) (xQi S r) := by
  unfold f_X11_noEvents at h
  refine xEntry (by decide) (Nat.le_of_ble_eq_true rfl) ?_
  refine x_lv (lv' := [(0, .ref v0)]) [0] rfl ?_
  refine x_aload_n dX11_noEvents_0 0 rfl ?_
  refine y_getr (kd := 1) hS fl_RX11_26 dX11_noEvents_1 rfl k0 ?_
  refine y_geti fl_RX11_191 dX11_noEvents_4 rfl ((hS.f k0 2 1 rfl).2) ?_
  refine xlet_e h (fun v1_1 ev1_1 h => ?_)
  refine y_istore_n v1_1 ev1_1 [(1, .int v1_1), (0, .ref v0)] dX11_noEvents_7 (by show _ < 2; decide) rfl ?_
  refine x_aload_n dX11_noEvents_8 1 rfl ?_
  refine y_getr (kd := 1) hS fl_RX11_26 dX11_noEvents_9 rfl k0 ?_
  refine x_iconst 0 dX11_noEvents_12 (by decide) ?_
  refine xlet_e h (fun D2 eD2 h => ?_)
  refine y_puti fp_RX11_191 dX11_noEvents_13 rfl ((hS.f k0 2 1 rfl).2) eD2 ?_
  refine x_iload_n dX11_noEvents_16 0 rfl ?_
  obtain rfl := Option.some.inj h
  exact y_iret rfl dX11_noEvents_17

theorem dX11_happen_0 : decode cX11_happen 0 = .ok (.aload_n 0, 1) := by decide +kernel
theorem dX11_happen_1 : decode cX11_happen 1 = .ok (.getfield 26, 3) := by decide +kernel
theorem dX11_happen_4 : decode cX11_happen 4 = .ok (.aload_n 0, 1) := by decide +kernel
theorem dX11_happen_5 : decode cX11_happen 5 = .ok (.getfield 10, 3) := by decide +kernel
theorem dX11_happen_8 : decode cX11_happen 8 = .ok (.aload_n 0, 1) := by decide +kernel
theorem dX11_happen_9 : decode cX11_happen 9 = .ok (.getfield 56, 3) := by decide +kernel
theorem dX11_happen_12 : decode cX11_happen 12 = .ok (.invokevirtual 192, 3) := by decide +kernel
theorem dX11_happen_15 : decode cX11_happen 15 = .ok (.istore_n 1, 1) := by decide +kernel
theorem dX11_happen_16 : decode cX11_happen 16 = .ok (.iload_n 1, 1) := by decide +kernel
theorem dX11_happen_17 : decode cX11_happen 17 = .ok (.bipush 64, 2) := by decide +kernel
theorem dX11_happen_19 : decode cX11_happen 19 = .ok (.if_icmp .le 6, 3) := by decide +kernel
theorem dX11_happen_22 : decode cX11_happen 22 = .ok (.bipush (-3), 2) := by decide +kernel
theorem dX11_happen_24 : decode cX11_happen 24 = .ok (.ireturn, 1) := by decide +kernel
theorem dX11_happen_25 : decode cX11_happen 25 = .ok (.iload_n 1, 1) := by decide +kernel
theorem dX11_happen_26 : decode cX11_happen 26 = .ok (.ifCond .le 55, 3) := by decide +kernel
theorem dX11_happen_29 : decode cX11_happen 29 = .ok (.aload_n 0, 1) := by decide +kernel
theorem dX11_happen_30 : decode cX11_happen 30 = .ok (.invokevirtual 171, 3) := by decide +kernel
theorem dX11_happen_33 : decode cX11_happen 33 = .ok (.astore_n 2, 1) := by decide +kernel
theorem dX11_happen_34 : decode cX11_happen 34 = .ok (.aload_n 0, 1) := by decide +kernel
theorem dX11_happen_35 : decode cX11_happen 35 = .ok (.getfield 10, 3) := by decide +kernel
theorem dX11_happen_38 : decode cX11_happen 38 = .ok (.aload_n 2, 1) := by decide +kernel
theorem dX11_happen_39 : decode cX11_happen 39 = .ok (.aload_n 2, 1) := by decide +kernel
theorem dX11_happen_40 : decode cX11_happen 40 = .ok (.getfield 175, 3) := by decide +kernel
theorem dX11_happen_43 : decode cX11_happen 43 = .ok (.aload_n 0, 1) := by decide +kernel
theorem dX11_happen_44 : decode cX11_happen 44 = .ok (.getfield 26, 3) := by decide +kernel
theorem dX11_happen_47 : decode cX11_happen 47 = .ok (.getfield 196, 3) := by decide +kernel
theorem dX11_happen_50 : decode cX11_happen 50 = .ok (.iload_n 1, 1) := by decide +kernel
theorem dX11_happen_51 : decode cX11_happen 51 = .ok (.invokevirtual 178, 3) := by decide +kernel
theorem dX11_happen_54 : decode cX11_happen 54 = .ok (.aload_n 0, 1) := by decide +kernel
theorem dX11_happen_55 : decode cX11_happen 55 = .ok (.getfield 26, 3) := by decide +kernel
theorem dX11_happen_58 : decode cX11_happen 58 = .ok (.aload_n 0, 1) := by decide +kernel
theorem dX11_happen_59 : decode cX11_happen 59 = .ok (.getfield 10, 3) := by decide +kernel
theorem dX11_happen_62 : decode cX11_happen 62 = .ok (.invokevirtual 199, 3) := by decide +kernel
theorem dX11_happen_65 : decode cX11_happen 65 = .ok (.aload_n 0, 1) := by decide +kernel
theorem dX11_happen_66 : decode cX11_happen 66 = .ok (.getfield 26, 3) := by decide +kernel
theorem dX11_happen_69 : decode cX11_happen 69 = .ok (.aload_n 0, 1) := by decide +kernel
theorem dX11_happen_70 : decode cX11_happen 70 = .ok (.getfield 10, 3) := by decide +kernel
theorem dX11_happen_73 : decode cX11_happen 73 = .ok (.aload_n 2, 1) := by decide +kernel
theorem dX11_happen_74 : decode cX11_happen 74 = .ok (.aload_n 0, 1) := by decide +kernel
theorem dX11_happen_75 : decode cX11_happen 75 = .ok (.getfield 56, 3) := by decide +kernel
theorem dX11_happen_78 : decode cX11_happen 78 = .ok (.invokevirtual 203, 3) := by decide +kernel
theorem dX11_happen_81 : decode cX11_happen 81 = .ok (.iload_n 1, 1) := by decide +kernel
theorem dX11_happen_82 : decode cX11_happen 82 = .ok (.ireturn, 1) := by decide +kernel
def f_X11_happen (F P : Nat) (S : xSt) (v0 : Nat) (D : xDt) : Option (Int32 × xDt) :=
  (f_X1_pair F P S (xr S v0 2) (xr S v0 0) (xr S v0 6) D).bind fun q1 => if q1.1 ≤ 64 then (if q1.1 ≤ 0 then (some (q1.1, q1.2)) else ((f_X11_keptWorlds F P S v0 q1.2).bind fun q2 => xgrd (xkb S q2.1 10) ((f_X10_take F P S (xr S v0 0) q2.1 (xr S q2.1 2) (xr S (xr S v0 2) 4) q1.1 q2.2).bind fun q4 => (f_X1_narrowCells F P S (xr S v0 2) (xr S v0 0) q4).bind fun q5 => (f_X1_changeAtoms F P S (xr S v0 2) (xr S v0 0) q2.1 (xr S v0 6) q5).bind fun q6 => some (q1.1, q6)))) else (some ((-3), q1.2))
set_option maxHeartbeats 4000000 in
theorem S_X11_happen {F P : Nat} {S : xSt} (hS : xWF S) {v0 : Nat} {D : xDt} {r : Int32 × xDt} (k0 : xK S v0 11) (h : f_X11_happen F P S v0 D = some r) : xSp md_X11_happen (6, 0, 0) [.ref v0] (S, D) (xQi S r) := by
  unfold f_X11_happen at h
  refine xEntry (by decide) (Nat.le_of_ble_eq_true rfl) ?_
  refine x_lv (lv' := [(0, .ref v0)]) [0] rfl ?_
  refine x_aload_n dX11_happen_0 0 rfl ?_
  refine y_getr (kd := 1) hS fl_RX11_26 dX11_happen_1 rfl k0 ?_
  refine x_aload_n dX11_happen_4 0 rfl ?_
  refine y_getr (kd := 10) hS fl_RX11_10 dX11_happen_5 rfl k0 ?_
  refine x_aload_n dX11_happen_8 0 rfl ?_
  refine y_getr (kd := 3) hS fl_RX11_56 dX11_happen_9 rfl k0 ?_
  refine xbnd_e h (fun q1 e1 h => ?_)
  refine y_callVi (As := [.ref (xr S v0 0), .ref (xr S v0 6)]) (q := q1) cv_RX11_192 dX11_happen_12 ((hS.f k0 2 1 rfl).2) rfl (Nat.le_of_ble_eq_true rfl) (by omega) (S_X1_pair hS ((hS.f k0 2 1 rfl).2) ((hS.f k0 0 10 rfl).2) ((hS.f k0 6 3 rfl).2) e1) ?_
  refine y_istore_n q1.1 rfl [(1, .int q1.1), (0, .ref v0)] dX11_happen_15 (by show _ < 3; decide) rfl ?_
  refine x_iload_n dX11_happen_16 0 rfl ?_
  refine x_bipush 64 dX11_happen_17 (by decide) ?_
  refine x_icmp_le 25 dX11_happen_19 (by decide) (fun c => ?_) (fun c => ?_)
  · rw [if_pos c] at h
    refine x_iload_n dX11_happen_25 0 rfl ?_
    refine x_if_le 81 dX11_happen_26 (by decide) (fun c => ?_) (fun c => ?_)
    · rw [if_pos c] at h
      refine x_iload_n dX11_happen_81 0 rfl ?_
      obtain rfl := Option.some.inj h
      exact y_iret rfl dX11_happen_82
    · rw [if_neg c] at h
      refine x_aload_n dX11_happen_29 1 rfl ?_
      refine xbnd_e h (fun q2 e2 h => ?_)
      refine y_callVr (As := []) (q := q2) cv_RX11_171 dX11_happen_30 k0 rfl (Nat.le_of_ble_eq_true rfl) (by omega) (S_X11_keptWorlds hS k0 e2) ?_
      refine xgrd_e h (fun g3 h => ?_)
      refine x_astore_n [(2, .ref q2.1), (1, .int q1.1), (0, .ref v0)] dX11_happen_33 (by show _ < 3; decide) rfl ?_
      refine x_aload_n dX11_happen_34 2 rfl ?_
      refine y_getr (kd := 10) hS fl_RX11_10 dX11_happen_35 rfl k0 ?_
      refine x_aload_n dX11_happen_38 0 rfl ?_
      refine x_aload_n dX11_happen_39 0 rfl ?_
      refine y_getr (kd := 101) hS fl_RX11_175 dX11_happen_40 rfl (xkb_K g3) ?_
      refine x_aload_n dX11_happen_43 2 rfl ?_
      refine y_getr (kd := 1) hS fl_RX11_26 dX11_happen_44 rfl k0 ?_
      refine y_getr (kd := 100) hS fl_RX11_196 dX11_happen_47 rfl ((hS.f k0 2 1 rfl).2) ?_
      refine x_iload_n dX11_happen_50 1 rfl ?_
      refine xbnd_e h (fun q4 e4 h => ?_)
      refine y_callVv (As := [.ref q2.1, .ref (xr S q2.1 2), .ref (xr S (xr S v0 2) 4), .int q1.1]) (q := q4) cv_RX11_178 dX11_happen_51 ((hS.f k0 0 10 rfl).2) rfl (Nat.le_of_ble_eq_true rfl) (by omega) (S_X10_take hS ((hS.f k0 0 10 rfl).2) (xkb_K g3) ((hS.f (xkb_K g3) 2 101 rfl).2) ((hS.f ((hS.f k0 2 1 rfl).2) 4 100 rfl).2) e4) ?_
      refine x_aload_n dX11_happen_54 2 rfl ?_
      refine y_getr (kd := 1) hS fl_RX11_26 dX11_happen_55 rfl k0 ?_
      refine x_aload_n dX11_happen_58 2 rfl ?_
      refine y_getr (kd := 10) hS fl_RX11_10 dX11_happen_59 rfl k0 ?_
      refine xbnd_e h (fun q5 e5 h => ?_)
      refine y_callVv (As := [.ref (xr S v0 0)]) (q := q5) cv_RX11_199 dX11_happen_62 ((hS.f k0 2 1 rfl).2) rfl (Nat.le_of_ble_eq_true rfl) (by omega) (S_X1_narrowCells hS ((hS.f k0 2 1 rfl).2) ((hS.f k0 0 10 rfl).2) e5) ?_
      refine x_aload_n dX11_happen_65 2 rfl ?_
      refine y_getr (kd := 1) hS fl_RX11_26 dX11_happen_66 rfl k0 ?_
      refine x_aload_n dX11_happen_69 2 rfl ?_
      refine y_getr (kd := 10) hS fl_RX11_10 dX11_happen_70 rfl k0 ?_
      refine x_aload_n dX11_happen_73 0 rfl ?_
      refine x_aload_n dX11_happen_74 2 rfl ?_
      refine y_getr (kd := 3) hS fl_RX11_56 dX11_happen_75 rfl k0 ?_
      refine xbnd_e h (fun q6 e6 h => ?_)
      refine y_callVv (As := [.ref (xr S v0 0), .ref q2.1, .ref (xr S v0 6)]) (q := q6) cv_RX11_203 dX11_happen_78 ((hS.f k0 2 1 rfl).2) rfl (Nat.le_of_ble_eq_true rfl) (by omega) (S_X1_changeAtoms hS ((hS.f k0 2 1 rfl).2) ((hS.f k0 0 10 rfl).2) (xkb_K g3) ((hS.f k0 6 3 rfl).2) e6) ?_
      refine x_iload_n dX11_happen_81 1 rfl ?_
      obtain rfl := Option.some.inj h
      exact y_iret rfl dX11_happen_82
  · rw [if_neg c] at h
    refine x_bipush (-3) dX11_happen_22 (by decide) ?_
    obtain rfl := Option.some.inj h
    exact y_iret rfl dX11_happen_24

theorem dX11_back_0 : decode cX11_back 0 = .ok (.aload_n 0, 1) := by decide +kernel
theorem dX11_back_1 : decode cX11_back 1 = .ok (.getfield 19, 3) := by decide +kernel
theorem dX11_back_4 : decode cX11_back 4 = .ok (.getfield 207, 3) := by decide +kernel
theorem dX11_back_7 : decode cX11_back 7 = .ok (.ifCond .ne 5, 3) := by decide +kernel
theorem dX11_back_10 : decode cX11_back 10 = .ok (.iconst (-1), 1) := by decide +kernel
theorem dX11_back_11 : decode cX11_back 11 = .ok (.ireturn, 1) := by decide +kernel
theorem dX11_back_12 : decode cX11_back 12 = .ok (.aload_n 0, 1) := by decide +kernel
theorem dX11_back_13 : decode cX11_back 13 = .ok (.getfield 19, 3) := by decide +kernel
theorem dX11_back_16 : decode cX11_back 16 = .ok (.aload_n 0, 1) := by decide +kernel
theorem dX11_back_17 : decode cX11_back 17 = .ok (.getfield 10, 3) := by decide +kernel
theorem dX11_back_20 : decode cX11_back 20 = .ok (.invokevirtual 208, 3) := by decide +kernel
theorem dX11_back_23 : decode cX11_back 23 = .ok (.aload_n 0, 1) := by decide +kernel
theorem dX11_back_24 : decode cX11_back 24 = .ok (.iconst 0, 1) := by decide +kernel
theorem dX11_back_25 : decode cX11_back 25 = .ok (.putfield 211, 3) := by decide +kernel
theorem dX11_back_28 : decode cX11_back 28 = .ok (.aload_n 0, 1) := by decide +kernel
theorem dX11_back_29 : decode cX11_back 29 = .ok (.getfield 10, 3) := by decide +kernel
theorem dX11_back_32 : decode cX11_back 32 = .ok (.getfield 92, 3) := by decide +kernel
theorem dX11_back_35 : decode cX11_back 35 = .ok (.ireturn, 1) := by decide +kernel
def f_X11_back (F P : Nat) (S : xSt) (v0 : Nat) (D : xDt) : Option (Int32 × xDt) :=
  if (D.1 (xr S v0 1) 2) = 0 then (some ((-1), D)) else ((f_X5_restore F P S (xr S v0 1) (xr S v0 0) D).bind fun q1 => xlet (xup q1.1 v0 13 0, q1.2) fun D2 => some (D2.1 (xr S v0 0) 0, D2))
set_option maxHeartbeats 4000000 in
theorem S_X11_back {F P : Nat} {S : xSt} (hS : xWF S) {v0 : Nat} {D : xDt} {r : Int32 × xDt} (k0 : xK S v0 11) (h : f_X11_back F P S v0 D = some r) : xSp md_X11_back (3, 0, 0) [.ref v0] (S, D) (xQi S r) := by
  unfold f_X11_back at h
  refine xEntry (by decide) (Nat.le_of_ble_eq_true rfl) ?_
  refine x_lv (lv' := [(0, .ref v0)]) [0] rfl ?_
  refine x_aload_n dX11_back_0 0 rfl ?_
  refine y_getr (kd := 5) hS fl_RX11_19 dX11_back_1 rfl k0 ?_
  refine y_geti fl_RX11_207 dX11_back_4 rfl ((hS.f k0 1 5 rfl).2) ?_
  refine x_if_ne 12 dX11_back_7 (by decide) (fun c => ?_) (fun c => ?_)
  · rw [if_neg c] at h
    refine x_aload_n dX11_back_12 0 rfl ?_
    refine y_getr (kd := 5) hS fl_RX11_19 dX11_back_13 rfl k0 ?_
    refine x_aload_n dX11_back_16 0 rfl ?_
    refine y_getr (kd := 10) hS fl_RX11_10 dX11_back_17 rfl k0 ?_
    refine xbnd_e h (fun q1 e1 h => ?_)
    refine y_callVv (As := [.ref (xr S v0 0)]) (q := q1) cv_RX11_208 dX11_back_20 ((hS.f k0 1 5 rfl).2) rfl (Nat.le_of_ble_eq_true rfl) (by omega) (S_X5_restore hS ((hS.f k0 1 5 rfl).2) ((hS.f k0 0 10 rfl).2) e1) ?_
    refine x_aload_n dX11_back_23 0 rfl ?_
    refine x_iconst 0 dX11_back_24 (by decide) ?_
    refine xlet_e h (fun D2 eD2 h => ?_)
    refine y_putz rfl fp_RX11_211 dX11_back_25 rfl k0 eD2 ?_
    refine x_aload_n dX11_back_28 0 rfl ?_
    refine y_getr (kd := 10) hS fl_RX11_10 dX11_back_29 rfl k0 ?_
    refine y_geti fl_RX11_92 dX11_back_32 rfl ((hS.f k0 0 10 rfl).2) ?_
    obtain rfl := Option.some.inj h
    exact y_iret rfl dX11_back_35
  · rw [if_pos c] at h
    refine x_iconst (-1) dX11_back_10 (by decide) ?_
    obtain rfl := Option.some.inj h
    exact y_iret rfl dX11_back_11

theorem dX11_contract_0 : decode cX11_contract 0 = .ok (.aload_n 0, 1) := by decide +kernel
theorem dX11_contract_1 : decode cX11_contract 1 = .ok (.getfield 63, 3) := by decide +kernel
theorem dX11_contract_4 : decode cX11_contract 4 = .ok (.aload_n 0, 1) := by decide +kernel
theorem dX11_contract_5 : decode cX11_contract 5 = .ok (.getfield 10, 3) := by decide +kernel
theorem dX11_contract_8 : decode cX11_contract 8 = .ok (.invokevirtual 215, 3) := by decide +kernel
theorem dX11_contract_11 : decode cX11_contract 11 = .ok (.aload_n 0, 1) := by decide +kernel
theorem dX11_contract_12 : decode cX11_contract 12 = .ok (.aload_n 0, 1) := by decide +kernel
theorem dX11_contract_13 : decode cX11_contract 13 = .ok (.getfield 63, 3) := by decide +kernel
theorem dX11_contract_16 : decode cX11_contract 16 = .ok (.aload_n 0, 1) := by decide +kernel
theorem dX11_contract_17 : decode cX11_contract 17 = .ok (.getfield 10, 3) := by decide +kernel
theorem dX11_contract_20 : decode cX11_contract 20 = .ok (.invokevirtual 218, 3) := by decide +kernel
theorem dX11_contract_23 : decode cX11_contract 23 = .ok (.invokevirtual 168, 3) := by decide +kernel
theorem dX11_contract_26 : decode cX11_contract 26 = .ok (.istore_n 1, 1) := by decide +kernel
theorem dX11_contract_27 : decode cX11_contract 27 = .ok (.iload_n 1, 1) := by decide +kernel
theorem dX11_contract_28 : decode cX11_contract 28 = .ok (.aload_n 0, 1) := by decide +kernel
theorem dX11_contract_29 : decode cX11_contract 29 = .ok (.getfield 10, 3) := by decide +kernel
theorem dX11_contract_32 : decode cX11_contract 32 = .ok (.getfield 92, 3) := by decide +kernel
theorem dX11_contract_35 : decode cX11_contract 35 = .ok (.if_icmp .ge 28, 3) := by decide +kernel
theorem dX11_contract_38 : decode cX11_contract 38 = .ok (.aload_n 0, 1) := by decide +kernel
theorem dX11_contract_39 : decode cX11_contract 39 = .ok (.invokevirtual 171, 3) := by decide +kernel
theorem dX11_contract_42 : decode cX11_contract 42 = .ok (.astore_n 2, 1) := by decide +kernel
theorem dX11_contract_43 : decode cX11_contract 43 = .ok (.aload_n 0, 1) := by decide +kernel
theorem dX11_contract_44 : decode cX11_contract 44 = .ok (.getfield 10, 3) := by decide +kernel
theorem dX11_contract_47 : decode cX11_contract 47 = .ok (.aload_n 2, 1) := by decide +kernel
theorem dX11_contract_48 : decode cX11_contract 48 = .ok (.aload_n 0, 1) := by decide +kernel
theorem dX11_contract_49 : decode cX11_contract 49 = .ok (.getfield 63, 3) := by decide +kernel
theorem dX11_contract_52 : decode cX11_contract 52 = .ok (.getfield 222, 3) := by decide +kernel
theorem dX11_contract_55 : decode cX11_contract 55 = .ok (.aload_n 0, 1) := by decide +kernel
theorem dX11_contract_56 : decode cX11_contract 56 = .ok (.getfield 81, 3) := by decide +kernel
theorem dX11_contract_59 : decode cX11_contract 59 = .ok (.iload_n 1, 1) := by decide +kernel
theorem dX11_contract_60 : decode cX11_contract 60 = .ok (.invokevirtual 178, 3) := by decide +kernel
theorem dX11_contract_63 : decode cX11_contract 63 = .ok (.iload_n 1, 1) := by decide +kernel
theorem dX11_contract_64 : decode cX11_contract 64 = .ok (.ireturn, 1) := by decide +kernel
def f_X11_contract (F P : Nat) (S : xSt) (v0 : Nat) (D : xDt) : Option (Int32 × xDt) :=
  (f_X4_settle F P S (xr S v0 7) (xr S v0 0) D).bind fun q1 => (f_X4_firsts F P S (xr S v0 7) (xr S v0 0) q1).bind fun q2 => (f_X11_choose F P S v0 q2.1 q2.2).bind fun q3 => if (q3.2.1 (xr S v0 0) 0) ≤ q3.1 then (some (q3.1, q3.2)) else ((f_X11_keptWorlds F P S v0 q3.2).bind fun q4 => xgrd (xkb S q4.1 10) ((f_X10_take F P S (xr S v0 0) q4.1 (xr S (xr S v0 7) 1) (xr S v0 10) q3.1 q4.2).bind fun q6 => some (q3.1, q6)))
set_option maxHeartbeats 4000000 in
theorem S_X11_contract {F P : Nat} {S : xSt} (hS : xWF S) {v0 : Nat} {D : xDt} {r : Int32 × xDt} (k0 : xK S v0 11) (h : f_X11_contract F P S v0 D = some r) : xSp md_X11_contract (5, 0, 0) [.ref v0] (S, D) (xQi S r) := by
  unfold f_X11_contract at h
  refine xEntry (by decide) (Nat.le_of_ble_eq_true rfl) ?_
  refine x_lv (lv' := [(0, .ref v0)]) [0] rfl ?_
  refine x_aload_n dX11_contract_0 0 rfl ?_
  refine y_getr (kd := 4) hS fl_RX11_63 dX11_contract_1 rfl k0 ?_
  refine x_aload_n dX11_contract_4 0 rfl ?_
  refine y_getr (kd := 10) hS fl_RX11_10 dX11_contract_5 rfl k0 ?_
  refine xbnd_e h (fun q1 e1 h => ?_)
  refine y_callVv (As := [.ref (xr S v0 0)]) (q := q1) cv_RX11_215 dX11_contract_8 ((hS.f k0 7 4 rfl).2) rfl (Nat.le_of_ble_eq_true rfl) (by omega) (S_X4_settle hS ((hS.f k0 7 4 rfl).2) ((hS.f k0 0 10 rfl).2) e1) ?_
  refine x_aload_n dX11_contract_11 0 rfl ?_
  refine x_aload_n dX11_contract_12 0 rfl ?_
  refine y_getr (kd := 4) hS fl_RX11_63 dX11_contract_13 rfl k0 ?_
  refine x_aload_n dX11_contract_16 0 rfl ?_
  refine y_getr (kd := 10) hS fl_RX11_10 dX11_contract_17 rfl k0 ?_
  refine xbnd_e h (fun q2 e2 h => ?_)
  refine y_callVl (As := [.ref (xr S v0 0)]) (q := q2) cv_RX11_218 dX11_contract_20 ((hS.f k0 7 4 rfl).2) rfl (Nat.le_of_ble_eq_true rfl) (by omega) (S_X4_firsts hS ((hS.f k0 7 4 rfl).2) ((hS.f k0 0 10 rfl).2) e2) ?_
  refine xbnd_e h (fun q3 e3 h => ?_)
  refine y_callVi (As := [.long q2.1]) (q := q3) cv_RX11_168 dX11_contract_23 k0 rfl (Nat.le_of_ble_eq_true rfl) (by omega) (S_X11_choose hS k0 e3) ?_
  refine y_istore_n q3.1 rfl [(1, .int q3.1), (0, .ref v0)] dX11_contract_26 (by show _ < 3; decide) rfl ?_
  refine x_iload_n dX11_contract_27 0 rfl ?_
  refine x_aload_n dX11_contract_28 1 rfl ?_
  refine y_getr (kd := 10) hS fl_RX11_10 dX11_contract_29 rfl k0 ?_
  refine y_geti fl_RX11_92 dX11_contract_32 rfl ((hS.f k0 0 10 rfl).2) ?_
  refine x_icmp_ge 63 dX11_contract_35 (by decide) (fun c => ?_) (fun c => ?_)
  · rw [if_pos c] at h
    refine x_iload_n dX11_contract_63 0 rfl ?_
    obtain rfl := Option.some.inj h
    exact y_iret rfl dX11_contract_64
  · rw [if_neg c] at h
    refine x_aload_n dX11_contract_38 1 rfl ?_
    refine xbnd_e h (fun q4 e4 h => ?_)
    refine y_callVr (As := []) (q := q4) cv_RX11_171 dX11_contract_39 k0 rfl (Nat.le_of_ble_eq_true rfl) (by omega) (S_X11_keptWorlds hS k0 e4) ?_
    refine xgrd_e h (fun g5 h => ?_)
    refine x_astore_n [(2, .ref q4.1), (1, .int q3.1), (0, .ref v0)] dX11_contract_42 (by show _ < 3; decide) rfl ?_
    refine x_aload_n dX11_contract_43 2 rfl ?_
    refine y_getr (kd := 10) hS fl_RX11_10 dX11_contract_44 rfl k0 ?_
    refine x_aload_n dX11_contract_47 0 rfl ?_
    refine x_aload_n dX11_contract_48 2 rfl ?_
    refine y_getr (kd := 4) hS fl_RX11_63 dX11_contract_49 rfl k0 ?_
    refine y_getr (kd := 101) hS fl_RX11_222 dX11_contract_52 rfl ((hS.f k0 7 4 rfl).2) ?_
    refine x_aload_n dX11_contract_55 2 rfl ?_
    refine y_getr (kd := 100) hS fl_RX11_81 dX11_contract_56 rfl k0 ?_
    refine x_iload_n dX11_contract_59 1 rfl ?_
    refine xbnd_e h (fun q6 e6 h => ?_)
    refine y_callVv (As := [.ref q4.1, .ref (xr S (xr S v0 7) 1), .ref (xr S v0 10), .int q3.1]) (q := q6) cv_RX11_178 dX11_contract_60 ((hS.f k0 0 10 rfl).2) rfl (Nat.le_of_ble_eq_true rfl) (by omega) (S_X10_take hS ((hS.f k0 0 10 rfl).2) (xkb_K g5) ((hS.f ((hS.f k0 7 4 rfl).2) 1 101 rfl).2) ((hS.f k0 10 100 rfl).2) e6) ?_
    refine x_iload_n dX11_contract_63 1 rfl ?_
    obtain rfl := Option.some.inj h
    exact y_iret rfl dX11_contract_64

theorem dX11_differ_0 : decode cX11_differ 0 = .ok (.aload_n 0, 1) := by decide +kernel
theorem dX11_differ_1 : decode cX11_differ 1 = .ok (.getfield 10, 3) := by decide +kernel
theorem dX11_differ_4 : decode cX11_differ 4 = .ok (.iload_n 1, 1) := by decide +kernel
theorem dX11_differ_5 : decode cX11_differ 5 = .ok (.invokevirtual 105, 3) := by decide +kernel
theorem dX11_differ_8 : decode cX11_differ 8 = .ok (.ifCond .eq 14, 3) := by decide +kernel
theorem dX11_differ_11 : decode cX11_differ 11 = .ok (.aload_n 0, 1) := by decide +kernel
theorem dX11_differ_12 : decode cX11_differ 12 = .ok (.getfield 10, 3) := by decide +kernel
theorem dX11_differ_15 : decode cX11_differ 15 = .ok (.iload_n 2, 1) := by decide +kernel
theorem dX11_differ_16 : decode cX11_differ 16 = .ok (.invokevirtual 105, 3) := by decide +kernel
theorem dX11_differ_19 : decode cX11_differ 19 = .ok (.ifCond .ne 5, 3) := by decide +kernel
theorem dX11_differ_22 : decode cX11_differ 22 = .ok (.iconst (-1), 1) := by decide +kernel
theorem dX11_differ_23 : decode cX11_differ 23 = .ok (.ireturn, 1) := by decide +kernel
theorem dX11_differ_24 : decode cX11_differ 24 = .ok (.aload_n 0, 1) := by decide +kernel
theorem dX11_differ_25 : decode cX11_differ 25 = .ok (.getfield 63, 3) := by decide +kernel
theorem dX11_differ_28 : decode cX11_differ 28 = .ok (.aload_n 0, 1) := by decide +kernel
theorem dX11_differ_29 : decode cX11_differ 29 = .ok (.getfield 10, 3) := by decide +kernel
theorem dX11_differ_32 : decode cX11_differ 32 = .ok (.iload_n 1, 1) := by decide +kernel
theorem dX11_differ_33 : decode cX11_differ 33 = .ok (.iload_n 2, 1) := by decide +kernel
theorem dX11_differ_34 : decode cX11_differ 34 = .ok (.invokevirtual 225, 3) := by decide +kernel
theorem dX11_differ_37 : decode cX11_differ 37 = .ok (.ireturn, 1) := by decide +kernel
def f_X11_differ (F P : Nat) (S : xSt) (v0 : Nat) (v1 : Int32) (v2 : Int32) (D : xDt) : Option (Int32 × xDt) :=
  (f_X10_has F P S (xr S v0 0) v1 D).bind fun q1 => if q1.1 = 0 then (some ((-1), q1.2)) else ((f_X10_has F P S (xr S v0 0) v2 q1.2).bind fun q2 => if q2.1 = 0 then (some ((-1), q2.2)) else ((f_X4_difference F P S (xr S v0 7) (xr S v0 0) v1 v2 q2.2).bind fun q3 => some (q3.1, q3.2)))
set_option maxHeartbeats 4000000 in
theorem S_X11_differ {F P : Nat} {S : xSt} (hS : xWF S) {v0 : Nat} {v1 : Int32} {v2 : Int32} {D : xDt} {r : Int32 × xDt} (k0 : xK S v0 11) (h : f_X11_differ F P S v0 v1 v2 D = some r) : xSp md_X11_differ (5, 0, 0) [.ref v0, .int v1, .int v2] (S, D) (xQi S r) := by
  unfold f_X11_differ at h
  refine xEntry (by decide) (Nat.le_of_ble_eq_true rfl) ?_
  refine x_lv (lv' := [(0, .ref v0), (1, .int v1), (2, .int v2)]) [0, 1, 2] rfl ?_
  refine x_aload_n dX11_differ_0 0 rfl ?_
  refine y_getr (kd := 10) hS fl_RX11_10 dX11_differ_1 rfl k0 ?_
  refine x_iload_n dX11_differ_4 1 rfl ?_
  refine xbnd_e h (fun q1 e1 h => ?_)
  refine y_callVi (As := [.int v1]) (q := q1) cv_RX11_105 dX11_differ_5 ((hS.f k0 0 10 rfl).2) rfl (Nat.le_of_ble_eq_true rfl) (by omega) (S_X10_has hS ((hS.f k0 0 10 rfl).2) e1) ?_
  refine x_if_eq 22 dX11_differ_8 (by decide) (fun c => ?_) (fun c => ?_)
  · rw [if_pos c] at h
    refine x_iconst (-1) dX11_differ_22 (by decide) ?_
    obtain rfl := Option.some.inj h
    exact y_iret rfl dX11_differ_23
  · rw [if_neg c] at h
    refine x_aload_n dX11_differ_11 0 rfl ?_
    refine y_getr (kd := 10) hS fl_RX11_10 dX11_differ_12 rfl k0 ?_
    refine x_iload_n dX11_differ_15 2 rfl ?_
    refine xbnd_e h (fun q2 e2 h => ?_)
    refine y_callVi (As := [.int v2]) (q := q2) cv_RX11_105 dX11_differ_16 ((hS.f k0 0 10 rfl).2) rfl (Nat.le_of_ble_eq_true rfl) (by omega) (S_X10_has hS ((hS.f k0 0 10 rfl).2) e2) ?_
    refine x_if_ne 24 dX11_differ_19 (by decide) (fun c => ?_) (fun c => ?_)
    · rw [if_neg c] at h
      refine x_aload_n dX11_differ_24 0 rfl ?_
      refine y_getr (kd := 4) hS fl_RX11_63 dX11_differ_25 rfl k0 ?_
      refine x_aload_n dX11_differ_28 0 rfl ?_
      refine y_getr (kd := 10) hS fl_RX11_10 dX11_differ_29 rfl k0 ?_
      refine x_iload_n dX11_differ_32 1 rfl ?_
      refine x_iload_n dX11_differ_33 2 rfl ?_
      refine xbnd_e h (fun q3 e3 h => ?_)
      refine y_callVi (As := [.ref (xr S v0 0), .int v1, .int v2]) (q := q3) cv_RX11_225 dX11_differ_34 ((hS.f k0 7 4 rfl).2) rfl (Nat.le_of_ble_eq_true rfl) (by omega) (S_X4_difference hS ((hS.f k0 7 4 rfl).2) ((hS.f k0 0 10 rfl).2) e3) ?_
      obtain rfl := Option.some.inj h
      exact y_iret rfl dX11_differ_37
    · rw [if_pos c] at h
      refine x_iconst (-1) dX11_differ_22 (by decide) ?_
      obtain rfl := Option.some.inj h
      exact y_iret rfl dX11_differ_23

theorem dX11_reduce_0 : decode cX11_reduce 0 = .ok (.aload_n 0, 1) := by decide +kernel
theorem dX11_reduce_1 : decode cX11_reduce 1 = .ok (.getfield 70, 3) := by decide +kernel
theorem dX11_reduce_4 : decode cX11_reduce 4 = .ok (.aload_n 0, 1) := by decide +kernel
theorem dX11_reduce_5 : decode cX11_reduce 5 = .ok (.getfield 42, 3) := by decide +kernel
theorem dX11_reduce_8 : decode cX11_reduce 8 = .ok (.invokevirtual 229, 3) := by decide +kernel
theorem dX11_reduce_11 : decode cX11_reduce 11 = .ok (.istore_n 1, 1) := by decide +kernel
theorem dX11_reduce_12 : decode cX11_reduce 12 = .ok (.iload_n 1, 1) := by decide +kernel
theorem dX11_reduce_13 : decode cX11_reduce 13 = .ok (.ifCond .le 7, 3) := by decide +kernel
theorem dX11_reduce_16 : decode cX11_reduce 16 = .ok (.aload_n 0, 1) := by decide +kernel
theorem dX11_reduce_17 : decode cX11_reduce 17 = .ok (.invokevirtual 148, 3) := by decide +kernel
theorem dX11_reduce_20 : decode cX11_reduce 20 = .ok (.iload_n 1, 1) := by decide +kernel
theorem dX11_reduce_21 : decode cX11_reduce 21 = .ok (.ireturn, 1) := by decide +kernel
def f_X11_reduce (F P : Nat) (S : xSt) (v0 : Nat) (D : xDt) : Option (Int32 × xDt) :=
  (f_X7_apply F P S (xr S v0 8) (xr S v0 4) D).bind fun q1 => if q1.1 ≤ 0 then (some (q1.1, q1.2)) else ((f_X11_handChanged F P S v0 q1.2).bind fun q2 => some (q1.1, q2))
set_option maxHeartbeats 4000000 in
theorem S_X11_reduce {F P : Nat} {S : xSt} (hS : xWF S) {v0 : Nat} {D : xDt} {r : Int32 × xDt} (k0 : xK S v0 11) (h : f_X11_reduce F P S v0 D = some r) : xSp md_X11_reduce (6, 0, 0) [.ref v0] (S, D) (xQi S r) := by
  unfold f_X11_reduce at h
  refine xEntry (by decide) (Nat.le_of_ble_eq_true rfl) ?_
  refine x_lv (lv' := [(0, .ref v0)]) [0] rfl ?_
  refine x_aload_n dX11_reduce_0 0 rfl ?_
  refine y_getr (kd := 7) hS fl_RX11_70 dX11_reduce_1 rfl k0 ?_
  refine x_aload_n dX11_reduce_4 0 rfl ?_
  refine y_getr (kd := 2) hS fl_RX11_42 dX11_reduce_5 rfl k0 ?_
  refine xbnd_e h (fun q1 e1 h => ?_)
  refine y_callVi (As := [.ref (xr S v0 4)]) (q := q1) cv_RX11_229 dX11_reduce_8 ((hS.f k0 8 7 rfl).2) rfl (Nat.le_of_ble_eq_true rfl) (by omega) (S_X7_apply hS ((hS.f k0 8 7 rfl).2) ((hS.f k0 4 2 rfl).2) e1) ?_
  refine y_istore_n q1.1 rfl [(1, .int q1.1), (0, .ref v0)] dX11_reduce_11 (by show _ < 2; decide) rfl ?_
  refine x_iload_n dX11_reduce_12 0 rfl ?_
  refine x_if_le 20 dX11_reduce_13 (by decide) (fun c => ?_) (fun c => ?_)
  · rw [if_pos c] at h
    refine x_iload_n dX11_reduce_20 0 rfl ?_
    obtain rfl := Option.some.inj h
    exact y_iret rfl dX11_reduce_21
  · rw [if_neg c] at h
    refine x_aload_n dX11_reduce_16 1 rfl ?_
    refine xbnd_e h (fun q2 e2 h => ?_)
    refine y_callVv (As := []) (q := q2) cv_RX11_148 dX11_reduce_17 k0 rfl (Nat.le_of_ble_eq_true rfl) (by omega) (S_X11_handChanged hS k0 e2) ?_
    refine x_iload_n dX11_reduce_20 0 rfl ?_
    obtain rfl := Option.some.inj h
    exact y_iret rfl dX11_reduce_21

