/-! printed by wip/whole/gen.py: the methods as plain functions, each proved to be what its bytecode does -/
theorem dX4_seeSame_0 : decode cX4_seeSame 0 = .ok (.iconst 0, 1) := by decide +kernel
theorem dX4_seeSame_1 : decode cX4_seeSame 1 = .ok (.istore_n 3, 1) := by decide +kernel
theorem dX4_seeSame_2 : decode cX4_seeSame 2 = .ok (.iload_n 3, 1) := by decide +kernel
theorem dX4_seeSame_3 : decode cX4_seeSame 3 = .ok (.iconst 4, 1) := by decide +kernel
theorem dX4_seeSame_4 : decode cX4_seeSame 4 = .ok (.if_icmp .ge 37, 3) := by decide +kernel
theorem dX4_seeSame_7 : decode cX4_seeSame 7 = .ok (.aload_n 0, 1) := by decide +kernel
theorem dX4_seeSame_8 : decode cX4_seeSame 8 = .ok (.getfield 15, 3) := by decide +kernel
theorem dX4_seeSame_11 : decode cX4_seeSame 11 = .ok (.iload_n 3, 1) := by decide +kernel
theorem dX4_seeSame_12 : decode cX4_seeSame 12 = .ok (.bipush 64, 2) := by decide +kernel
theorem dX4_seeSame_14 : decode cX4_seeSame 14 = .ok (.imul, 1) := by decide +kernel
theorem dX4_seeSame_15 : decode cX4_seeSame 15 = .ok (.iload_n 1, 1) := by decide +kernel
theorem dX4_seeSame_16 : decode cX4_seeSame 16 = .ok (.iadd, 1) := by decide +kernel
theorem dX4_seeSame_17 : decode cX4_seeSame 17 = .ok (.laload, 1) := by decide +kernel
theorem dX4_seeSame_18 : decode cX4_seeSame 18 = .ok (.aload_n 0, 1) := by decide +kernel
theorem dX4_seeSame_19 : decode cX4_seeSame 19 = .ok (.getfield 15, 3) := by decide +kernel
theorem dX4_seeSame_22 : decode cX4_seeSame 22 = .ok (.iload_n 3, 1) := by decide +kernel
theorem dX4_seeSame_23 : decode cX4_seeSame 23 = .ok (.bipush 64, 2) := by decide +kernel
theorem dX4_seeSame_25 : decode cX4_seeSame 25 = .ok (.imul, 1) := by decide +kernel
theorem dX4_seeSame_26 : decode cX4_seeSame 26 = .ok (.iload_n 2, 1) := by decide +kernel
theorem dX4_seeSame_27 : decode cX4_seeSame 27 = .ok (.iadd, 1) := by decide +kernel
theorem dX4_seeSame_28 : decode cX4_seeSame 28 = .ok (.laload, 1) := by decide +kernel
theorem dX4_seeSame_29 : decode cX4_seeSame 29 = .ok (.lcmp, 1) := by decide +kernel
theorem dX4_seeSame_30 : decode cX4_seeSame 30 = .ok (.ifCond .eq 5, 3) := by decide +kernel
theorem dX4_seeSame_33 : decode cX4_seeSame 33 = .ok (.iconst 0, 1) := by decide +kernel
theorem dX4_seeSame_34 : decode cX4_seeSame 34 = .ok (.ireturn, 1) := by decide +kernel
theorem dX4_seeSame_35 : decode cX4_seeSame 35 = .ok (.iinc 3 1, 3) := by decide +kernel
theorem dX4_seeSame_38 : decode cX4_seeSame 38 = .ok (.goto (-36), 3) := by decide +kernel
theorem dX4_seeSame_41 : decode cX4_seeSame 41 = .ok (.iconst 1, 1) := by decide +kernel
theorem dX4_seeSame_42 : decode cX4_seeSame 42 = .ok (.ireturn, 1) := by decide +kernel
def f_X4_seeSame_2s (F P : Nat) (S : xSt) (rec_2 : Nat → Int32 → Int32 → Int32 → xDt → Option (Int32 × xDt)) (v0 : Nat) (v1 : Int32) (v2 : Int32) (v3 : Int32) (D : xDt) : Option (Int32 × xDt) :=
  if 4 ≤ v3 then (some (1, D)) else (xgrd (xin ((v3 * 64) + v1) (xl S (xr S v0 1))) (xgrd (xin ((v3 * 64) + v2) (xl S (xr S v0 1))) (if (lg_cmp (D.2 (xr S v0 1) ((v3 * 64) + v1).toNatClampNeg) (D.2 (xr S v0 1) ((v3 * 64) + v2).toNatClampNeg)) = 0 then (xlet (v3 + 1) fun v3_3 => rec_2 v0 v1 v2 v3_3 D) else (some (0, D)))))
def f_X4_seeSame_2 (F P : Nat) (S : xSt) : Nat → Nat → Int32 → Int32 → Int32 → xDt → Option (Int32 × xDt)
  | 0 => fun _ _ _ _ _ => none
  | n + 1 => f_X4_seeSame_2s F P S (f_X4_seeSame_2 F P S n)
set_option maxHeartbeats 4000000 in
theorem t_X4_seeSame_2s {F P : Nat} {S : xSt} (hS : xWF S) {rec_2 : Nat → Int32 → Int32 → Int32 → xDt → Option (Int32 × xDt)} (hrec_2 : ∀ {v0 : Nat} {v1 : Int32} {v2 : Int32} {v3 : Int32} {D : xDt} {r : Int32 × xDt}, xK S v0 4 → rec_2 v0 v1 v2 v3 D = some r → yEx md_X4_seeSame 0 2 [(0, .ref v0), (1, .int v1), (2, .int v2), (3, .int v3)] [] S D (xQi S r)) {v0 : Nat} {v1 : Int32} {v2 : Int32} {v3 : Int32} {D : xDt} {r : Int32 × xDt} (k0 : xK S v0 4) (h : f_X4_seeSame_2s F P S rec_2 v0 v1 v2 v3 D = some r) : yEx md_X4_seeSame 0 2 [(0, .ref v0), (1, .int v1), (2, .int v2), (3, .int v3)] [] S D (xQi S r) := by
  unfold f_X4_seeSame_2s at h
  refine x_iload_n dX4_seeSame_2 3 rfl ?_
  refine x_iconst 4 dX4_seeSame_3 (by decide) ?_
  refine x_icmp_ge 41 dX4_seeSame_4 (by decide) (fun c => ?_) (fun c => ?_)
  · rw [if_pos c] at h
    refine x_iconst 1 dX4_seeSame_41 (by decide) ?_
    obtain rfl := Option.some.inj h
    exact y_zret rfl rfl dX4_seeSame_42
  · rw [if_neg c] at h
    refine x_aload_n dX4_seeSame_7 0 rfl ?_
    refine y_getr (kd := 101) hS fl_RX4_15 dX4_seeSame_8 rfl k0 ?_
    refine x_iload_n dX4_seeSame_11 3 rfl ?_
    refine x_bipush 64 dX4_seeSame_12 (by decide) ?_
    refine x_imul dX4_seeSame_14 ?_
    refine x_iload_n dX4_seeSame_15 1 rfl ?_
    refine x_iadd dX4_seeSame_16 ?_
    refine xgrd_e h (fun g1 h => ?_)
    refine y_lald dX4_seeSame_17 ((hS.f k0 1 101 rfl).2) g1 ?_
    refine x_aload_n dX4_seeSame_18 0 rfl ?_
    refine y_getr (kd := 101) hS fl_RX4_15 dX4_seeSame_19 rfl k0 ?_
    refine x_iload_n dX4_seeSame_22 3 rfl ?_
    refine x_bipush 64 dX4_seeSame_23 (by decide) ?_
    refine x_imul dX4_seeSame_25 ?_
    refine x_iload_n dX4_seeSame_26 2 rfl ?_
    refine x_iadd dX4_seeSame_27 ?_
    refine xgrd_e h (fun g2 h => ?_)
    refine y_lald dX4_seeSame_28 ((hS.f k0 1 101 rfl).2) g2 ?_
    refine x_lcmp dX4_seeSame_29 ?_
    refine x_if_eq 35 dX4_seeSame_30 (by decide) (fun c => ?_) (fun c => ?_)
    · rw [if_pos c] at h
      refine xlet_e h (fun v3_3 ev3_3 h => ?_)
      refine y_iinc v3_3 ev3_3 (by decide) [(3, .int v3_3), (0, .ref v0), (1, .int v1), (2, .int v2)] dX4_seeSame_35 3 rfl (by show _ < 4; decide) rfl ?_
      refine x_goto 2 dX4_seeSame_38 (by decide) ?_
      refine x_lv (lv' := [(0, .ref v0), (1, .int v1), (2, .int v2), (3, .int v3_3)]) [1, 2, 3, 0] rfl ?_
      exact hrec_2 k0 h
    · rw [if_neg c] at h
      refine x_iconst 0 dX4_seeSame_33 (by decide) ?_
      obtain rfl := Option.some.inj h
      exact y_zret rfl rfl dX4_seeSame_34
theorem t_X4_seeSame_2 {F P : Nat} {S : xSt} (hS : xWF S) : ∀ (n : Nat) {v0 : Nat} {v1 : Int32} {v2 : Int32} {v3 : Int32} {D : xDt} {r : Int32 × xDt}, xK S v0 4 → f_X4_seeSame_2 F P S n v0 v1 v2 v3 D = some r → yEx md_X4_seeSame 0 2 [(0, .ref v0), (1, .int v1), (2, .int v2), (3, .int v3)] [] S D (xQi S r) := by
  intro n
  induction n with
  | zero => intros; rename_i h; cases h
  | succ n ih =>
    intro v0 v1 v2 v3 D r k0 h
    exact t_X4_seeSame_2s hS (fun k0 h => ih k0 h) k0 h

def f_X4_seeSame (F P : Nat) (S : xSt) (v0 : Nat) (v1 : Int32) (v2 : Int32) (D : xDt) : Option (Int32 × xDt) :=
  f_X4_seeSame_2 F P S F v0 v1 v2 0 D
set_option maxHeartbeats 4000000 in
theorem S_X4_seeSame {F P : Nat} {S : xSt} (hS : xWF S) {v0 : Nat} {v1 : Int32} {v2 : Int32} {D : xDt} {r : Int32 × xDt} (k0 : xK S v0 4) (h : f_X4_seeSame F P S v0 v1 v2 D = some r) : xSp md_X4_seeSame (0, 0, 0) [.ref v0, .int v1, .int v2] (S, D) (xQi S r) := by
  unfold f_X4_seeSame at h
  refine xEntry (by decide) (Nat.le_of_ble_eq_true rfl) ?_
  refine x_lv (lv' := [(0, .ref v0), (1, .int v1), (2, .int v2)]) [0, 1, 2] rfl ?_
  refine x_iconst 0 dX4_seeSame_0 (by decide) ?_
  refine y_istore_n 0 rfl [(3, .int 0), (0, .ref v0), (1, .int v1), (2, .int v2)] dX4_seeSame_1 (by show _ < 4; decide) rfl ?_
  refine x_lv (lv' := [(0, .ref v0), (1, .int v1), (2, .int v2), (3, .int 0)]) [1, 2, 3, 0] rfl ?_
  exact t_X4_seeSame_2 hS F k0 h

theorem dX4_refine_0 : decode cX4_refine 0 = .ok (.aload_n 0, 1) := by decide +kernel
theorem dX4_refine_1 : decode cX4_refine 1 = .ok (.aload_n 1, 1) := by decide +kernel
theorem dX4_refine_2 : decode cX4_refine 2 = .ok (.invokevirtual 43, 3) := by decide +kernel
theorem dX4_refine_5 : decode cX4_refine 5 = .ok (.iconst 0, 1) := by decide +kernel
theorem dX4_refine_6 : decode cX4_refine 6 = .ok (.istore_n 2, 1) := by decide +kernel
theorem dX4_refine_7 : decode cX4_refine 7 = .ok (.iconst 0, 1) := by decide +kernel
theorem dX4_refine_8 : decode cX4_refine 8 = .ok (.istore_n 3, 1) := by decide +kernel
theorem dX4_refine_9 : decode cX4_refine 9 = .ok (.iload_n 3, 1) := by decide +kernel
theorem dX4_refine_10 : decode cX4_refine 10 = .ok (.aload_n 1, 1) := by decide +kernel
theorem dX4_refine_11 : decode cX4_refine 11 = .ok (.getfield 33, 3) := by decide +kernel
theorem dX4_refine_14 : decode cX4_refine 14 = .ok (.if_icmp .ge 98, 3) := by decide +kernel
theorem dX4_refine_17 : decode cX4_refine 17 = .ok (.aload_n 0, 1) := by decide +kernel
theorem dX4_refine_18 : decode cX4_refine 18 = .ok (.getfield 19, 3) := by decide +kernel
theorem dX4_refine_21 : decode cX4_refine 21 = .ok (.iload_n 3, 1) := by decide +kernel
theorem dX4_refine_22 : decode cX4_refine 22 = .ok (.iload_n 3, 1) := by decide +kernel
theorem dX4_refine_23 : decode cX4_refine 23 = .ok (.iastore, 1) := by decide +kernel
theorem dX4_refine_24 : decode cX4_refine 24 = .ok (.aload_n 0, 1) := by decide +kernel
theorem dX4_refine_25 : decode cX4_refine 25 = .ok (.getfield 9, 3) := by decide +kernel
theorem dX4_refine_28 : decode cX4_refine 28 = .ok (.iload_n 3, 1) := by decide +kernel
theorem dX4_refine_29 : decode cX4_refine 29 = .ok (.iaload, 1) := by decide +kernel
theorem dX4_refine_30 : decode cX4_refine 30 = .ok (.istore 4, 2) := by decide +kernel
theorem dX4_refine_32 : decode cX4_refine 32 = .ok (.iload 4, 2) := by decide +kernel
theorem dX4_refine_34 : decode cX4_refine 34 = .ok (.iload_n 3, 1) := by decide +kernel
theorem dX4_refine_35 : decode cX4_refine 35 = .ok (.if_icmp .ge 46, 3) := by decide +kernel
theorem dX4_refine_38 : decode cX4_refine 38 = .ok (.aload_n 0, 1) := by decide +kernel
theorem dX4_refine_39 : decode cX4_refine 39 = .ok (.getfield 9, 3) := by decide +kernel
theorem dX4_refine_42 : decode cX4_refine 42 = .ok (.iload 4, 2) := by decide +kernel
theorem dX4_refine_44 : decode cX4_refine 44 = .ok (.iaload, 1) := by decide +kernel
theorem dX4_refine_45 : decode cX4_refine 45 = .ok (.aload_n 0, 1) := by decide +kernel
theorem dX4_refine_46 : decode cX4_refine 46 = .ok (.getfield 9, 3) := by decide +kernel
theorem dX4_refine_49 : decode cX4_refine 49 = .ok (.iload_n 3, 1) := by decide +kernel
theorem dX4_refine_50 : decode cX4_refine 50 = .ok (.iaload, 1) := by decide +kernel
theorem dX4_refine_51 : decode cX4_refine 51 = .ok (.if_icmp .ne 24, 3) := by decide +kernel
theorem dX4_refine_54 : decode cX4_refine 54 = .ok (.aload_n 0, 1) := by decide +kernel
theorem dX4_refine_55 : decode cX4_refine 55 = .ok (.iload 4, 2) := by decide +kernel
theorem dX4_refine_57 : decode cX4_refine 57 = .ok (.iload_n 3, 1) := by decide +kernel
theorem dX4_refine_58 : decode cX4_refine 58 = .ok (.invokevirtual 46, 3) := by decide +kernel
theorem dX4_refine_61 : decode cX4_refine 61 = .ok (.ifCond .eq 14, 3) := by decide +kernel
theorem dX4_refine_64 : decode cX4_refine 64 = .ok (.aload_n 0, 1) := by decide +kernel
theorem dX4_refine_65 : decode cX4_refine 65 = .ok (.getfield 19, 3) := by decide +kernel
theorem dX4_refine_68 : decode cX4_refine 68 = .ok (.iload_n 3, 1) := by decide +kernel
theorem dX4_refine_69 : decode cX4_refine 69 = .ok (.iload 4, 2) := by decide +kernel
theorem dX4_refine_71 : decode cX4_refine 71 = .ok (.iastore, 1) := by decide +kernel
theorem dX4_refine_72 : decode cX4_refine 72 = .ok (.goto 9, 3) := by decide +kernel
theorem dX4_refine_75 : decode cX4_refine 75 = .ok (.iinc 4 1, 3) := by decide +kernel
theorem dX4_refine_78 : decode cX4_refine 78 = .ok (.goto (-46), 3) := by decide +kernel
theorem dX4_refine_81 : decode cX4_refine 81 = .ok (.iload_n 2, 1) := by decide +kernel
theorem dX4_refine_82 : decode cX4_refine 82 = .ok (.ifCond .ne 18, 3) := by decide +kernel
theorem dX4_refine_85 : decode cX4_refine 85 = .ok (.aload_n 0, 1) := by decide +kernel
theorem dX4_refine_86 : decode cX4_refine 86 = .ok (.getfield 19, 3) := by decide +kernel
theorem dX4_refine_89 : decode cX4_refine 89 = .ok (.iload_n 3, 1) := by decide +kernel
theorem dX4_refine_90 : decode cX4_refine 90 = .ok (.iaload, 1) := by decide +kernel
theorem dX4_refine_91 : decode cX4_refine 91 = .ok (.aload_n 0, 1) := by decide +kernel
theorem dX4_refine_92 : decode cX4_refine 92 = .ok (.getfield 9, 3) := by decide +kernel
theorem dX4_refine_95 : decode cX4_refine 95 = .ok (.iload_n 3, 1) := by decide +kernel
theorem dX4_refine_96 : decode cX4_refine 96 = .ok (.iaload, 1) := by decide +kernel
theorem dX4_refine_97 : decode cX4_refine 97 = .ok (.if_icmp .eq 7, 3) := by decide +kernel
theorem dX4_refine_100 : decode cX4_refine 100 = .ok (.iconst 1, 1) := by decide +kernel
theorem dX4_refine_101 : decode cX4_refine 101 = .ok (.goto 4, 3) := by decide +kernel
theorem dX4_refine_104 : decode cX4_refine 104 = .ok (.iconst 0, 1) := by decide +kernel
theorem dX4_refine_105 : decode cX4_refine 105 = .ok (.istore_n 2, 1) := by decide +kernel
theorem dX4_refine_106 : decode cX4_refine 106 = .ok (.iinc 3 1, 3) := by decide +kernel
theorem dX4_refine_109 : decode cX4_refine 109 = .ok (.goto (-100), 3) := by decide +kernel
theorem dX4_refine_112 : decode cX4_refine 112 = .ok (.aload_n 0, 1) := by decide +kernel
theorem dX4_refine_113 : decode cX4_refine 113 = .ok (.getfield 19, 3) := by decide +kernel
theorem dX4_refine_116 : decode cX4_refine 116 = .ok (.iconst 0, 1) := by decide +kernel
theorem dX4_refine_117 : decode cX4_refine 117 = .ok (.aload_n 0, 1) := by decide +kernel
theorem dX4_refine_118 : decode cX4_refine 118 = .ok (.getfield 9, 3) := by decide +kernel
theorem dX4_refine_121 : decode cX4_refine 121 = .ok (.iconst 0, 1) := by decide +kernel
theorem dX4_refine_122 : decode cX4_refine 122 = .ok (.bipush 64, 2) := by decide +kernel
theorem dX4_refine_124 : decode cX4_refine 124 = .ok (.invokestatic 50, 3) := by decide +kernel
theorem dX4_refine_127 : decode cX4_refine 127 = .ok (.iload_n 2, 1) := by decide +kernel
theorem dX4_refine_128 : decode cX4_refine 128 = .ok (.ireturn, 1) := by decide +kernel
def f_X4_refine_75 (F P : Nat) (S : xSt) (rec_9 : Nat → Nat → Int32 → Int32 → xDt → Option (Int32 × xDt)) (rec_32 : Nat → Nat → Int32 → Int32 → Int32 → xDt → Option (Int32 × xDt)) (v0 : Nat) (v1 : Nat) (v2 : Int32) (v3 : Int32) (v4 : Int32) (D : xDt) : Option (Int32 × xDt) :=
  xlet (v4 + 1) fun v4_1 => rec_32 v0 v1 v2 v3 v4_1 D
set_option maxHeartbeats 4000000 in
theorem t_X4_refine_75 {F P : Nat} {S : xSt} (hS : xWF S) {rec_9 : Nat → Nat → Int32 → Int32 → xDt → Option (Int32 × xDt)} (hrec_9 : ∀ {v0 : Nat} {v1 : Nat} {v2 : Int32} {v3 : Int32} {D : xDt} {r : Int32 × xDt}, xK S v0 4 → xK S v1 10 → rec_9 v0 v1 v2 v3 D = some r → yEx md_X4_refine 3 9 [(0, .ref v0), (1, .ref v1), (2, .int v2), (3, .int v3)] [] S D (xQi S r)) {rec_32 : Nat → Nat → Int32 → Int32 → Int32 → xDt → Option (Int32 × xDt)} (hrec_32 : ∀ {v0 : Nat} {v1 : Nat} {v2 : Int32} {v3 : Int32} {v4 : Int32} {D : xDt} {r : Int32 × xDt}, xK S v0 4 → xK S v1 10 → rec_32 v0 v1 v2 v3 v4 D = some r → yEx md_X4_refine 3 32 [(0, .ref v0), (1, .ref v1), (2, .int v2), (3, .int v3), (4, .int v4)] [] S D (xQi S r)) {v0 : Nat} {v1 : Nat} {v2 : Int32} {v3 : Int32} {v4 : Int32} {D : xDt} {r : Int32 × xDt} (k0 : xK S v0 4) (k1 : xK S v1 10) (h : f_X4_refine_75 F P S rec_9 rec_32 v0 v1 v2 v3 v4 D = some r) : yEx md_X4_refine 3 75 [(0, .ref v0), (1, .ref v1), (2, .int v2), (3, .int v3), (4, .int v4)] [] S D (xQi S r) := by
  unfold f_X4_refine_75 at h
  refine xlet_e h (fun v4_1 ev4_1 h => ?_)
  refine y_iinc v4_1 ev4_1 (by decide) [(4, .int v4_1), (0, .ref v0), (1, .ref v1), (2, .int v2), (3, .int v3)] dX4_refine_75 4 rfl (by show _ < 5; decide) rfl ?_
  refine x_goto 32 dX4_refine_78 (by decide) ?_
  refine x_lv (lv' := [(0, .ref v0), (1, .ref v1), (2, .int v2), (3, .int v3), (4, .int v4_1)]) [1, 2, 3, 4, 0] rfl ?_
  exact hrec_32 k0 k1 h

def f_X4_refine_105 (F P : Nat) (S : xSt) (rec_9 : Nat → Nat → Int32 → Int32 → xDt → Option (Int32 × xDt)) (v0 : Nat) (v1 : Nat) (v3 : Int32) (s0 : Int32) (D : xDt) : Option (Int32 × xDt) :=
  xlet (v3 + 1) fun v3_1 => rec_9 v0 v1 s0 v3_1 D
set_option maxHeartbeats 4000000 in
theorem t_X4_refine_105 {F P : Nat} {S : xSt} (hS : xWF S) {rec_9 : Nat → Nat → Int32 → Int32 → xDt → Option (Int32 × xDt)} (hrec_9 : ∀ {v0 : Nat} {v1 : Nat} {v2 : Int32} {v3 : Int32} {D : xDt} {r : Int32 × xDt}, xK S v0 4 → xK S v1 10 → rec_9 v0 v1 v2 v3 D = some r → yEx md_X4_refine 3 9 [(0, .ref v0), (1, .ref v1), (2, .int v2), (3, .int v3)] [] S D (xQi S r)) {v0 : Nat} {v1 : Nat} {v3 : Int32} {s0 : Int32} {D : xDt} {r : Int32 × xDt} (k0 : xK S v0 4) (k1 : xK S v1 10) (h : f_X4_refine_105 F P S rec_9 v0 v1 v3 s0 D = some r) : yEx md_X4_refine 3 105 [(0, .ref v0), (1, .ref v1), (3, .int v3)] [.int s0] S D (xQi S r) := by
  unfold f_X4_refine_105 at h
  refine y_istore_n s0 rfl [(2, .int s0), (0, .ref v0), (1, .ref v1), (3, .int v3)] dX4_refine_105 (by show _ < 5; decide) rfl ?_
  refine xlet_e h (fun v3_1 ev3_1 h => ?_)
  refine y_iinc v3_1 ev3_1 (by decide) [(3, .int v3_1), (2, .int s0), (0, .ref v0), (1, .ref v1)] dX4_refine_106 3 rfl (by show _ < 5; decide) rfl ?_
  refine x_goto 9 dX4_refine_109 (by decide) ?_
  refine x_lv (lv' := [(0, .ref v0), (1, .ref v1), (2, .int s0), (3, .int v3_1)]) [2, 3, 1, 0] rfl ?_
  exact hrec_9 k0 k1 h

def f_X4_refine_100 (F P : Nat) (S : xSt) (rec_9 : Nat → Nat → Int32 → Int32 → xDt → Option (Int32 × xDt)) (v0 : Nat) (v1 : Nat) (v3 : Int32) (D : xDt) : Option (Int32 × xDt) :=
  f_X4_refine_105 F P S rec_9 v0 v1 v3 1 D
set_option maxHeartbeats 4000000 in
theorem t_X4_refine_100 {F P : Nat} {S : xSt} (hS : xWF S) {rec_9 : Nat → Nat → Int32 → Int32 → xDt → Option (Int32 × xDt)} (hrec_9 : ∀ {v0 : Nat} {v1 : Nat} {v2 : Int32} {v3 : Int32} {D : xDt} {r : Int32 × xDt}, xK S v0 4 → xK S v1 10 → rec_9 v0 v1 v2 v3 D = some r → yEx md_X4_refine 3 9 [(0, .ref v0), (1, .ref v1), (2, .int v2), (3, .int v3)] [] S D (xQi S r)) {v0 : Nat} {v1 : Nat} {v3 : Int32} {D : xDt} {r : Int32 × xDt} (k0 : xK S v0 4) (k1 : xK S v1 10) (h : f_X4_refine_100 F P S rec_9 v0 v1 v3 D = some r) : yEx md_X4_refine 3 100 [(0, .ref v0), (1, .ref v1), (3, .int v3)] [] S D (xQi S r) := by
  unfold f_X4_refine_100 at h
  refine x_iconst 1 dX4_refine_100 (by decide) ?_
  refine x_goto 105 dX4_refine_101 (by decide) ?_
  exact t_X4_refine_105 hS hrec_9 k0 k1 h

def f_X4_refine_81 (F P : Nat) (S : xSt) (rec_9 : Nat → Nat → Int32 → Int32 → xDt → Option (Int32 × xDt)) (v0 : Nat) (v1 : Nat) (v2 : Int32) (v3 : Int32) (D : xDt) : Option (Int32 × xDt) :=
  if v2 = 0 then (xgrd (xin v3 (xl S (xr S v0 2))) (xgrd (xin v3 (xl S (xr S v0 0))) (if (D.1 (xr S v0 2) (v3).toNatClampNeg) = (D.1 (xr S v0 0) (v3).toNatClampNeg) then (f_X4_refine_105 F P S rec_9 v0 v1 v3 0 D) else (f_X4_refine_100 F P S rec_9 v0 v1 v3 D)))) else (f_X4_refine_100 F P S rec_9 v0 v1 v3 D)
set_option maxHeartbeats 4000000 in
theorem t_X4_refine_81 {F P : Nat} {S : xSt} (hS : xWF S) {rec_9 : Nat → Nat → Int32 → Int32 → xDt → Option (Int32 × xDt)} (hrec_9 : ∀ {v0 : Nat} {v1 : Nat} {v2 : Int32} {v3 : Int32} {D : xDt} {r : Int32 × xDt}, xK S v0 4 → xK S v1 10 → rec_9 v0 v1 v2 v3 D = some r → yEx md_X4_refine 3 9 [(0, .ref v0), (1, .ref v1), (2, .int v2), (3, .int v3)] [] S D (xQi S r)) {v0 : Nat} {v1 : Nat} {v2 : Int32} {v3 : Int32} {D : xDt} {r : Int32 × xDt} (k0 : xK S v0 4) (k1 : xK S v1 10) (h : f_X4_refine_81 F P S rec_9 v0 v1 v2 v3 D = some r) : yEx md_X4_refine 3 81 [(0, .ref v0), (1, .ref v1), (2, .int v2), (3, .int v3)] [] S D (xQi S r) := by
  unfold f_X4_refine_81 at h
  refine x_iload_n dX4_refine_81 2 rfl ?_
  refine x_if_ne 100 dX4_refine_82 (by decide) (fun c => ?_) (fun c => ?_)
  · rw [if_neg c] at h
    refine x_lv (lv' := [(0, .ref v0), (1, .ref v1), (3, .int v3)]) [0, 1, 3] rfl ?_
    exact t_X4_refine_100 hS hrec_9 k0 k1 h
  · rw [if_pos c] at h
    refine x_aload_n dX4_refine_85 0 rfl ?_
    refine y_getr (kd := 100) hS fl_RX4_19 dX4_refine_86 rfl k0 ?_
    refine x_iload_n dX4_refine_89 3 rfl ?_
    refine xgrd_e h (fun g1 h => ?_)
    refine y_iald dX4_refine_90 ((hS.f k0 2 100 rfl).2) g1 ?_
    refine x_aload_n dX4_refine_91 0 rfl ?_
    refine y_getr (kd := 100) hS fl_RX4_9 dX4_refine_92 rfl k0 ?_
    refine x_iload_n dX4_refine_95 3 rfl ?_
    refine xgrd_e h (fun g2 h => ?_)
    refine y_iald dX4_refine_96 ((hS.f k0 0 100 rfl).2) g2 ?_
    refine x_icmp_eq 104 dX4_refine_97 (by decide) (fun c => ?_) (fun c => ?_)
    · rw [if_pos c] at h
      refine x_iconst 0 dX4_refine_104 (by decide) ?_
      refine x_lv (lv' := [(0, .ref v0), (1, .ref v1), (3, .int v3)]) [0, 1, 3] rfl ?_
      exact t_X4_refine_105 hS hrec_9 k0 k1 h
    · rw [if_neg c] at h
      refine x_lv (lv' := [(0, .ref v0), (1, .ref v1), (3, .int v3)]) [0, 1, 3] rfl ?_
      exact t_X4_refine_100 hS hrec_9 k0 k1 h

def f_X4_refine_32s (F P : Nat) (S : xSt) (rec_9 : Nat → Nat → Int32 → Int32 → xDt → Option (Int32 × xDt)) (rec_32 : Nat → Nat → Int32 → Int32 → Int32 → xDt → Option (Int32 × xDt)) (v0 : Nat) (v1 : Nat) (v2 : Int32) (v3 : Int32) (v4 : Int32) (D : xDt) : Option (Int32 × xDt) :=
  if v3 ≤ v4 then (f_X4_refine_81 F P S rec_9 v0 v1 v2 v3 D) else (xgrd (xin v4 (xl S (xr S v0 0))) (xgrd (xin v3 (xl S (xr S v0 0))) (if (D.1 (xr S v0 0) (v4).toNatClampNeg) = (D.1 (xr S v0 0) (v3).toNatClampNeg) then ((f_X4_seeSame F P S v0 v4 v3 D).bind fun q3 => if q3.1 = 0 then (f_X4_refine_75 F P S rec_9 rec_32 v0 v1 v2 v3 v4 q3.2) else (xgrd (xin v3 (xl S (xr S v0 2))) (xlet (xup q3.2.1 (xr S v0 2) (v3).toNatClampNeg v4, q3.2.2) fun D5 => f_X4_refine_81 F P S rec_9 v0 v1 v2 v3 D5))) else (f_X4_refine_75 F P S rec_9 rec_32 v0 v1 v2 v3 v4 D))))
def f_X4_refine_32 (F P : Nat) (S : xSt) (rec_9 : Nat → Nat → Int32 → Int32 → xDt → Option (Int32 × xDt)) : Nat → Nat → Nat → Int32 → Int32 → Int32 → xDt → Option (Int32 × xDt)
  | 0 => fun _ _ _ _ _ _ => none
  | n + 1 => f_X4_refine_32s F P S rec_9 (f_X4_refine_32 F P S rec_9 n)
set_option maxHeartbeats 4000000 in
theorem t_X4_refine_32s {F P : Nat} {S : xSt} (hS : xWF S) {rec_9 : Nat → Nat → Int32 → Int32 → xDt → Option (Int32 × xDt)} (hrec_9 : ∀ {v0 : Nat} {v1 : Nat} {v2 : Int32} {v3 : Int32} {D : xDt} {r : Int32 × xDt}, xK S v0 4 → xK S v1 10 → rec_9 v0 v1 v2 v3 D = some r → yEx md_X4_refine 3 9 [(0, .ref v0), (1, .ref v1), (2, .int v2), (3, .int v3)] [] S D (xQi S r)) {rec_32 : Nat → Nat → Int32 → Int32 → Int32 → xDt → Option (Int32 × xDt)} (hrec_32 : ∀ {v0 : Nat} {v1 : Nat} {v2 : Int32} {v3 : Int32} {v4 : Int32} {D : xDt} {r : Int32 × xDt}, xK S v0 4 → xK S v1 10 → rec_32 v0 v1 v2 v3 v4 D = some r → yEx md_X4_refine 3 32 [(0, .ref v0), (1, .ref v1), (2, .int v2), (3, .int v3), (4, .int v4)] [] S D (xQi S r)) {v0 : Nat} {v1 : Nat} {v2 : Int32} {v3 : Int32} {v4 : Int32} {D : xDt} {r : Int32 × xDt} (k0 : xK S v0 4) (k1 : xK S v1 10) (h : f_X4_refine_32s F P S rec_9 rec_32 v0 v1 v2 v3 v4 D = some r) : yEx md_X4_refine 3 32 [(0, .ref v0), (1, .ref v1), (2, .int v2), (3, .int v3), (4, .int v4)] [] S D (xQi S r) := by
  unfold f_X4_refine_32s at h
  refine x_iload dX4_refine_32 4 rfl ?_
  refine x_iload_n dX4_refine_34 3 rfl ?_
  refine x_icmp_ge 81 dX4_refine_35 (by decide) (fun c => ?_) (fun c => ?_)
  · rw [if_pos c] at h
    refine x_lv (lv' := [(0, .ref v0), (1, .ref v1), (2, .int v2), (3, .int v3)]) [0, 1, 2, 3] rfl ?_
    exact t_X4_refine_81 hS hrec_9 k0 k1 h
  · rw [if_neg c] at h
    refine x_aload_n dX4_refine_38 0 rfl ?_
    refine y_getr (kd := 100) hS fl_RX4_9 dX4_refine_39 rfl k0 ?_
    refine x_iload dX4_refine_42 4 rfl ?_
    refine xgrd_e h (fun g1 h => ?_)
    refine y_iald dX4_refine_44 ((hS.f k0 0 100 rfl).2) g1 ?_
    refine x_aload_n dX4_refine_45 0 rfl ?_
    refine y_getr (kd := 100) hS fl_RX4_9 dX4_refine_46 rfl k0 ?_
    refine x_iload_n dX4_refine_49 3 rfl ?_
    refine xgrd_e h (fun g2 h => ?_)
    refine y_iald dX4_refine_50 ((hS.f k0 0 100 rfl).2) g2 ?_
    refine x_icmp_ne 75 dX4_refine_51 (by decide) (fun c => ?_) (fun c => ?_)
    · rw [if_neg c] at h
      exact t_X4_refine_75 hS hrec_9 hrec_32 k0 k1 h
    · rw [if_pos c] at h
      refine x_aload_n dX4_refine_54 0 rfl ?_
      refine x_iload dX4_refine_55 4 rfl ?_
      refine x_iload_n dX4_refine_57 3 rfl ?_
      refine xbnd_e h (fun q3 e3 h => ?_)
      refine y_callVi (As := [.int v4, .int v3]) (q := q3) cv_RX4_46 dX4_refine_58 k0 rfl (Nat.le_of_ble_eq_true rfl) (by omega) (S_X4_seeSame hS k0 e3) ?_
      refine x_if_eq 75 dX4_refine_61 (by decide) (fun c => ?_) (fun c => ?_)
      · rw [if_pos c] at h
        exact t_X4_refine_75 hS hrec_9 hrec_32 k0 k1 h
      · rw [if_neg c] at h
        refine x_aload_n dX4_refine_64 0 rfl ?_
        refine y_getr (kd := 100) hS fl_RX4_19 dX4_refine_65 rfl k0 ?_
        refine x_iload_n dX4_refine_68 3 rfl ?_
        refine x_iload dX4_refine_69 4 rfl ?_
        refine xgrd_e h (fun g4 h => ?_)
        refine xlet_e h (fun D5 eD5 h => ?_)
        refine y_iast dX4_refine_71 ((hS.f k0 2 100 rfl).2) g4 eD5 ?_
        refine x_goto 81 dX4_refine_72 (by decide) ?_
        refine x_lv (lv' := [(0, .ref v0), (1, .ref v1), (2, .int v2), (3, .int v3)]) [0, 1, 2, 3] rfl ?_
        exact t_X4_refine_81 hS hrec_9 k0 k1 h
theorem t_X4_refine_32 {F P : Nat} {S : xSt} (hS : xWF S) {rec_9 : Nat → Nat → Int32 → Int32 → xDt → Option (Int32 × xDt)} (hrec_9 : ∀ {v0 : Nat} {v1 : Nat} {v2 : Int32} {v3 : Int32} {D : xDt} {r : Int32 × xDt}, xK S v0 4 → xK S v1 10 → rec_9 v0 v1 v2 v3 D = some r → yEx md_X4_refine 3 9 [(0, .ref v0), (1, .ref v1), (2, .int v2), (3, .int v3)] [] S D (xQi S r)) : ∀ (n : Nat) {v0 : Nat} {v1 : Nat} {v2 : Int32} {v3 : Int32} {v4 : Int32} {D : xDt} {r : Int32 × xDt}, xK S v0 4 → xK S v1 10 → f_X4_refine_32 F P S rec_9 n v0 v1 v2 v3 v4 D = some r → yEx md_X4_refine 3 32 [(0, .ref v0), (1, .ref v1), (2, .int v2), (3, .int v3), (4, .int v4)] [] S D (xQi S r) := by
  intro n
  induction n with
  | zero => intros; rename_i h; cases h
  | succ n ih =>
    intro v0 v1 v2 v3 v4 D r k0 k1 h
    exact t_X4_refine_32s hS hrec_9 (fun k0 k1 h => ih k0 k1 h) k0 k1 h

def f_X4_refine_9s (F P : Nat) (S : xSt) (rec_9 : Nat → Nat → Int32 → Int32 → xDt → Option (Int32 × xDt)) (v0 : Nat) (v1 : Nat) (v2 : Int32) (v3 : Int32) (D : xDt) : Option (Int32 × xDt) :=
  if (D.1 v1 0) ≤ v3 then (xgrd (xcpin 0 0 64 (xl S (xr S v0 2)) (xl S (xr S v0 0))) (xlet (xcp D.1 (xr S v0 2) (xr S v0 0) (0 : Int32).toNatClampNeg (0 : Int32).toNatClampNeg (64 : Int32).toNatClampNeg, D.2) fun D2 => xgrd (xb v2) (some (v2, D2)))) else (xgrd (xin v3 (xl S (xr S v0 2))) (xlet (xup D.1 (xr S v0 2) (v3).toNatClampNeg v3, D.2) fun D5 => xgrd (xin v3 (xl S (xr S v0 0))) (xlet (D5.1 (xr S v0 0) (v3).toNatClampNeg) fun v4_7 => f_X4_refine_32 F P S rec_9 F v0 v1 v2 v3 v4_7 D5)))
def f_X4_refine_9 (F P : Nat) (S : xSt) : Nat → Nat → Nat → Int32 → Int32 → xDt → Option (Int32 × xDt)
  | 0 => fun _ _ _ _ _ => none
  | n + 1 => f_X4_refine_9s F P S (f_X4_refine_9 F P S n)
set_option maxHeartbeats 4000000 in
theorem t_X4_refine_9s {F P : Nat} {S : xSt} (hS : xWF S) {rec_9 : Nat → Nat → Int32 → Int32 → xDt → Option (Int32 × xDt)} (hrec_9 : ∀ {v0 : Nat} {v1 : Nat} {v2 : Int32} {v3 : Int32} {D : xDt} {r : Int32 × xDt}, xK S v0 4 → xK S v1 10 → rec_9 v0 v1 v2 v3 D = some r → yEx md_X4_refine 3 9 [(0, .ref v0), (1, .ref v1), (2, .int v2), (3, .int v3)] [] S D (xQi S r)) {v0 : Nat} {v1 : Nat} {v2 : Int32} {v3 : Int32} {D : xDt} {r : Int32 × xDt} (k0 : xK S v0 4) (k1 : xK S v1 10) (h : f_X4_refine_9s F P S rec_9 v0 v1 v2 v3 D = some r) : yEx md_X4_refine 3 9 [(0, .ref v0), (1, .ref v1), (2, .int v2), (3, .int v3)] [] S D (xQi S r) := by
  unfold f_X4_refine_9s at h
  refine x_iload_n dX4_refine_9 3 rfl ?_
  refine x_aload_n dX4_refine_10 1 rfl ?_
  refine y_geti fl_RX4_33 dX4_refine_11 rfl k1 ?_
  refine x_icmp_ge 112 dX4_refine_14 (by decide) (fun c => ?_) (fun c => ?_)
  · rw [if_pos c] at h
    refine x_aload_n dX4_refine_112 0 rfl ?_
    refine y_getr (kd := 100) hS fl_RX4_19 dX4_refine_113 rfl k0 ?_
    refine x_iconst 0 dX4_refine_116 (by decide) ?_
    refine x_aload_n dX4_refine_117 0 rfl ?_
    refine y_getr (kd := 100) hS fl_RX4_9 dX4_refine_118 rfl k0 ?_
    refine x_iconst 0 dX4_refine_121 (by decide) ?_
    refine x_bipush 64 dX4_refine_122 (by decide) ?_
    refine xgrd_e h (fun g1 h => ?_)
    refine xlet_e h (fun D2 eD2 h => ?_)
    refine y_copyi cp_RX4_50 dX4_refine_124 ((hS.f k0 2 100 rfl).2) ((hS.f k0 0 100 rfl).2) g1 (Nat.le_of_ble_eq_true rfl) (by omega) eD2 ?_
    refine x_iload_n dX4_refine_127 2 rfl ?_
    refine xgrd_e h (fun g3 h => ?_)
    obtain rfl := Option.some.inj h
    exact y_zret rfl g3 dX4_refine_128
  · rw [if_neg c] at h
    refine x_aload_n dX4_refine_17 0 rfl ?_
    refine y_getr (kd := 100) hS fl_RX4_19 dX4_refine_18 rfl k0 ?_
    refine x_iload_n dX4_refine_21 3 rfl ?_
    refine x_iload_n dX4_refine_22 3 rfl ?_
    refine xgrd_e h (fun g4 h => ?_)
    refine xlet_e h (fun D5 eD5 h => ?_)
    refine y_iast dX4_refine_23 ((hS.f k0 2 100 rfl).2) g4 eD5 ?_
    refine x_aload_n dX4_refine_24 0 rfl ?_
    refine y_getr (kd := 100) hS fl_RX4_9 dX4_refine_25 rfl k0 ?_
    refine x_iload_n dX4_refine_28 3 rfl ?_
    refine xgrd_e h (fun g6 h => ?_)
    refine y_iald dX4_refine_29 ((hS.f k0 0 100 rfl).2) g6 ?_
    refine xlet_e h (fun v4_7 ev4_7 h => ?_)
    refine y_istore v4_7 ev4_7 [(4, .int v4_7), (0, .ref v0), (1, .ref v1), (2, .int v2), (3, .int v3)] dX4_refine_30 (by show _ < 5; decide) rfl ?_
    refine x_lv (lv' := [(0, .ref v0), (1, .ref v1), (2, .int v2), (3, .int v3), (4, .int v4_7)]) [1, 2, 3, 4, 0] rfl ?_
    exact t_X4_refine_32 hS hrec_9 F k0 k1 h
theorem t_X4_refine_9 {F P : Nat} {S : xSt} (hS : xWF S) : ∀ (n : Nat) {v0 : Nat} {v1 : Nat} {v2 : Int32} {v3 : Int32} {D : xDt} {r : Int32 × xDt}, xK S v0 4 → xK S v1 10 → f_X4_refine_9 F P S n v0 v1 v2 v3 D = some r → yEx md_X4_refine 3 9 [(0, .ref v0), (1, .ref v1), (2, .int v2), (3, .int v3)] [] S D (xQi S r) := by
  intro n
  induction n with
  | zero => intros; rename_i h; cases h
  | succ n ih =>
    intro v0 v1 v2 v3 D r k0 k1 h
    exact t_X4_refine_9s hS (fun k0 k1 h => ih k0 k1 h) k0 k1 h

def f_X4_refine (F P : Nat) (S : xSt) (v0 : Nat) (v1 : Nat) (D : xDt) : Option (Int32 × xDt) :=
  (f_X4_look F P S v0 v1 D).bind fun q1 => f_X4_refine_9 F P S F v0 v1 0 0 q1
set_option maxHeartbeats 4000000 in
theorem S_X4_refine {F P : Nat} {S : xSt} (hS : xWF S) {v0 : Nat} {v1 : Nat} {D : xDt} {r : Int32 × xDt} (k0 : xK S v0 4) (k1 : xK S v1 10) (h : f_X4_refine F P S v0 v1 D = some r) : xSp md_X4_refine (3, 0, 0) [.ref v0, .ref v1] (S, D) (xQi S r) := by
  unfold f_X4_refine at h
  refine xEntry (by decide) (Nat.le_of_ble_eq_true rfl) ?_
  refine x_lv (lv' := [(0, .ref v0), (1, .ref v1)]) [0, 1] rfl ?_
  refine x_aload_n dX4_refine_0 0 rfl ?_
  refine x_aload_n dX4_refine_1 1 rfl ?_
  refine xbnd_e h (fun q1 e1 h => ?_)
  refine y_callVv (As := [.ref v1]) (q := q1) cv_RX4_43 dX4_refine_2 k0 rfl (Nat.le_of_ble_eq_true rfl) (by omega) (S_X4_look hS k0 k1 e1) ?_
  refine x_iconst 0 dX4_refine_5 (by decide) ?_
  refine y_istore_n 0 rfl [(2, .int 0), (0, .ref v0), (1, .ref v1)] dX4_refine_6 (by show _ < 5; decide) rfl ?_
  refine x_iconst 0 dX4_refine_7 (by decide) ?_
  refine y_istore_n 0 rfl [(3, .int 0), (2, .int 0), (0, .ref v0), (1, .ref v1)] dX4_refine_8 (by show _ < 5; decide) rfl ?_
  refine x_lv (lv' := [(0, .ref v0), (1, .ref v1), (2, .int 0), (3, .int 0)]) [2, 3, 1, 0] rfl ?_
  exact t_X4_refine_9 hS F k0 k1 h

theorem dX4_difference_0 : decode cX4_difference 0 = .ok (.aload_n 0, 1) := by decide +kernel
theorem dX4_difference_1 : decode cX4_difference 1 = .ok (.aload_n 1, 1) := by decide +kernel
theorem dX4_difference_2 : decode cX4_difference 2 = .ok (.invokevirtual 25, 3) := by decide +kernel
theorem dX4_difference_5 : decode cX4_difference 5 = .ok (.iconst 0, 1) := by decide +kernel
theorem dX4_difference_6 : decode cX4_difference 6 = .ok (.istore 4, 2) := by decide +kernel
theorem dX4_difference_8 : decode cX4_difference 8 = .ok (.iload 4, 2) := by decide +kernel
theorem dX4_difference_10 : decode cX4_difference 10 = .ok (.bipush 64, 2) := by decide +kernel
theorem dX4_difference_12 : decode cX4_difference 12 = .ok (.if_icmp .gt 38, 3) := by decide +kernel
theorem dX4_difference_15 : decode cX4_difference 15 = .ok (.aload_n 0, 1) := by decide +kernel
theorem dX4_difference_16 : decode cX4_difference 16 = .ok (.getfield 9, 3) := by decide +kernel
theorem dX4_difference_19 : decode cX4_difference 19 = .ok (.iload_n 2, 1) := by decide +kernel
theorem dX4_difference_20 : decode cX4_difference 20 = .ok (.iaload, 1) := by decide +kernel
theorem dX4_difference_21 : decode cX4_difference 21 = .ok (.aload_n 0, 1) := by decide +kernel
theorem dX4_difference_22 : decode cX4_difference 22 = .ok (.getfield 9, 3) := by decide +kernel
theorem dX4_difference_25 : decode cX4_difference 25 = .ok (.iload_n 3, 1) := by decide +kernel
theorem dX4_difference_26 : decode cX4_difference 26 = .ok (.iaload, 1) := by decide +kernel
theorem dX4_difference_27 : decode cX4_difference 27 = .ok (.if_icmp .eq 6, 3) := by decide +kernel
theorem dX4_difference_30 : decode cX4_difference 30 = .ok (.iload 4, 2) := by decide +kernel
theorem dX4_difference_32 : decode cX4_difference 32 = .ok (.ireturn, 1) := by decide +kernel
theorem dX4_difference_33 : decode cX4_difference 33 = .ok (.aload_n 0, 1) := by decide +kernel
theorem dX4_difference_34 : decode cX4_difference 34 = .ok (.aload_n 1, 1) := by decide +kernel
theorem dX4_difference_35 : decode cX4_difference 35 = .ok (.invokevirtual 29, 3) := by decide +kernel
theorem dX4_difference_38 : decode cX4_difference 38 = .ok (.ifCond .ne 6, 3) := by decide +kernel
theorem dX4_difference_41 : decode cX4_difference 41 = .ok (.bipush (-2), 2) := by decide +kernel
theorem dX4_difference_43 : decode cX4_difference 43 = .ok (.ireturn, 1) := by decide +kernel
theorem dX4_difference_44 : decode cX4_difference 44 = .ok (.iinc 4 1, 3) := by decide +kernel
theorem dX4_difference_47 : decode cX4_difference 47 = .ok (.goto (-39), 3) := by decide +kernel
theorem dX4_difference_50 : decode cX4_difference 50 = .ok (.bipush (-2), 2) := by decide +kernel
theorem dX4_difference_52 : decode cX4_difference 52 = .ok (.ireturn, 1) := by decide +kernel
def f_X4_difference_8s (F P : Nat) (S : xSt) (rec_8 : Nat → Nat → Int32 → Int32 → Int32 → xDt → Option (Int32 × xDt)) (v0 : Nat) (v1 : Nat) (v2 : Int32) (v3 : Int32) (v4 : Int32) (D : xDt) : Option (Int32 × xDt) :=
  if 64 < v4 then (some ((-2), D)) else (xgrd (xin v2 (xl S (xr S v0 0))) (xgrd (xin v3 (xl S (xr S v0 0))) (if (D.1 (xr S v0 0) (v2).toNatClampNeg) = (D.1 (xr S v0 0) (v3).toNatClampNeg) then ((f_X4_refine F P S v0 v1 D).bind fun q3 => if q3.1 = 0 then (some ((-2), q3.2)) else (xlet (v4 + 1) fun v4_4 => rec_8 v0 v1 v2 v3 v4_4 q3.2)) else (some (v4, D)))))
def f_X4_difference_8 (F P : Nat) (S : xSt) : Nat → Nat → Nat → Int32 → Int32 → Int32 → xDt → Option (Int32 × xDt)
  | 0 => fun _ _ _ _ _ _ => none
  | n + 1 => f_X4_difference_8s F P S (f_X4_difference_8 F P S n)
set_option maxHeartbeats 4000000 in
theorem t_X4_difference_8s {F P : Nat} {S : xSt} (hS : xWF S) {rec_8 : Nat → Nat → Int32 → Int32 → Int32 → xDt → Option (Int32 × xDt)} (hrec_8 : ∀ {v0 : Nat} {v1 : Nat} {v2 : Int32} {v3 : Int32} {v4 : Int32} {D : xDt} {r : Int32 × xDt}, xK S v0 4 → xK S v1 10 → rec_8 v0 v1 v2 v3 v4 D = some r → yEx md_X4_difference 4 8 [(0, .ref v0), (1, .ref v1), (2, .int v2), (3, .int v3), (4, .int v4)] [] S D (xQi S r)) {v0 : Nat} {v1 : Nat} {v2 : Int32} {v3 : Int32} {v4 : Int32} {D : xDt} {r : Int32 × xDt} (k0 : xK S v0 4) (k1 : xK S v1 10) (h : f_X4_difference_8s F P S rec_8 v0 v1 v2 v3 v4 D = some r) : yEx md_X4_difference 4 8 [(0, .ref v0), (1, .ref v1), (2, .int v2), (3, .int v3), (4, .int v4)] [] S D (xQi S r) := by
  unfold f_X4_difference_8s at h
  refine x_iload dX4_difference_8 4 rfl ?_
  refine x_bipush 64 dX4_difference_10 (by decide) ?_
  refine x_icmp_gt 50 dX4_difference_12 (by decide) (fun c => ?_) (fun c => ?_)
  · rw [if_pos c] at h
    refine x_bipush (-2) dX4_difference_50 (by decide) ?_
    obtain rfl := Option.some.inj h
    exact y_iret rfl dX4_difference_52
  · rw [if_neg c] at h
    refine x_aload_n dX4_difference_15 0 rfl ?_
    refine y_getr (kd := 100) hS fl_RX4_9 dX4_difference_16 rfl k0 ?_
    refine x_iload_n dX4_difference_19 2 rfl ?_
    refine xgrd_e h (fun g1 h => ?_)
    refine y_iald dX4_difference_20 ((hS.f k0 0 100 rfl).2) g1 ?_
    refine x_aload_n dX4_difference_21 0 rfl ?_
    refine y_getr (kd := 100) hS fl_RX4_9 dX4_difference_22 rfl k0 ?_
    refine x_iload_n dX4_difference_25 3 rfl ?_
    refine xgrd_e h (fun g2 h => ?_)
    refine y_iald dX4_difference_26 ((hS.f k0 0 100 rfl).2) g2 ?_
    refine x_icmp_eq 33 dX4_difference_27 (by decide) (fun c => ?_) (fun c => ?_)
    · rw [if_pos c] at h
      refine x_aload_n dX4_difference_33 0 rfl ?_
      refine x_aload_n dX4_difference_34 1 rfl ?_
      refine xbnd_e h (fun q3 e3 h => ?_)
      refine y_callVi (As := [.ref v1]) (q := q3) cv_RX4_29 dX4_difference_35 k0 rfl (Nat.le_of_ble_eq_true rfl) (by omega) (S_X4_refine hS k0 k1 e3) ?_
      refine x_if_ne 44 dX4_difference_38 (by decide) (fun c => ?_) (fun c => ?_)
      · rw [if_neg c] at h
        refine xlet_e h (fun v4_4 ev4_4 h => ?_)
        refine y_iinc v4_4 ev4_4 (by decide) [(4, .int v4_4), (0, .ref v0), (1, .ref v1), (2, .int v2), (3, .int v3)] dX4_difference_44 4 rfl (by show _ < 5; decide) rfl ?_
        refine x_goto 8 dX4_difference_47 (by decide) ?_
        refine x_lv (lv' := [(0, .ref v0), (1, .ref v1), (2, .int v2), (3, .int v3), (4, .int v4_4)]) [1, 2, 3, 4, 0] rfl ?_
        exact hrec_8 k0 k1 h
      · rw [if_pos c] at h
        refine x_bipush (-2) dX4_difference_41 (by decide) ?_
        obtain rfl := Option.some.inj h
        exact y_iret rfl dX4_difference_43
    · rw [if_neg c] at h
      refine x_iload dX4_difference_30 4 rfl ?_
      obtain rfl := Option.some.inj h
      exact y_iret rfl dX4_difference_32
theorem t_X4_difference_8 {F P : Nat} {S : xSt} (hS : xWF S) : ∀ (n : Nat) {v0 : Nat} {v1 : Nat} {v2 : Int32} {v3 : Int32} {v4 : Int32} {D : xDt} {r : Int32 × xDt}, xK S v0 4 → xK S v1 10 → f_X4_difference_8 F P S n v0 v1 v2 v3 v4 D = some r → yEx md_X4_difference 4 8 [(0, .ref v0), (1, .ref v1), (2, .int v2), (3, .int v3), (4, .int v4)] [] S D (xQi S r) := by
  intro n
  induction n with
  | zero => intros; rename_i h; cases h
  | succ n ih =>
    intro v0 v1 v2 v3 v4 D r k0 k1 h
    exact t_X4_difference_8s hS (fun k0 k1 h => ih k0 k1 h) k0 k1 h

def f_X4_difference (F P : Nat) (S : xSt) (v0 : Nat) (v1 : Nat) (v2 : Int32) (v3 : Int32) (D : xDt) : Option (Int32 × xDt) :=
  (f_X4_start F P S v0 v1 D).bind fun q1 => f_X4_difference_8 F P S F v0 v1 v2 v3 0 q1
set_option maxHeartbeats 4000000 in
theorem S_X4_difference {F P : Nat} {S : xSt} (hS : xWF S) {v0 : Nat} {v1 : Nat} {v2 : Int32} {v3 : Int32} {D : xDt} {r : Int32 × xDt} (k0 : xK S v0 4) (k1 : xK S v1 10) (h : f_X4_difference F P S v0 v1 v2 v3 D = some r) : xSp md_X4_difference (4, 0, 0) [.ref v0, .ref v1, .int v2, .int v3] (S, D) (xQi S r) := by
  unfold f_X4_difference at h
  refine xEntry (by decide) (Nat.le_of_ble_eq_true rfl) ?_
  refine x_lv (lv' := [(0, .ref v0), (1, .ref v1), (2, .int v2), (3, .int v3)]) [0, 1, 2, 3] rfl ?_
  refine x_aload_n dX4_difference_0 0 rfl ?_
  refine x_aload_n dX4_difference_1 1 rfl ?_
  refine xbnd_e h (fun q1 e1 h => ?_)
  refine y_callVv (As := [.ref v1]) (q := q1) cv_RX4_25 dX4_difference_2 k0 rfl (Nat.le_of_ble_eq_true rfl) (by omega) (S_X4_start hS k0 k1 e1) ?_
  refine x_iconst 0 dX4_difference_5 (by decide) ?_
  refine y_istore 0 rfl [(4, .int 0), (0, .ref v0), (1, .ref v1), (2, .int v2), (3, .int v3)] dX4_difference_6 (by show _ < 5; decide) rfl ?_
  refine x_lv (lv' := [(0, .ref v0), (1, .ref v1), (2, .int v2), (3, .int v3), (4, .int 0)]) [1, 2, 3, 4, 0] rfl ?_
  exact t_X4_difference_8 hS F k0 k1 h

theorem dX4_settle_0 : decode cX4_settle 0 = .ok (.aload_n 0, 1) := by decide +kernel
theorem dX4_settle_1 : decode cX4_settle 1 = .ok (.aload_n 1, 1) := by decide +kernel
theorem dX4_settle_2 : decode cX4_settle 2 = .ok (.invokevirtual 25, 3) := by decide +kernel
theorem dX4_settle_5 : decode cX4_settle 5 = .ok (.iconst 0, 1) := by decide +kernel
theorem dX4_settle_6 : decode cX4_settle 6 = .ok (.istore_n 2, 1) := by decide +kernel
theorem dX4_settle_7 : decode cX4_settle 7 = .ok (.iload_n 2, 1) := by decide +kernel
theorem dX4_settle_8 : decode cX4_settle 8 = .ok (.bipush 64, 2) := by decide +kernel
theorem dX4_settle_10 : decode cX4_settle 10 = .ok (.if_icmp .gt 18, 3) := by decide +kernel
theorem dX4_settle_13 : decode cX4_settle 13 = .ok (.aload_n 0, 1) := by decide +kernel
theorem dX4_settle_14 : decode cX4_settle 14 = .ok (.aload_n 1, 1) := by decide +kernel
theorem dX4_settle_15 : decode cX4_settle 15 = .ok (.invokevirtual 29, 3) := by decide +kernel
theorem dX4_settle_18 : decode cX4_settle 18 = .ok (.ifCond .ne 4, 3) := by decide +kernel
theorem dX4_settle_21 : decode cX4_settle 21 = .ok (.return_, 1) := by decide +kernel
theorem dX4_settle_22 : decode cX4_settle 22 = .ok (.iinc 2 1, 3) := by decide +kernel
theorem dX4_settle_25 : decode cX4_settle 25 = .ok (.goto (-18), 3) := by decide +kernel
theorem dX4_settle_28 : decode cX4_settle 28 = .ok (.return_, 1) := by decide +kernel
def f_X4_settle_7s (F P : Nat) (S : xSt) (rec_7 : Nat → Nat → Int32 → xDt → Option (xDt)) (v0 : Nat) (v1 : Nat) (v2 : Int32) (D : xDt) : Option (xDt) :=
  if 64 < v2 then (some D) else ((f_X4_refine F P S v0 v1 D).bind fun q1 => if q1.1 = 0 then (some q1.2) else (xlet (v2 + 1) fun v2_2 => rec_7 v0 v1 v2_2 q1.2))
def f_X4_settle_7 (F P : Nat) (S : xSt) : Nat → Nat → Nat → Int32 → xDt → Option (xDt)
  | 0 => fun _ _ _ _ => none
  | n + 1 => f_X4_settle_7s F P S (f_X4_settle_7 F P S n)
set_option maxHeartbeats 4000000 in
theorem t_X4_settle_7s {F P : Nat} {S : xSt} (hS : xWF S) {rec_7 : Nat → Nat → Int32 → xDt → Option (xDt)} (hrec_7 : ∀ {v0 : Nat} {v1 : Nat} {v2 : Int32} {D : xDt} {r : xDt}, xK S v0 4 → xK S v1 10 → rec_7 v0 v1 v2 D = some r → yEx md_X4_settle 4 7 [(0, .ref v0), (1, .ref v1), (2, .int v2)] [] S D (xQv S r)) {v0 : Nat} {v1 : Nat} {v2 : Int32} {D : xDt} {r : xDt} (k0 : xK S v0 4) (k1 : xK S v1 10) (h : f_X4_settle_7s F P S rec_7 v0 v1 v2 D = some r) : yEx md_X4_settle 4 7 [(0, .ref v0), (1, .ref v1), (2, .int v2)] [] S D (xQv S r) := by
  unfold f_X4_settle_7s at h
  refine x_iload_n dX4_settle_7 2 rfl ?_
  refine x_bipush 64 dX4_settle_8 (by decide) ?_
  refine x_icmp_gt 28 dX4_settle_10 (by decide) (fun c => ?_) (fun c => ?_)
  · rw [if_pos c] at h
    obtain rfl := Option.some.inj h
    exact y_vret rfl dX4_settle_28
  · rw [if_neg c] at h
    refine x_aload_n dX4_settle_13 0 rfl ?_
    refine x_aload_n dX4_settle_14 1 rfl ?_
    refine xbnd_e h (fun q1 e1 h => ?_)
    refine y_callVi (As := [.ref v1]) (q := q1) cv_RX4_29 dX4_settle_15 k0 rfl (Nat.le_of_ble_eq_true rfl) (by omega) (S_X4_refine hS k0 k1 e1) ?_
    refine x_if_ne 22 dX4_settle_18 (by decide) (fun c => ?_) (fun c => ?_)
    · rw [if_neg c] at h
      refine xlet_e h (fun v2_2 ev2_2 h => ?_)
      refine y_iinc v2_2 ev2_2 (by decide) [(2, .int v2_2), (0, .ref v0), (1, .ref v1)] dX4_settle_22 2 rfl (by show _ < 3; decide) rfl ?_
      refine x_goto 7 dX4_settle_25 (by decide) ?_
      refine x_lv (lv' := [(0, .ref v0), (1, .ref v1), (2, .int v2_2)]) [1, 2, 0] rfl ?_
      exact hrec_7 k0 k1 h
    · rw [if_pos c] at h
      obtain rfl := Option.some.inj h
      exact y_vret rfl dX4_settle_21
theorem t_X4_settle_7 {F P : Nat} {S : xSt} (hS : xWF S) : ∀ (n : Nat) {v0 : Nat} {v1 : Nat} {v2 : Int32} {D : xDt} {r : xDt}, xK S v0 4 → xK S v1 10 → f_X4_settle_7 F P S n v0 v1 v2 D = some r → yEx md_X4_settle 4 7 [(0, .ref v0), (1, .ref v1), (2, .int v2)] [] S D (xQv S r) := by
  intro n
  induction n with
  | zero => intros; rename_i h; cases h
  | succ n ih =>
    intro v0 v1 v2 D r k0 k1 h
    exact t_X4_settle_7s hS (fun k0 k1 h => ih k0 k1 h) k0 k1 h

def f_X4_settle (F P : Nat) (S : xSt) (v0 : Nat) (v1 : Nat) (D : xDt) : Option (xDt) :=
  (f_X4_start F P S v0 v1 D).bind fun q1 => f_X4_settle_7 F P S F v0 v1 0 q1
set_option maxHeartbeats 4000000 in
theorem S_X4_settle {F P : Nat} {S : xSt} (hS : xWF S) {v0 : Nat} {v1 : Nat} {D : xDt} {r : xDt} (k0 : xK S v0 4) (k1 : xK S v1 10) (h : f_X4_settle F P S v0 v1 D = some r) : xSp md_X4_settle (4, 0, 0) [.ref v0, .ref v1] (S, D) (xQv S r) := by
  unfold f_X4_settle at h
  refine xEntry (by decide) (Nat.le_of_ble_eq_true rfl) ?_
  refine x_lv (lv' := [(0, .ref v0), (1, .ref v1)]) [0, 1] rfl ?_
  refine x_aload_n dX4_settle_0 0 rfl ?_
  refine x_aload_n dX4_settle_1 1 rfl ?_
  refine xbnd_e h (fun q1 e1 h => ?_)
  refine y_callVv (As := [.ref v1]) (q := q1) cv_RX4_25 dX4_settle_2 k0 rfl (Nat.le_of_ble_eq_true rfl) (by omega) (S_X4_start hS k0 k1 e1) ?_
  refine x_iconst 0 dX4_settle_5 (by decide) ?_
  refine y_istore_n 0 rfl [(2, .int 0), (0, .ref v0), (1, .ref v1)] dX4_settle_6 (by show _ < 3; decide) rfl ?_
  refine x_lv (lv' := [(0, .ref v0), (1, .ref v1), (2, .int 0)]) [1, 2, 0] rfl ?_
  exact t_X4_settle_7 hS F k0 k1 h

theorem dX4_firsts_0 : decode cX4_firsts 0 = .ok (.lconst 0, 1) := by decide +kernel
theorem dX4_firsts_1 : decode cX4_firsts 1 = .ok (.lstore_n 2, 1) := by decide +kernel
theorem dX4_firsts_2 : decode cX4_firsts 2 = .ok (.iconst 0, 1) := by decide +kernel
theorem dX4_firsts_3 : decode cX4_firsts 3 = .ok (.istore 4, 2) := by decide +kernel
theorem dX4_firsts_5 : decode cX4_firsts 5 = .ok (.iload 4, 2) := by decide +kernel
theorem dX4_firsts_7 : decode cX4_firsts 7 = .ok (.aload_n 1, 1) := by decide +kernel
theorem dX4_firsts_8 : decode cX4_firsts 8 = .ok (.getfield 33, 3) := by decide +kernel
theorem dX4_firsts_11 : decode cX4_firsts 11 = .ok (.if_icmp .ge 21, 3) := by decide +kernel
theorem dX4_firsts_14 : decode cX4_firsts 14 = .ok (.lload_n 2, 1) := by decide +kernel
theorem dX4_firsts_15 : decode cX4_firsts 15 = .ok (.lconst 1, 1) := by decide +kernel
theorem dX4_firsts_16 : decode cX4_firsts 16 = .ok (.aload_n 0, 1) := by decide +kernel
theorem dX4_firsts_17 : decode cX4_firsts 17 = .ok (.getfield 9, 3) := by decide +kernel
theorem dX4_firsts_20 : decode cX4_firsts 20 = .ok (.iload 4, 2) := by decide +kernel
theorem dX4_firsts_22 : decode cX4_firsts 22 = .ok (.iaload, 1) := by decide +kernel
theorem dX4_firsts_23 : decode cX4_firsts 23 = .ok (.lshl, 1) := by decide +kernel
theorem dX4_firsts_24 : decode cX4_firsts 24 = .ok (.lor, 1) := by decide +kernel
theorem dX4_firsts_25 : decode cX4_firsts 25 = .ok (.lstore_n 2, 1) := by decide +kernel
theorem dX4_firsts_26 : decode cX4_firsts 26 = .ok (.iinc 4 1, 3) := by decide +kernel
theorem dX4_firsts_29 : decode cX4_firsts 29 = .ok (.goto (-24), 3) := by decide +kernel
theorem dX4_firsts_32 : decode cX4_firsts 32 = .ok (.lload_n 2, 1) := by decide +kernel
theorem dX4_firsts_33 : decode cX4_firsts 33 = .ok (.lreturn, 1) := by decide +kernel
def f_X4_firsts_5s (F P : Nat) (S : xSt) (rec_5 : Nat → Nat → Int64 → Int32 → xDt → Option (Int64 × xDt)) (v0 : Nat) (v1 : Nat) (v2 : Int64) (v4 : Int32) (D : xDt) : Option (Int64 × xDt) :=
  if (D.1 v1 0) ≤ v4 then (some (v2, D)) else (xgrd (xin v4 (xl S (xr S v0 0))) (xlet (v2 ||| (jlshl 1 (D.1 (xr S v0 0) (v4).toNatClampNeg))) fun v2_2 => xlet (v4 + 1) fun v4_3 => rec_5 v0 v1 v2_2 v4_3 D))
def f_X4_firsts_5 (F P : Nat) (S : xSt) : Nat → Nat → Nat → Int64 → Int32 → xDt → Option (Int64 × xDt)
  | 0 => fun _ _ _ _ _ => none
  | n + 1 => f_X4_firsts_5s F P S (f_X4_firsts_5 F P S n)
set_option maxHeartbeats 4000000 in
theorem t_X4_firsts_5s {F P : Nat} {S : xSt} (hS : xWF S) {rec_5 : Nat → Nat → Int64 → Int32 → xDt → Option (Int64 × xDt)} (hrec_5 : ∀ {v0 : Nat} {v1 : Nat} {v2 : Int64} {v4 : Int32} {D : xDt} {r : Int64 × xDt}, xK S v0 4 → xK S v1 10 → rec_5 v0 v1 v2 v4 D = some r → yEx md_X4_firsts 0 5 [(0, .ref v0), (1, .ref v1), (2, .long v2), (4, .int v4)] [] S D (xQl S r)) {v0 : Nat} {v1 : Nat} {v2 : Int64} {v4 : Int32} {D : xDt} {r : Int64 × xDt} (k0 : xK S v0 4) (k1 : xK S v1 10) (h : f_X4_firsts_5s F P S rec_5 v0 v1 v2 v4 D = some r) : yEx md_X4_firsts 0 5 [(0, .ref v0), (1, .ref v1), (2, .long v2), (4, .int v4)] [] S D (xQl S r) := by
  unfold f_X4_firsts_5s at h
  refine x_iload dX4_firsts_5 3 rfl ?_
  refine x_aload_n dX4_firsts_7 1 rfl ?_
  refine y_geti fl_RX4_33 dX4_firsts_8 rfl k1 ?_
  refine x_icmp_ge 32 dX4_firsts_11 (by decide) (fun c => ?_) (fun c => ?_)
  · rw [if_pos c] at h
    refine x_lload_n dX4_firsts_32 2 rfl ?_
    obtain rfl := Option.some.inj h
    exact y_lret rfl dX4_firsts_33
  · rw [if_neg c] at h
    refine x_lload_n dX4_firsts_14 2 rfl ?_
    refine x_lconst 1 dX4_firsts_15 (by decide) ?_
    refine x_aload_n dX4_firsts_16 0 rfl ?_
    refine y_getr (kd := 100) hS fl_RX4_9 dX4_firsts_17 rfl k0 ?_
    refine x_iload dX4_firsts_20 3 rfl ?_
    refine xgrd_e h (fun g1 h => ?_)
    refine y_iald dX4_firsts_22 ((hS.f k0 0 100 rfl).2) g1 ?_
    refine x_lshl dX4_firsts_23 ?_
    refine x_lor dX4_firsts_24 ?_
    refine xlet_e h (fun v2_2 ev2_2 h => ?_)
    refine y_lstore_n v2_2 ev2_2 [(2, .long v2_2), (0, .ref v0), (1, .ref v1), (4, .int v4)] dX4_firsts_25 (by show _ < 5; decide) rfl ?_
    refine xlet_e h (fun v4_3 ev4_3 h => ?_)
    refine y_iinc v4_3 ev4_3 (by decide) [(4, .int v4_3), (2, .long v2_2), (0, .ref v0), (1, .ref v1)] dX4_firsts_26 3 rfl (by show _ < 5; decide) rfl ?_
    refine x_goto 5 dX4_firsts_29 (by decide) ?_
    refine x_lv (lv' := [(0, .ref v0), (1, .ref v1), (2, .long v2_2), (4, .int v4_3)]) [2, 3, 1, 0] rfl ?_
    exact hrec_5 k0 k1 h
theorem t_X4_firsts_5 {F P : Nat} {S : xSt} (hS : xWF S) : ∀ (n : Nat) {v0 : Nat} {v1 : Nat} {v2 : Int64} {v4 : Int32} {D : xDt} {r : Int64 × xDt}, xK S v0 4 → xK S v1 10 → f_X4_firsts_5 F P S n v0 v1 v2 v4 D = some r → yEx md_X4_firsts 0 5 [(0, .ref v0), (1, .ref v1), (2, .long v2), (4, .int v4)] [] S D (xQl S r) := by
  intro n
  induction n with
  | zero => intros; rename_i h; cases h
  | succ n ih =>
    intro v0 v1 v2 v4 D r k0 k1 h
    exact t_X4_firsts_5s hS (fun k0 k1 h => ih k0 k1 h) k0 k1 h

def f_X4_firsts (F P : Nat) (S : xSt) (v0 : Nat) (v1 : Nat) (D : xDt) : Option (Int64 × xDt) :=
  f_X4_firsts_5 F P S F v0 v1 0 0 D
set_option maxHeartbeats 4000000 in
theorem S_X4_firsts {F P : Nat} {S : xSt} (hS : xWF S) {v0 : Nat} {v1 : Nat} {D : xDt} {r : Int64 × xDt} (k0 : xK S v0 4) (k1 : xK S v1 10) (h : f_X4_firsts F P S v0 v1 D = some r) : xSp md_X4_firsts (0, 0, 0) [.ref v0, .ref v1] (S, D) (xQl S r) := by
  unfold f_X4_firsts at h
  refine xEntry (by decide) (Nat.le_of_ble_eq_true rfl) ?_
  refine x_lv (lv' := [(0, .ref v0), (1, .ref v1)]) [0, 1] rfl ?_
  refine x_lconst 0 dX4_firsts_0 (by decide) ?_
  refine y_lstore_n 0 rfl [(2, .long 0), (0, .ref v0), (1, .ref v1)] dX4_firsts_1 (by show _ < 5; decide) rfl ?_
  refine x_iconst 0 dX4_firsts_2 (by decide) ?_
  refine y_istore 0 rfl [(4, .int 0), (2, .long 0), (0, .ref v0), (1, .ref v1)] dX4_firsts_3 (by show _ < 5; decide) rfl ?_
  refine x_lv (lv' := [(0, .ref v0), (1, .ref v1), (2, .long 0), (4, .int 0)]) [2, 3, 1, 0] rfl ?_
  exact t_X4_firsts_5 hS F k0 k1 h

theorem dX10_copy_0 : decode cX10_copy 0 = .ok (.aload_n 0, 1) := by decide +kernel
theorem dX10_copy_1 : decode cX10_copy 1 = .ok (.aload_n 1, 1) := by decide +kernel
theorem dX10_copy_2 : decode cX10_copy 2 = .ok (.getfield 18, 3) := by decide +kernel
theorem dX10_copy_5 : decode cX10_copy 5 = .ok (.putfield 18, 3) := by decide +kernel
theorem dX10_copy_8 : decode cX10_copy 8 = .ok (.aload_n 1, 1) := by decide +kernel
theorem dX10_copy_9 : decode cX10_copy 9 = .ok (.getfield 9, 3) := by decide +kernel
theorem dX10_copy_12 : decode cX10_copy 12 = .ok (.iconst 0, 1) := by decide +kernel
theorem dX10_copy_13 : decode cX10_copy 13 = .ok (.aload_n 0, 1) := by decide +kernel
theorem dX10_copy_14 : decode cX10_copy 14 = .ok (.getfield 9, 3) := by decide +kernel
theorem dX10_copy_17 : decode cX10_copy 17 = .ok (.iconst 0, 1) := by decide +kernel
theorem dX10_copy_18 : decode cX10_copy 18 = .ok (.bipush 8, 2) := by decide +kernel
theorem dX10_copy_20 : decode cX10_copy 20 = .ok (.invokestatic 42, 3) := by decide +kernel
theorem dX10_copy_23 : decode cX10_copy 23 = .ok (.aload_n 1, 1) := by decide +kernel
theorem dX10_copy_24 : decode cX10_copy 24 = .ok (.getfield 15, 3) := by decide +kernel
theorem dX10_copy_27 : decode cX10_copy 27 = .ok (.iconst 0, 1) := by decide +kernel
theorem dX10_copy_28 : decode cX10_copy 28 = .ok (.aload_n 0, 1) := by decide +kernel
theorem dX10_copy_29 : decode cX10_copy 29 = .ok (.getfield 15, 3) := by decide +kernel
theorem dX10_copy_32 : decode cX10_copy 32 = .ok (.iconst 0, 1) := by decide +kernel
theorem dX10_copy_33 : decode cX10_copy 33 = .ok (.aload_n 0, 1) := by decide +kernel
theorem dX10_copy_34 : decode cX10_copy 34 = .ok (.getfield 15, 3) := by decide +kernel
theorem dX10_copy_37 : decode cX10_copy 37 = .ok (.arraylength, 1) := by decide +kernel
theorem dX10_copy_38 : decode cX10_copy 38 = .ok (.invokestatic 42, 3) := by decide +kernel
theorem dX10_copy_41 : decode cX10_copy 41 = .ok (.return_, 1) := by decide +kernel
def f_X10_copy (F P : Nat) (S : xSt) (v0 : Nat) (v1 : Nat) (D : xDt) : Option (xDt) :=
  xlet (xup D.1 v0 0 (D.1 v1 0), D.2) fun D1 => xgrd (xcpin 0 0 8 (xl S (xr S v1 1)) (xl S (xr S v0 1))) (xlet (D1.1, xcp D1.2 (xr S v1 1) (xr S v0 1) (0 : Int32).toNatClampNeg (0 : Int32).toNatClampNeg (8 : Int32).toNatClampNeg) fun D3 => xgrd (xcpin 0 0 (Int32.ofNat (xl S (xr S v0 2))) (xl S (xr S v1 2)) (xl S (xr S v0 2))) (xlet (D3.1, xcp D3.2 (xr S v1 2) (xr S v0 2) (0 : Int32).toNatClampNeg (0 : Int32).toNatClampNeg (Int32.ofNat (xl S (xr S v0 2))).toNatClampNeg) fun D5 => some D5))
set_option maxHeartbeats 4000000 in
theorem S_X10_copy {F P : Nat} {S : xSt} (hS : xWF S) {v0 : Nat} {v1 : Nat} {D : xDt} {r : xDt} (k0 : xK S v0 10) (k1 : xK S v1 10) (h : f_X10_copy F P S v0 v1 D = some r) : xSp md_X10_copy (1, 0, 0) [.ref v0, .ref v1] (S, D) (xQv S r) := by
  unfold f_X10_copy at h
  refine xEntry (by decide) (Nat.le_of_ble_eq_true rfl) ?_
  refine x_lv (lv' := [(0, .ref v0), (1, .ref v1)]) [0, 1] rfl ?_
  refine x_aload_n dX10_copy_0 0 rfl ?_
  refine x_aload_n dX10_copy_1 1 rfl ?_
  refine y_geti fl_RX10_18 dX10_copy_2 rfl k1 ?_
  refine xlet_e h (fun D1 eD1 h => ?_)
  refine y_puti fp_RX10_18 dX10_copy_5 rfl k0 eD1 ?_
  refine x_aload_n dX10_copy_8 1 rfl ?_
  refine y_getr (kd := 101) hS fl_RX10_9 dX10_copy_9 rfl k1 ?_
  refine x_iconst 0 dX10_copy_12 (by decide) ?_
  refine x_aload_n dX10_copy_13 0 rfl ?_
  refine y_getr (kd := 101) hS fl_RX10_9 dX10_copy_14 rfl k0 ?_
  refine x_iconst 0 dX10_copy_17 (by decide) ?_
  refine x_bipush 8 dX10_copy_18 (by decide) ?_
  refine xgrd_e h (fun g2 h => ?_)
  refine xlet_e h (fun D3 eD3 h => ?_)
  refine y_copyl cp_RX10_42 dX10_copy_20 ((hS.f k1 1 101 rfl).2) ((hS.f k0 1 101 rfl).2) g2 (Nat.le_of_ble_eq_true rfl) (by omega) eD3 ?_
  refine x_aload_n dX10_copy_23 1 rfl ?_
  refine y_getr (kd := 101) hS fl_RX10_15 dX10_copy_24 rfl k1 ?_
  refine x_iconst 0 dX10_copy_27 (by decide) ?_
  refine x_aload_n dX10_copy_28 0 rfl ?_
  refine y_getr (kd := 101) hS fl_RX10_15 dX10_copy_29 rfl k0 ?_
  refine x_iconst 0 dX10_copy_32 (by decide) ?_
  refine x_aload_n dX10_copy_33 0 rfl ?_
  refine y_getr (kd := 101) hS fl_RX10_15 dX10_copy_34 rfl k0 ?_
  refine y_alen dX10_copy_37 ((hS.f k0 2 101 rfl).2) (by decide) ?_
  refine xgrd_e h (fun g4 h => ?_)
  refine xlet_e h (fun D5 eD5 h => ?_)
  refine y_copyl cp_RX10_42 dX10_copy_38 ((hS.f k1 2 101 rfl).2) ((hS.f k0 2 101 rfl).2) g4 (Nat.le_of_ble_eq_true rfl) (by omega) eD5 ?_
  obtain rfl := Option.some.inj h
  exact y_vret rfl dX10_copy_41

theorem dX5_keep_0 : decode cX5_keep 0 = .ok (.aload_n 0, 1) := by decide +kernel
theorem dX5_keep_1 : decode cX5_keep 1 = .ok (.getfield 11, 3) := by decide +kernel
theorem dX5_keep_4 : decode cX5_keep 4 = .ok (.aload_n 0, 1) := by decide +kernel
theorem dX5_keep_5 : decode cX5_keep 5 = .ok (.getfield 18, 3) := by decide +kernel
theorem dX5_keep_8 : decode cX5_keep 8 = .ok (.aaload, 1) := by decide +kernel
theorem dX5_keep_9 : decode cX5_keep 9 = .ok (.astore_n 2, 1) := by decide +kernel
theorem dX5_keep_10 : decode cX5_keep 10 = .ok (.aload_n 2, 1) := by decide +kernel
theorem dX5_keep_11 : decode cX5_keep 11 = .ok (.aload_n 1, 1) := by decide +kernel
theorem dX5_keep_12 : decode cX5_keep 12 = .ok (.invokevirtual 22, 3) := by decide +kernel
theorem dX5_keep_15 : decode cX5_keep 15 = .ok (.aload_n 0, 1) := by decide +kernel
theorem dX5_keep_16 : decode cX5_keep 16 = .ok (.aload_n 0, 1) := by decide +kernel
theorem dX5_keep_17 : decode cX5_keep 17 = .ok (.getfield 18, 3) := by decide +kernel
theorem dX5_keep_20 : decode cX5_keep 20 = .ok (.iconst 1, 1) := by decide +kernel
theorem dX5_keep_21 : decode cX5_keep 21 = .ok (.iadd, 1) := by decide +kernel
theorem dX5_keep_22 : decode cX5_keep 22 = .ok (.bipush 12, 2) := by decide +kernel
theorem dX5_keep_24 : decode cX5_keep 24 = .ok (.if_icmp .ge 12, 3) := by decide +kernel
theorem dX5_keep_27 : decode cX5_keep 27 = .ok (.aload_n 0, 1) := by decide +kernel
theorem dX5_keep_28 : decode cX5_keep 28 = .ok (.getfield 18, 3) := by decide +kernel
theorem dX5_keep_31 : decode cX5_keep 31 = .ok (.iconst 1, 1) := by decide +kernel
theorem dX5_keep_32 : decode cX5_keep 32 = .ok (.iadd, 1) := by decide +kernel
theorem dX5_keep_33 : decode cX5_keep 33 = .ok (.goto 4, 3) := by decide +kernel
theorem dX5_keep_36 : decode cX5_keep 36 = .ok (.iconst 0, 1) := by decide +kernel
theorem dX5_keep_37 : decode cX5_keep 37 = .ok (.putfield 18, 3) := by decide +kernel
theorem dX5_keep_40 : decode cX5_keep 40 = .ok (.aload_n 0, 1) := by decide +kernel
theorem dX5_keep_41 : decode cX5_keep 41 = .ok (.aload_n 0, 1) := by decide +kernel
theorem dX5_keep_42 : decode cX5_keep 42 = .ok (.getfield 26, 3) := by decide +kernel
theorem dX5_keep_45 : decode cX5_keep 45 = .ok (.iconst 1, 1) := by decide +kernel
theorem dX5_keep_46 : decode cX5_keep 46 = .ok (.iadd, 1) := by decide +kernel
theorem dX5_keep_47 : decode cX5_keep 47 = .ok (.bipush 12, 2) := by decide +kernel
theorem dX5_keep_49 : decode cX5_keep 49 = .ok (.invokestatic 29, 3) := by decide +kernel
theorem dX5_keep_52 : decode cX5_keep 52 = .ok (.putfield 26, 3) := by decide +kernel
theorem dX5_keep_55 : decode cX5_keep 55 = .ok (.aload_n 2, 1) := by decide +kernel
theorem dX5_keep_56 : decode cX5_keep 56 = .ok (.areturn, 1) := by decide +kernel
def f_X5_keep_37 (F P : Nat) (S : xSt) (v0 : Nat) (v2 : Nat) (s0 : Int32) (s1 : Nat) (D : xDt) : Option (Nat × xDt) :=
  xlet (xup D.1 s1 1 s0, D.2) fun D1 => xlet (xup D1.1 v0 2 (jmin ((D1.1 v0 2) + 1) 12), D1.2) fun D2 => some (v2, D2)
set_option maxHeartbeats 4000000 in
theorem t_X5_keep_37 {F P : Nat} {S : xSt} (hS : xWF S) {v0 : Nat} {v2 : Nat} {s0 : Int32} {s1 : Nat} {D : xDt} {r : Nat × xDt} (k0 : xK S v0 5) (k2 : xK S v2 10) (ks1 : xK S s1 5) (h : f_X5_keep_37 F P S v0 v2 s0 s1 D = some r) : yEx md_X5_keep 2 37 [(0, .ref v0), (2, .ref v2)] [.int s0, .ref s1] S D (xQr S r) := by
  unfold f_X5_keep_37 at h
  refine xlet_e h (fun D1 eD1 h => ?_)
  refine y_puti fp_RX5_18 dX5_keep_37 rfl ks1 eD1 ?_
  refine x_aload_n dX5_keep_40 0 rfl ?_
  refine x_aload_n dX5_keep_41 0 rfl ?_
  refine y_geti fl_RX5_26 dX5_keep_42 rfl k0 ?_
  refine x_iconst 1 dX5_keep_45 (by decide) ?_
  refine x_iadd dX5_keep_46 ?_
  refine x_bipush 12 dX5_keep_47 (by decide) ?_
  refine y_min mm_RX5_29 dX5_keep_49 (Nat.le_of_ble_eq_true rfl) (by omega) ?_
  refine xlet_e h (fun D2 eD2 h => ?_)
  refine y_puti fp_RX5_26 dX5_keep_52 rfl k0 eD2 ?_
  refine x_aload_n dX5_keep_55 1 rfl ?_
  obtain rfl := Option.some.inj h
  exact y_aret rfl dX5_keep_56

def f_X5_keep (F P : Nat) (S : xSt) (v0 : Nat) (v1 : Nat) (D : xDt) : Option (Nat × xDt) :=
  xgrd (xin (D.1 v0 1) (xl S (xr S v0 0))) ((f_X10_copy F P S (xr S (xr S v0 0) (D.1 v0 1).toNatClampNeg) v1 D).bind fun q2 => if 12 ≤ ((q2.1 v0 1) + 1) then (f_X5_keep_37 F P S v0 (xr S (xr S v0 0) (D.1 v0 1).toNatClampNeg) 0 v0 q2) else (f_X5_keep_37 F P S v0 (xr S (xr S v0 0) (D.1 v0 1).toNatClampNeg) ((q2.1 v0 1) + 1) v0 q2))
set_option maxHeartbeats 4000000 in
theorem S_X5_keep {F P : Nat} {S : xSt} (hS : xWF S) {v0 : Nat} {v1 : Nat} {D : xDt} {r : Nat × xDt} (k0 : xK S v0 5) (k1 : xK S v1 10) (h : f_X5_keep F P S v0 v1 D = some r) : xSp md_X5_keep (2, 0, 0) [.ref v0, .ref v1] (S, D) (xQr S r) := by
  unfold f_X5_keep at h
  refine xEntry (by decide) (Nat.le_of_ble_eq_true rfl) ?_
  refine x_lv (lv' := [(0, .ref v0), (1, .ref v1)]) [0, 1] rfl ?_
  refine x_aload_n dX5_keep_0 0 rfl ?_
  refine y_getr (kd := 210) hS fl_RX5_11 dX5_keep_1 rfl k0 ?_
  refine x_aload_n dX5_keep_4 0 rfl ?_
  refine y_geti fl_RX5_18 dX5_keep_5 rfl k0 ?_
  refine xgrd_e h (fun g1 h => ?_)
  refine y_aald hS dX5_keep_8 ((hS.f k0 0 210 rfl).2) (by decide) g1 ?_
  refine x_astore_n [(2, .ref (xr S (xr S v0 0) (D.1 v0 1).toNatClampNeg)), (0, .ref v0), (1, .ref v1)] dX5_keep_9 (by show _ < 3; decide) rfl ?_
  refine x_aload_n dX5_keep_10 0 rfl ?_
  refine x_aload_n dX5_keep_11 2 rfl ?_
  refine xbnd_e h (fun q2 e2 h => ?_)
  refine y_callVv (As := [.ref v1]) (q := q2) cv_RX5_22 dX5_keep_12 ((hS.e ((hS.f k0 0 210 rfl).2) (by decide) (xin_lt g1)).2) rfl (Nat.le_of_ble_eq_true rfl) (by omega) (S_X10_copy hS ((hS.e ((hS.f k0 0 210 rfl).2) (by decide) (xin_lt g1)).2) k1 e2) ?_
  refine x_aload_n dX5_keep_15 1 rfl ?_
  refine x_aload_n dX5_keep_16 1 rfl ?_
  refine y_geti fl_RX5_18 dX5_keep_17 rfl k0 ?_
  refine x_iconst 1 dX5_keep_20 (by decide) ?_
  refine x_iadd dX5_keep_21 ?_
  refine x_bipush 12 dX5_keep_22 (by decide) ?_
  refine x_icmp_ge 36 dX5_keep_24 (by decide) (fun c => ?_) (fun c => ?_)
  · rw [if_pos c] at h
    refine x_iconst 0 dX5_keep_36 (by decide) ?_
    refine x_lv (lv' := [(0, .ref v0), (2, .ref (xr S (xr S v0 0) (D.1 v0 1).toNatClampNeg))]) [1, 0] rfl ?_
    exact t_X5_keep_37 hS k0 ((hS.e ((hS.f k0 0 210 rfl).2) (by decide) (xin_lt g1)).2) k0 h
  · rw [if_neg c] at h
    refine x_aload_n dX5_keep_27 1 rfl ?_
    refine y_geti fl_RX5_18 dX5_keep_28 rfl k0 ?_
    refine x_iconst 1 dX5_keep_31 (by decide) ?_
    refine x_iadd dX5_keep_32 ?_
    refine x_goto 37 dX5_keep_33 (by decide) ?_
    refine x_lv (lv' := [(0, .ref v0), (2, .ref (xr S (xr S v0 0) (D.1 v0 1).toNatClampNeg))]) [1, 0] rfl ?_
    exact t_X5_keep_37 hS k0 ((hS.e ((hS.f k0 0 210 rfl).2) (by decide) (xin_lt g1)).2) k0 h

theorem dX5_restore_0 : decode cX5_restore 0 = .ok (.aload_n 0, 1) := by decide +kernel
theorem dX5_restore_1 : decode cX5_restore 1 = .ok (.aload_n 0, 1) := by decide +kernel
theorem dX5_restore_2 : decode cX5_restore 2 = .ok (.getfield 18, 3) := by decide +kernel
theorem dX5_restore_5 : decode cX5_restore 5 = .ok (.ifCond .le 12, 3) := by decide +kernel
theorem dX5_restore_8 : decode cX5_restore 8 = .ok (.aload_n 0, 1) := by decide +kernel
theorem dX5_restore_9 : decode cX5_restore 9 = .ok (.getfield 18, 3) := by decide +kernel
theorem dX5_restore_12 : decode cX5_restore 12 = .ok (.iconst 1, 1) := by decide +kernel
theorem dX5_restore_13 : decode cX5_restore 13 = .ok (.isub, 1) := by decide +kernel
theorem dX5_restore_14 : decode cX5_restore 14 = .ok (.goto 5, 3) := by decide +kernel
theorem dX5_restore_17 : decode cX5_restore 17 = .ok (.bipush 11, 2) := by decide +kernel
theorem dX5_restore_19 : decode cX5_restore 19 = .ok (.putfield 18, 3) := by decide +kernel
theorem dX5_restore_22 : decode cX5_restore 22 = .ok (.aload_n 0, 1) := by decide +kernel
theorem dX5_restore_23 : decode cX5_restore 23 = .ok (.dup, 1) := by decide +kernel
theorem dX5_restore_24 : decode cX5_restore 24 = .ok (.getfield 26, 3) := by decide +kernel
theorem dX5_restore_27 : decode cX5_restore 27 = .ok (.iconst 1, 1) := by decide +kernel
theorem dX5_restore_28 : decode cX5_restore 28 = .ok (.isub, 1) := by decide +kernel
theorem dX5_restore_29 : decode cX5_restore 29 = .ok (.putfield 26, 3) := by decide +kernel
theorem dX5_restore_32 : decode cX5_restore 32 = .ok (.aload_n 1, 1) := by decide +kernel
theorem dX5_restore_33 : decode cX5_restore 33 = .ok (.aload_n 0, 1) := by decide +kernel
theorem dX5_restore_34 : decode cX5_restore 34 = .ok (.getfield 11, 3) := by decide +kernel
theorem dX5_restore_37 : decode cX5_restore 37 = .ok (.aload_n 0, 1) := by decide +kernel
theorem dX5_restore_38 : decode cX5_restore 38 = .ok (.getfield 18, 3) := by decide +kernel
theorem dX5_restore_41 : decode cX5_restore 41 = .ok (.aaload, 1) := by decide +kernel
theorem dX5_restore_42 : decode cX5_restore 42 = .ok (.invokevirtual 22, 3) := by decide +kernel
theorem dX5_restore_45 : decode cX5_restore 45 = .ok (.return_, 1) := by decide +kernel
def f_X5_restore_19 (F P : Nat) (S : xSt) (v0 : Nat) (v1 : Nat) (s0 : Int32) (s1 : Nat) (D : xDt) : Option (xDt) :=
  xlet (xup D.1 s1 1 s0, D.2) fun D1 => xlet (xup D1.1 v0 2 ((D1.1 v0 2) - 1), D1.2) fun D2 => xgrd (xin (D2.1 v0 1) (xl S (xr S v0 0))) ((f_X10_copy F P S v1 (xr S (xr S v0 0) (D2.1 v0 1).toNatClampNeg) D2).bind fun q4 => some q4)
set_option maxHeartbeats 4000000 in
theorem t_X5_restore_19 {F P : Nat} {S : xSt} (hS : xWF S) {v0 : Nat} {v1 : Nat} {s0 : Int32} {s1 : Nat} {D : xDt} {r : xDt} (k0 : xK S v0 5) (k1 : xK S v1 10) (ks1 : xK S s1 5) (h : f_X5_restore_19 F P S v0 v1 s0 s1 D = some r) : yEx md_X5_restore 2 19 [(0, .ref v0), (1, .ref v1)] [.int s0, .ref s1] S D (xQv S r) := by
  unfold f_X5_restore_19 at h
  refine xlet_e h (fun D1 eD1 h => ?_)
  refine y_puti fp_RX5_18 dX5_restore_19 rfl ks1 eD1 ?_
  refine x_aload_n dX5_restore_22 0 rfl ?_
  refine x_dup dX5_restore_23 rfl ?_
  refine y_geti fl_RX5_26 dX5_restore_24 rfl k0 ?_
  refine x_iconst 1 dX5_restore_27 (by decide) ?_
  refine x_isub dX5_restore_28 ?_
  refine xlet_e h (fun D2 eD2 h => ?_)
  refine y_puti fp_RX5_26 dX5_restore_29 rfl k0 eD2 ?_
  refine x_aload_n dX5_restore_32 1 rfl ?_
  refine x_aload_n dX5_restore_33 0 rfl ?_
  refine y_getr (kd := 210) hS fl_RX5_11 dX5_restore_34 rfl k0 ?_
  refine x_aload_n dX5_restore_37 0 rfl ?_
  refine y_geti fl_RX5_18 dX5_restore_38 rfl k0 ?_
  refine xgrd_e h (fun g3 h => ?_)
  refine y_aald hS dX5_restore_41 ((hS.f k0 0 210 rfl).2) (by decide) g3 ?_
  refine xbnd_e h (fun q4 e4 h => ?_)
  refine y_callVv (As := [.ref (xr S (xr S v0 0) (D2.1 v0 1).toNatClampNeg)]) (q := q4) cv_RX5_22 dX5_restore_42 k1 rfl (Nat.le_of_ble_eq_true rfl) (by omega) (S_X10_copy hS k1 ((hS.e ((hS.f k0 0 210 rfl).2) (by decide) (xin_lt g3)).2) e4) ?_
  obtain rfl := Option.some.inj h
  exact y_vret rfl dX5_restore_45

def f_X5_restore (F P : Nat) (S : xSt) (v0 : Nat) (v1 : Nat) (D : xDt) : Option (xDt) :=
  if (D.1 v0 1) ≤ 0 then (f_X5_restore_19 F P S v0 v1 11 v0 D) else (f_X5_restore_19 F P S v0 v1 ((D.1 v0 1) - 1) v0 D)
set_option maxHeartbeats 4000000 in
theorem S_X5_restore {F P : Nat} {S : xSt} (hS : xWF S) {v0 : Nat} {v1 : Nat} {D : xDt} {r : xDt} (k0 : xK S v0 5) (k1 : xK S v1 10) (h : f_X5_restore F P S v0 v1 D = some r) : xSp md_X5_restore (2, 0, 0) [.ref v0, .ref v1] (S, D) (xQv S r) := by
  unfold f_X5_restore at h
  refine xEntry (by decide) (Nat.le_of_ble_eq_true rfl) ?_
  refine x_lv (lv' := [(0, .ref v0), (1, .ref v1)]) [0, 1] rfl ?_
  refine x_aload_n dX5_restore_0 0 rfl ?_
  refine x_aload_n dX5_restore_1 0 rfl ?_
  refine y_geti fl_RX5_18 dX5_restore_2 rfl k0 ?_
  refine x_if_le 17 dX5_restore_5 (by decide) (fun c => ?_) (fun c => ?_)
  · rw [if_pos c] at h
    refine x_bipush 11 dX5_restore_17 (by decide) ?_
    exact t_X5_restore_19 hS k0 k1 k0 h
  · rw [if_neg c] at h
    refine x_aload_n dX5_restore_8 0 rfl ?_
    refine y_geti fl_RX5_18 dX5_restore_9 rfl k0 ?_
    refine x_iconst 1 dX5_restore_12 (by decide) ?_
    refine x_isub dX5_restore_13 ?_
    refine x_goto 19 dX5_restore_14 (by decide) ?_
    exact t_X5_restore_19 hS k0 k1 k0 h

theorem dX6_isSign_0 : decode cX6_isSign 0 = .ok (.iload_n 0, 1) := by decide +kernel
theorem dX6_isSign_1 : decode cX6_isSign 1 = .ok (.bipush 32, 2) := by decide +kernel
theorem dX6_isSign_3 : decode cX6_isSign 3 = .ok (.if_icmp .lt 13, 3) := by decide +kernel
theorem dX6_isSign_6 : decode cX6_isSign 6 = .ok (.iload_n 0, 1) := by decide +kernel
theorem dX6_isSign_7 : decode cX6_isSign 7 = .ok (.bipush 126, 2) := by decide +kernel
theorem dX6_isSign_9 : decode cX6_isSign 9 = .ok (.if_icmp .gt 7, 3) := by decide +kernel
theorem dX6_isSign_12 : decode cX6_isSign 12 = .ok (.iconst 1, 1) := by decide +kernel
theorem dX6_isSign_13 : decode cX6_isSign 13 = .ok (.goto 4, 3) := by decide +kernel
theorem dX6_isSign_16 : decode cX6_isSign 16 = .ok (.iconst 0, 1) := by decide +kernel
theorem dX6_isSign_17 : decode cX6_isSign 17 = .ok (.ireturn, 1) := by decide +kernel
def f_X6_isSign_16 (F P : Nat) (S : xSt) (D : xDt) : Option (Int32 × xDt) :=
  some (0, D)
set_option maxHeartbeats 4000000 in
theorem t_X6_isSign_16 {F P : Nat} {S : xSt} (hS : xWF S) {D : xDt} {r : Int32 × xDt} (h : f_X6_isSign_16 F P S D = some r) : yEx md_X6_isSign 0 16 [] [] S D (xQi S r) := by
  unfold f_X6_isSign_16 at h
  refine x_iconst 0 dX6_isSign_16 (by decide) ?_
  obtain rfl := Option.some.inj h
  exact y_zret rfl rfl dX6_isSign_17

def f_X6_isSign (F P : Nat) (S : xSt) (v0 : Int32) (D : xDt) : Option (Int32 × xDt) :=
  if v0 < 32 then (f_X6_isSign_16 F P S D) else (if 126 < v0 then (f_X6_isSign_16 F P S D) else (some (1, D)))
set_option maxHeartbeats 4000000 in
theorem S_X6_isSign {F P : Nat} {S : xSt} (hS : xWF S) {v0 : Int32} {D : xDt} {r : Int32 × xDt} (h : f_X6_isSign F P S v0 D = some r) : xSp md_X6_isSign (0, 0, 0) [.int v0] (S, D) (xQi S r) := by
  unfold f_X6_isSign at h
  refine xEntry (by decide) (Nat.le_of_ble_eq_true rfl) ?_
  refine x_lv (lv' := [(0, .int v0)]) [0] rfl ?_
  refine x_iload_n dX6_isSign_0 0 rfl ?_
  refine x_bipush 32 dX6_isSign_1 (by decide) ?_
  refine x_icmp_lt 16 dX6_isSign_3 (by decide) (fun c => ?_) (fun c => ?_)
  · rw [if_pos c] at h
    refine x_lv (lv' := []) [] rfl ?_
    exact t_X6_isSign_16 hS h
  · rw [if_neg c] at h
    refine x_iload_n dX6_isSign_6 0 rfl ?_
    refine x_bipush 126 dX6_isSign_7 (by decide) ?_
    refine x_icmp_gt 16 dX6_isSign_9 (by decide) (fun c => ?_) (fun c => ?_)
    · rw [if_pos c] at h
      refine x_lv (lv' := []) [] rfl ?_
      exact t_X6_isSign_16 hS h
    · rw [if_neg c] at h
      refine x_iconst 1 dX6_isSign_12 (by decide) ?_
      refine x_goto 17 dX6_isSign_13 (by decide) ?_
      obtain rfl := Option.some.inj h
      exact y_zret rfl rfl dX6_isSign_17

theorem dX6_collect_0 : decode cX6_collect 0 = .ok (.iload_n 1, 1) := by decide +kernel
theorem dX6_collect_1 : decode cX6_collect 1 = .ok (.invokestatic 44, 3) := by decide +kernel
theorem dX6_collect_4 : decode cX6_collect 4 = .ok (.ifCond .eq 13, 3) := by decide +kernel
theorem dX6_collect_7 : decode cX6_collect 7 = .ok (.aload_n 0, 1) := by decide +kernel
theorem dX6_collect_8 : decode cX6_collect 8 = .ok (.getfield 48, 3) := by decide +kernel
theorem dX6_collect_11 : decode cX6_collect 11 = .ok (.sipush 200, 3) := by decide +kernel
theorem dX6_collect_14 : decode cX6_collect 14 = .ok (.if_icmp .lt 5, 3) := by decide +kernel
theorem dX6_collect_17 : decode cX6_collect 17 = .ok (.iconst (-1), 1) := by decide +kernel
theorem dX6_collect_18 : decode cX6_collect 18 = .ok (.ireturn, 1) := by decide +kernel
theorem dX6_collect_19 : decode cX6_collect 19 = .ok (.aload_n 0, 1) := by decide +kernel
theorem dX6_collect_20 : decode cX6_collect 20 = .ok (.getfield 9, 3) := by decide +kernel
theorem dX6_collect_23 : decode cX6_collect 23 = .ok (.aload_n 0, 1) := by decide +kernel
theorem dX6_collect_24 : decode cX6_collect 24 = .ok (.dup, 1) := by decide +kernel
theorem dX6_collect_25 : decode cX6_collect 25 = .ok (.getfield 48, 3) := by decide +kernel
theorem dX6_collect_28 : decode cX6_collect 28 = .ok (.dup_x1, 1) := by decide +kernel
theorem dX6_collect_29 : decode cX6_collect 29 = .ok (.iconst 1, 1) := by decide +kernel
theorem dX6_collect_30 : decode cX6_collect 30 = .ok (.iadd, 1) := by decide +kernel
theorem dX6_collect_31 : decode cX6_collect 31 = .ok (.putfield 48, 3) := by decide +kernel
theorem dX6_collect_34 : decode cX6_collect 34 = .ok (.iload_n 1, 1) := by decide +kernel
theorem dX6_collect_35 : decode cX6_collect 35 = .ok (.i2c, 1) := by decide +kernel
theorem dX6_collect_36 : decode cX6_collect 36 = .ok (.castore, 1) := by decide +kernel
theorem dX6_collect_37 : decode cX6_collect 37 = .ok (.aload_n 0, 1) := by decide +kernel
theorem dX6_collect_38 : decode cX6_collect 38 = .ok (.getfield 48, 3) := by decide +kernel
theorem dX6_collect_41 : decode cX6_collect 41 = .ok (.ireturn, 1) := by decide +kernel
def f_X6_collect (F P : Nat) (S : xSt) (v0 : Nat) (v1 : Int32) (D : xDt) : Option (Int32 × xDt) :=
  (f_X6_isSign F P S v1 D).bind fun q1 => if q1.1 = 0 then (some ((-1), q1.2)) else (if (q1.2.1 v0 1) < 200 then (xlet (xup q1.2.1 v0 1 ((q1.2.1 v0 1) + 1), q1.2.2) fun D2 => xgrd (xin (q1.2.1 v0 1) (xl S (xr S v0 0))) (xlet (xup D2.1 (xr S v0 0) (q1.2.1 v0 1).toNatClampNeg (ji2c (ji2c v1)), D2.2) fun D4 => some (D4.1 v0 1, D4))) else (some ((-1), q1.2)))
set_option maxHeartbeats 4000000 in
theorem S_X6_collect {F P : Nat} {S : xSt} (hS : xWF S) {v0 : Nat} {v1 : Int32} {D : xDt} {r : Int32 × xDt} (k0 : xK S v0 6) (h : f_X6_collect F P S v0 v1 D = some r) : xSp md_X6_collect (1, 0, 0) [.ref v0, .int v1] (S, D) (xQi S r) := by
  unfold f_X6_collect at h
  refine xEntry (by decide) (Nat.le_of_ble_eq_true rfl) ?_
  refine x_lv (lv' := [(0, .ref v0), (1, .int v1)]) [0, 1] rfl ?_
  refine x_iload_n dX6_collect_0 1 rfl ?_
  refine xbnd_e h (fun q1 e1 h => ?_)
  refine y_callSi (As := [.int v1]) (q := q1) cs_RX6_44 dX6_collect_1 rfl (Nat.le_of_ble_eq_true rfl) (by omega) (S_X6_isSign hS e1) ?_
  refine x_if_eq 17 dX6_collect_4 (by decide) (fun c => ?_) (fun c => ?_)
  · rw [if_pos c] at h
    refine x_iconst (-1) dX6_collect_17 (by decide) ?_
    obtain rfl := Option.some.inj h
    exact y_iret rfl dX6_collect_18
  · rw [if_neg c] at h
    refine x_aload_n dX6_collect_7 0 rfl ?_
    refine y_geti fl_RX6_48 dX6_collect_8 rfl k0 ?_
    refine x_sipush 200 dX6_collect_11 (by decide) ?_
    refine x_icmp_lt 19 dX6_collect_14 (by decide) (fun c => ?_) (fun c => ?_)
    · rw [if_pos c] at h
      refine x_aload_n dX6_collect_19 0 rfl ?_
      refine y_getr (kd := 102) hS fl_RX6_9 dX6_collect_20 rfl k0 ?_
      refine x_aload_n dX6_collect_23 0 rfl ?_
      refine x_dup dX6_collect_24 rfl ?_
      refine y_geti fl_RX6_48 dX6_collect_25 rfl k0 ?_
      refine x_dup_x1 dX6_collect_28 rfl rfl ?_
      refine x_iconst 1 dX6_collect_29 (by decide) ?_
      refine x_iadd dX6_collect_30 ?_
      refine xlet_e h (fun D2 eD2 h => ?_)
      refine y_puti fp_RX6_48 dX6_collect_31 rfl k0 eD2 ?_
      refine x_iload_n dX6_collect_34 1 rfl ?_
      refine x_i2c dX6_collect_35 ?_
      refine xgrd_e h (fun g3 h => ?_)
      refine xlet_e h (fun D4 eD4 h => ?_)
      refine y_cast dX6_collect_36 ((hS.f k0 0 102 rfl).2) g3 eD4 ?_
      refine x_aload_n dX6_collect_37 0 rfl ?_
      refine y_geti fl_RX6_48 dX6_collect_38 rfl k0 ?_
      obtain rfl := Option.some.inj h
      exact y_iret rfl dX6_collect_41
    · rw [if_neg c] at h
      refine x_iconst (-1) dX6_collect_17 (by decide) ?_
      obtain rfl := Option.some.inj h
      exact y_iret rfl dX6_collect_18

theorem dX6_collectFour_0 : decode cX6_collectFour 0 = .ok (.iconst 0, 1) := by decide +kernel
theorem dX6_collectFour_1 : decode cX6_collectFour 1 = .ok (.istore_n 2, 1) := by decide +kernel
theorem dX6_collectFour_2 : decode cX6_collectFour 2 = .ok (.bipush 24, 2) := by decide +kernel
theorem dX6_collectFour_4 : decode cX6_collectFour 4 = .ok (.istore_n 3, 1) := by decide +kernel
theorem dX6_collectFour_5 : decode cX6_collectFour 5 = .ok (.iload_n 3, 1) := by decide +kernel
theorem dX6_collectFour_6 : decode cX6_collectFour 6 = .ok (.ifCond .lt 46, 3) := by decide +kernel
theorem dX6_collectFour_9 : decode cX6_collectFour 9 = .ok (.iload_n 1, 1) := by decide +kernel
theorem dX6_collectFour_10 : decode cX6_collectFour 10 = .ok (.iload_n 3, 1) := by decide +kernel
theorem dX6_collectFour_11 : decode cX6_collectFour 11 = .ok (.iushr, 1) := by decide +kernel
theorem dX6_collectFour_12 : decode cX6_collectFour 12 = .ok (.sipush 255, 3) := by decide +kernel
theorem dX6_collectFour_15 : decode cX6_collectFour 15 = .ok (.iand, 1) := by decide +kernel
theorem dX6_collectFour_16 : decode cX6_collectFour 16 = .ok (.istore 4, 2) := by decide +kernel
theorem dX6_collectFour_18 : decode cX6_collectFour 18 = .ok (.iload 4, 2) := by decide +kernel
theorem dX6_collectFour_20 : decode cX6_collectFour 20 = .ok (.ifCond .eq 13, 3) := by decide +kernel
theorem dX6_collectFour_23 : decode cX6_collectFour 23 = .ok (.iload 4, 2) := by decide +kernel
theorem dX6_collectFour_25 : decode cX6_collectFour 25 = .ok (.invokestatic 44, 3) := by decide +kernel
theorem dX6_collectFour_28 : decode cX6_collectFour 28 = .ok (.ifCond .ne 5, 3) := by decide +kernel
theorem dX6_collectFour_31 : decode cX6_collectFour 31 = .ok (.iconst (-1), 1) := by decide +kernel
theorem dX6_collectFour_32 : decode cX6_collectFour 32 = .ok (.ireturn, 1) := by decide +kernel
theorem dX6_collectFour_33 : decode cX6_collectFour 33 = .ok (.iload_n 2, 1) := by decide +kernel
theorem dX6_collectFour_34 : decode cX6_collectFour 34 = .ok (.iload 4, 2) := by decide +kernel
theorem dX6_collectFour_36 : decode cX6_collectFour 36 = .ok (.ifCond .eq 7, 3) := by decide +kernel
theorem dX6_collectFour_39 : decode cX6_collectFour 39 = .ok (.iconst 1, 1) := by decide +kernel
theorem dX6_collectFour_40 : decode cX6_collectFour 40 = .ok (.goto 4, 3) := by decide +kernel
theorem dX6_collectFour_43 : decode cX6_collectFour 43 = .ok (.iconst 0, 1) := by decide +kernel
theorem dX6_collectFour_44 : decode cX6_collectFour 44 = .ok (.iadd, 1) := by decide +kernel
theorem dX6_collectFour_45 : decode cX6_collectFour 45 = .ok (.istore_n 2, 1) := by decide +kernel
theorem dX6_collectFour_46 : decode cX6_collectFour 46 = .ok (.iinc 3 (-8), 3) := by decide +kernel
theorem dX6_collectFour_49 : decode cX6_collectFour 49 = .ok (.goto (-44), 3) := by decide +kernel
theorem dX6_collectFour_52 : decode cX6_collectFour 52 = .ok (.iload_n 2, 1) := by decide +kernel
theorem dX6_collectFour_53 : decode cX6_collectFour 53 = .ok (.sipush 200, 3) := by decide +kernel
theorem dX6_collectFour_56 : decode cX6_collectFour 56 = .ok (.aload_n 0, 1) := by decide +kernel
theorem dX6_collectFour_57 : decode cX6_collectFour 57 = .ok (.getfield 48, 3) := by decide +kernel
theorem dX6_collectFour_60 : decode cX6_collectFour 60 = .ok (.isub, 1) := by decide +kernel
theorem dX6_collectFour_61 : decode cX6_collectFour 61 = .ok (.if_icmp .le 5, 3) := by decide +kernel
theorem dX6_collectFour_64 : decode cX6_collectFour 64 = .ok (.iconst (-1), 1) := by decide +kernel
theorem dX6_collectFour_65 : decode cX6_collectFour 65 = .ok (.ireturn, 1) := by decide +kernel
theorem dX6_collectFour_66 : decode cX6_collectFour 66 = .ok (.bipush 24, 2) := by decide +kernel
theorem dX6_collectFour_68 : decode cX6_collectFour 68 = .ok (.istore_n 3, 1) := by decide +kernel
theorem dX6_collectFour_69 : decode cX6_collectFour 69 = .ok (.iload_n 3, 1) := by decide +kernel
theorem dX6_collectFour_70 : decode cX6_collectFour 70 = .ok (.ifCond .lt 30, 3) := by decide +kernel
theorem dX6_collectFour_73 : decode cX6_collectFour 73 = .ok (.iload_n 1, 1) := by decide +kernel
theorem dX6_collectFour_74 : decode cX6_collectFour 74 = .ok (.iload_n 3, 1) := by decide +kernel
theorem dX6_collectFour_75 : decode cX6_collectFour 75 = .ok (.iushr, 1) := by decide +kernel
theorem dX6_collectFour_76 : decode cX6_collectFour 76 = .ok (.sipush 255, 3) := by decide +kernel
theorem dX6_collectFour_79 : decode cX6_collectFour 79 = .ok (.iand, 1) := by decide +kernel
theorem dX6_collectFour_80 : decode cX6_collectFour 80 = .ok (.istore 4, 2) := by decide +kernel
theorem dX6_collectFour_82 : decode cX6_collectFour 82 = .ok (.iload 4, 2) := by decide +kernel
theorem dX6_collectFour_84 : decode cX6_collectFour 84 = .ok (.ifCond .eq 10, 3) := by decide +kernel
theorem dX6_collectFour_87 : decode cX6_collectFour 87 = .ok (.aload_n 0, 1) := by decide +kernel
theorem dX6_collectFour_88 : decode cX6_collectFour 88 = .ok (.iload 4, 2) := by decide +kernel
theorem dX6_collectFour_90 : decode cX6_collectFour 90 = .ok (.invokevirtual 52, 3) := by decide +kernel
theorem dX6_collectFour_93 : decode cX6_collectFour 93 = .ok (.pop, 1) := by decide +kernel
theorem dX6_collectFour_94 : decode cX6_collectFour 94 = .ok (.iinc 3 (-8), 3) := by decide +kernel
theorem dX6_collectFour_97 : decode cX6_collectFour 97 = .ok (.goto (-28), 3) := by decide +kernel
theorem dX6_collectFour_100 : decode cX6_collectFour 100 = .ok (.aload_n 0, 1) := by decide +kernel
theorem dX6_collectFour_101 : decode cX6_collectFour 101 = .ok (.getfield 48, 3) := by decide +kernel
theorem dX6_collectFour_104 : decode cX6_collectFour 104 = .ok (.ireturn, 1) := by decide +kernel
def f_X6_collectFour_44 (F P : Nat) (S : xSt) (rec_5 : Nat → Int32 → Int32 → Int32 → xDt → Option (Int32 × xDt)) (v0 : Nat) (v1 : Int32) (v3 : Int32) (s0 : Int32) (s1 : Int32) (D : xDt) : Option (Int32 × xDt) :=
  xlet (s1 + s0) fun v2_1 => xlet (v3 + (-8)) fun v3_2 => rec_5 v0 v1 v2_1 v3_2 D
set_option maxHeartbeats 4000000 in
theorem t_X6_collectFour_44 {F P : Nat} {S : xSt} (hS : xWF S) {rec_5 : Nat → Int32 → Int32 → Int32 → xDt → Option (Int32 × xDt)} (hrec_5 : ∀ {v0 : Nat} {v1 : Int32} {v2 : Int32} {v3 : Int32} {D : xDt} {r : Int32 × xDt}, xK S v0 6 → rec_5 v0 v1 v2 v3 D = some r → yEx md_X6_collectFour 2 5 [(0, .ref v0), (1, .int v1), (2, .int v2), (3, .int v3)] [] S D (xQi S r)) {v0 : Nat} {v1 : Int32} {v3 : Int32} {s0 : Int32} {s1 : Int32} {D : xDt} {r : Int32 × xDt} (k0 : xK S v0 6) (h : f_X6_collectFour_44 F P S rec_5 v0 v1 v3 s0 s1 D = some r) : yEx md_X6_collectFour 2 44 [(0, .ref v0), (1, .int v1), (3, .int v3)] [.int s0, .int s1] S D (xQi S r) := by
  unfold f_X6_collectFour_44 at h
  refine x_iadd dX6_collectFour_44 ?_
  refine xlet_e h (fun v2_1 ev2_1 h => ?_)
  refine y_istore_n v2_1 ev2_1 [(2, .int v2_1), (0, .ref v0), (1, .int v1), (3, .int v3)] dX6_collectFour_45 (by show _ < 5; decide) rfl ?_
  refine xlet_e h (fun v3_2 ev3_2 h => ?_)
  refine y_iinc v3_2 ev3_2 (by decide) [(3, .int v3_2), (2, .int v2_1), (0, .ref v0), (1, .int v1)] dX6_collectFour_46 3 rfl (by show _ < 5; decide) rfl ?_
  refine x_goto 5 dX6_collectFour_49 (by decide) ?_
  refine x_lv (lv' := [(0, .ref v0), (1, .int v1), (2, .int v2_1), (3, .int v3_2)]) [2, 3, 1, 0] rfl ?_
  exact hrec_5 k0 h

def f_X6_collectFour_33 (F P : Nat) (S : xSt) (rec_5 : Nat → Int32 → Int32 → Int32 → xDt → Option (Int32 × xDt)) (v0 : Nat) (v1 : Int32) (v2 : Int32) (v3 : Int32) (v4 : Int32) (D : xDt) : Option (Int32 × xDt) :=
  if v4 = 0 then (f_X6_collectFour_44 F P S rec_5 v0 v1 v3 0 v2 D) else (f_X6_collectFour_44 F P S rec_5 v0 v1 v3 1 v2 D)
set_option maxHeartbeats 4000000 in
theorem t_X6_collectFour_33 {F P : Nat} {S : xSt} (hS : xWF S) {rec_5 : Nat → Int32 → Int32 → Int32 → xDt → Option (Int32 × xDt)} (hrec_5 : ∀ {v0 : Nat} {v1 : Int32} {v2 : Int32} {v3 : Int32} {D : xDt} {r : Int32 × xDt}, xK S v0 6 → rec_5 v0 v1 v2 v3 D = some r → yEx md_X6_collectFour 2 5 [(0, .ref v0), (1, .int v1), (2, .int v2), (3, .int v3)] [] S D (xQi S r)) {v0 : Nat} {v1 : Int32} {v2 : Int32} {v3 : Int32} {v4 : Int32} {D : xDt} {r : Int32 × xDt} (k0 : xK S v0 6) (h : f_X6_collectFour_33 F P S rec_5 v0 v1 v2 v3 v4 D = some r) : yEx md_X6_collectFour 2 33 [(0, .ref v0), (1, .int v1), (2, .int v2), (3, .int v3), (4, .int v4)] [] S D (xQi S r) := by
  unfold f_X6_collectFour_33 at h
  refine x_iload_n dX6_collectFour_33 2 rfl ?_
  refine x_iload dX6_collectFour_34 4 rfl ?_
  refine x_if_eq 43 dX6_collectFour_36 (by decide) (fun c => ?_) (fun c => ?_)
  · rw [if_pos c] at h
    refine x_iconst 0 dX6_collectFour_43 (by decide) ?_
    refine x_lv (lv' := [(0, .ref v0), (1, .int v1), (3, .int v3)]) [0, 1, 3] rfl ?_
    exact t_X6_collectFour_44 hS hrec_5 k0 h
  · rw [if_neg c] at h
    refine x_iconst 1 dX6_collectFour_39 (by decide) ?_
    refine x_goto 44 dX6_collectFour_40 (by decide) ?_
    refine x_lv (lv' := [(0, .ref v0), (1, .int v1), (3, .int v3)]) [0, 1, 3] rfl ?_
    exact t_X6_collectFour_44 hS hrec_5 k0 h

def f_X6_collectFour_94 (F P : Nat) (S : xSt) (rec_69 : Nat → Int32 → Int32 → xDt → Option (Int32 × xDt)) (v0 : Nat) (v1 : Int32) (v3 : Int32) (D : xDt) : Option (Int32 × xDt) :=
  xlet (v3 + (-8)) fun v3_1 => rec_69 v0 v1 v3_1 D
set_option maxHeartbeats 4000000 in
theorem t_X6_collectFour_94 {F P : Nat} {S : xSt} (hS : xWF S) {rec_69 : Nat → Int32 → Int32 → xDt → Option (Int32 × xDt)} (hrec_69 : ∀ {v0 : Nat} {v1 : Int32} {v3 : Int32} {D : xDt} {r : Int32 × xDt}, xK S v0 6 → rec_69 v0 v1 v3 D = some r → yEx md_X6_collectFour 2 69 [(0, .ref v0), (1, .int v1), (3, .int v3)] [] S D (xQi S r)) {v0 : Nat} {v1 : Int32} {v3 : Int32} {D : xDt} {r : Int32 × xDt} (k0 : xK S v0 6) (h : f_X6_collectFour_94 F P S rec_69 v0 v1 v3 D = some r) : yEx md_X6_collectFour 2 94 [(0, .ref v0), (1, .int v1), (3, .int v3)] [] S D (xQi S r) := by
  unfold f_X6_collectFour_94 at h
  refine xlet_e h (fun v3_1 ev3_1 h => ?_)
  refine y_iinc v3_1 ev3_1 (by decide) [(3, .int v3_1), (0, .ref v0), (1, .int v1)] dX6_collectFour_94 2 rfl (by show _ < 5; decide) rfl ?_
  refine x_goto 69 dX6_collectFour_97 (by decide) ?_
  refine x_lv (lv' := [(0, .ref v0), (1, .int v1), (3, .int v3_1)]) [1, 2, 0] rfl ?_
  exact hrec_69 k0 h

def f_X6_collectFour_69s (F P : Nat) (S : xSt) (rec_69 : Nat → Int32 → Int32 → xDt → Option (Int32 × xDt)) (v0 : Nat) (v1 : Int32) (v3 : Int32) (D : xDt) : Option (Int32 × xDt) :=
  if v3 < 0 then (some (D.1 v0 1, D)) else (xlet ((jiushr v1 v3) &&& 255) fun v4_1 => if v4_1 = 0 then (f_X6_collectFour_94 F P S rec_69 v0 v1 v3 D) else ((f_X6_collect F P S v0 v4_1 D).bind fun q2 => f_X6_collectFour_94 F P S rec_69 v0 v1 v3 q2.2))
def f_X6_collectFour_69 (F P : Nat) (S : xSt) : Nat → Nat → Int32 → Int32 → xDt → Option (Int32 × xDt)
  | 0 => fun _ _ _ _ => none
  | n + 1 => f_X6_collectFour_69s F P S (f_X6_collectFour_69 F P S n)
set_option maxHeartbeats 4000000 in
theorem t_X6_collectFour_69s {F P : Nat} {S : xSt} (hS : xWF S) {rec_69 : Nat → Int32 → Int32 → xDt → Option (Int32 × xDt)} (hrec_69 : ∀ {v0 : Nat} {v1 : Int32} {v3 : Int32} {D : xDt} {r : Int32 × xDt}, xK S v0 6 → rec_69 v0 v1 v3 D = some r → yEx md_X6_collectFour 2 69 [(0, .ref v0), (1, .int v1), (3, .int v3)] [] S D (xQi S r)) {v0 : Nat} {v1 : Int32} {v3 : Int32} {D : xDt} {r : Int32 × xDt} (k0 : xK S v0 6) (h : f_X6_collectFour_69s F P S rec_69 v0 v1 v3 D = some r) : yEx md_X6_collectFour 2 69 [(0, .ref v0), (1, .int v1), (3, .int v3)] [] S D (xQi S r) := by
  unfold f_X6_collectFour_69s at h
  refine x_iload_n dX6_collectFour_69 2 rfl ?_
  refine x_if_lt 100 dX6_collectFour_70 (by decide) (fun c => ?_) (fun c => ?_)
  · rw [if_pos c] at h
    refine x_aload_n dX6_collectFour_100 0 rfl ?_
    refine y_geti fl_RX6_48 dX6_collectFour_101 rfl k0 ?_
    obtain rfl := Option.some.inj h
    exact y_iret rfl dX6_collectFour_104
  · rw [if_neg c] at h
    refine x_iload_n dX6_collectFour_73 1 rfl ?_
    refine x_iload_n dX6_collectFour_74 2 rfl ?_
    refine x_iushr dX6_collectFour_75 ?_
    refine x_sipush 255 dX6_collectFour_76 (by decide) ?_
    refine x_iand dX6_collectFour_79 ?_
    refine xlet_e h (fun v4_1 ev4_1 h => ?_)
    refine y_istore v4_1 ev4_1 [(4, .int v4_1), (0, .ref v0), (1, .int v1), (3, .int v3)] dX6_collectFour_80 (by show _ < 5; decide) rfl ?_
    refine x_iload dX6_collectFour_82 0 rfl ?_
    refine x_if_eq 94 dX6_collectFour_84 (by decide) (fun c => ?_) (fun c => ?_)
    · rw [if_pos c] at h
      refine x_lv (lv' := [(0, .ref v0), (1, .int v1), (3, .int v3)]) [1, 2, 3] rfl ?_
      exact t_X6_collectFour_94 hS hrec_69 k0 h
    · rw [if_neg c] at h
      refine x_aload_n dX6_collectFour_87 1 rfl ?_
      refine x_iload dX6_collectFour_88 0 rfl ?_
      refine xbnd_e h (fun q2 e2 h => ?_)
      refine y_callVi (As := [.int v4_1]) (q := q2) cv_RX6_52 dX6_collectFour_90 k0 rfl (Nat.le_of_ble_eq_true rfl) (by omega) (S_X6_collect hS k0 e2) ?_
      refine x_pop dX6_collectFour_93 rfl ?_
      refine x_lv (lv' := [(0, .ref v0), (1, .int v1), (3, .int v3)]) [1, 2, 3] rfl ?_
      exact t_X6_collectFour_94 hS hrec_69 k0 h
theorem t_X6_collectFour_69 {F P : Nat} {S : xSt} (hS : xWF S) : ∀ (n : Nat) {v0 : Nat} {v1 : Int32} {v3 : Int32} {D : xDt} {r : Int32 × xDt}, xK S v0 6 → f_X6_collectFour_69 F P S n v0 v1 v3 D = some r → yEx md_X6_collectFour 2 69 [(0, .ref v0), (1, .int v1), (3, .int v3)] [] S D (xQi S r) := by
  intro n
  induction n with
  | zero => intros; rename_i h; cases h
  | succ n ih =>
    intro v0 v1 v3 D r k0 h
    exact t_X6_collectFour_69s hS (fun k0 h => ih k0 h) k0 h

def f_X6_collectFour_5s (F P : Nat) (S : xSt) (rec_5 : Nat → Int32 → Int32 → Int32 → xDt → Option (Int32 × xDt)) (v0 : Nat) (v1 : Int32) (v2 : Int32) (v3 : Int32) (D : xDt) : Option (Int32 × xDt) :=
  if v3 < 0 then (if v2 ≤ (200 - (D.1 v0 1)) then (f_X6_collectFour_69 F P S F v0 v1 24 D) else (some ((-1), D))) else (xlet ((jiushr v1 v3) &&& 255) fun v4_1 => if v4_1 = 0 then (f_X6_collectFour_33 F P S rec_5 v0 v1 v2 v3 v4_1 D) else ((f_X6_isSign F P S v4_1 D).bind fun q2 => if q2.1 = 0 then (some ((-1), q2.2)) else (f_X6_collectFour_33 F P S rec_5 v0 v1 v2 v3 v4_1 q2.2)))
def f_X6_collectFour_5 (F P : Nat) (S : xSt) : Nat → Nat → Int32 → Int32 → Int32 → xDt → Option (Int32 × xDt)
  | 0 => fun _ _ _ _ _ => none
  | n + 1 => f_X6_collectFour_5s F P S (f_X6_collectFour_5 F P S n)
set_option maxHeartbeats 4000000 in
theorem t_X6_collectFour_5s {F P : Nat} {S : xSt} (hS : xWF S) {rec_5 : Nat → Int32 → Int32 → Int32 → xDt → Option (Int32 × xDt)} (hrec_5 : ∀ {v0 : Nat} {v1 : Int32} {v2 : Int32} {v3 : Int32} {D : xDt} {r : Int32 × xDt}, xK S v0 6 → rec_5 v0 v1 v2 v3 D = some r → yEx md_X6_collectFour 2 5 [(0, .ref v0), (1, .int v1), (2, .int v2), (3, .int v3)] [] S D (xQi S r)) {v0 : Nat} {v1 : Int32} {v2 : Int32} {v3 : Int32} {D : xDt} {r : Int32 × xDt} (k0 : xK S v0 6) (h : f_X6_collectFour_5s F P S rec_5 v0 v1 v2 v3 D = some r) : yEx md_X6_collectFour 2 5 [(0, .ref v0), (1, .int v1), (2, .int v2), (3, .int v3)] [] S D (xQi S r) := by
  unfold f_X6_collectFour_5s at h
  refine x_iload_n dX6_collectFour_5 3 rfl ?_
  refine x_if_lt 52 dX6_collectFour_6 (by decide) (fun c => ?_) (fun c => ?_)
  · rw [if_pos c] at h
    refine x_iload_n dX6_collectFour_52 2 rfl ?_
    refine x_sipush 200 dX6_collectFour_53 (by decide) ?_
    refine x_aload_n dX6_collectFour_56 0 rfl ?_
    refine y_geti fl_RX6_48 dX6_collectFour_57 rfl k0 ?_
    refine x_isub dX6_collectFour_60 ?_
    refine x_icmp_le 66 dX6_collectFour_61 (by decide) (fun c => ?_) (fun c => ?_)
    · rw [if_pos c] at h
      refine x_bipush 24 dX6_collectFour_66 (by decide) ?_
      refine y_istore_n 24 rfl [(3, .int 24), (0, .ref v0), (1, .int v1), (2, .int v2)] dX6_collectFour_68 (by show _ < 5; decide) rfl ?_
      refine x_lv (lv' := [(0, .ref v0), (1, .int v1), (3, .int 24)]) [1, 2, 0] rfl ?_
      exact t_X6_collectFour_69 hS F k0 h
    · rw [if_neg c] at h
      refine x_iconst (-1) dX6_collectFour_64 (by decide) ?_
      obtain rfl := Option.some.inj h
      exact y_iret rfl dX6_collectFour_65
  · rw [if_neg c] at h
    refine x_iload_n dX6_collectFour_9 1 rfl ?_
    refine x_iload_n dX6_collectFour_10 3 rfl ?_
    refine x_iushr dX6_collectFour_11 ?_
    refine x_sipush 255 dX6_collectFour_12 (by decide) ?_
    refine x_iand dX6_collectFour_15 ?_
    refine xlet_e h (fun v4_1 ev4_1 h => ?_)
    refine y_istore v4_1 ev4_1 [(4, .int v4_1), (0, .ref v0), (1, .int v1), (2, .int v2), (3, .int v3)] dX6_collectFour_16 (by show _ < 5; decide) rfl ?_
    refine x_iload dX6_collectFour_18 0 rfl ?_
    refine x_if_eq 33 dX6_collectFour_20 (by decide) (fun c => ?_) (fun c => ?_)
    · rw [if_pos c] at h
      refine x_lv (lv' := [(0, .ref v0), (1, .int v1), (2, .int v2), (3, .int v3), (4, .int v4_1)]) [1, 2, 3, 4, 0] rfl ?_
      exact t_X6_collectFour_33 hS hrec_5 k0 h
    · rw [if_neg c] at h
      refine x_iload dX6_collectFour_23 0 rfl ?_
      refine xbnd_e h (fun q2 e2 h => ?_)
      refine y_callSi (As := [.int v4_1]) (q := q2) cs_RX6_44 dX6_collectFour_25 rfl (Nat.le_of_ble_eq_true rfl) (by omega) (S_X6_isSign hS e2) ?_
      refine x_if_ne 33 dX6_collectFour_28 (by decide) (fun c => ?_) (fun c => ?_)
      · rw [if_neg c] at h
        refine x_lv (lv' := [(0, .ref v0), (1, .int v1), (2, .int v2), (3, .int v3), (4, .int v4_1)]) [1, 2, 3, 4, 0] rfl ?_
        exact t_X6_collectFour_33 hS hrec_5 k0 h
      · rw [if_pos c] at h
        refine x_iconst (-1) dX6_collectFour_31 (by decide) ?_
        obtain rfl := Option.some.inj h
        exact y_iret rfl dX6_collectFour_32
theorem t_X6_collectFour_5 {F P : Nat} {S : xSt} (hS : xWF S) : ∀ (n : Nat) {v0 : Nat} {v1 : Int32} {v2 : Int32} {v3 : Int32} {D : xDt} {r : Int32 × xDt}, xK S v0 6 → f_X6_collectFour_5 F P S n v0 v1 v2 v3 D = some r → yEx md_X6_collectFour 2 5 [(0, .ref v0), (1, .int v1), (2, .int v2), (3, .int v3)] [] S D (xQi S r) := by
  intro n
  induction n with
  | zero => intros; rename_i h; cases h
  | succ n ih =>
    intro v0 v1 v2 v3 D r k0 h
    exact t_X6_collectFour_5s hS (fun k0 h => ih k0 h) k0 h

def f_X6_collectFour (F P : Nat) (S : xSt) (v0 : Nat) (v1 : Int32) (D : xDt) : Option (Int32 × xDt) :=
  f_X6_collectFour_5 F P S F v0 v1 0 24 D
set_option maxHeartbeats 4000000 in
theorem S_X6_collectFour {F P : Nat} {S : xSt} (hS : xWF S) {v0 : Nat} {v1 : Int32} {D : xDt} {r : Int32 × xDt} (k0 : xK S v0 6) (h : f_X6_collectFour F P S v0 v1 D = some r) : xSp md_X6_collectFour (2, 0, 0) [.ref v0, .int v1] (S, D) (xQi S r) := by
  unfold f_X6_collectFour at h
  refine xEntry (by decide) (Nat.le_of_ble_eq_true rfl) ?_
  refine x_lv (lv' := [(0, .ref v0), (1, .int v1)]) [0, 1] rfl ?_
  refine x_iconst 0 dX6_collectFour_0 (by decide) ?_
  refine y_istore_n 0 rfl [(2, .int 0), (0, .ref v0), (1, .int v1)] dX6_collectFour_1 (by show _ < 5; decide) rfl ?_
  refine x_bipush 24 dX6_collectFour_2 (by decide) ?_
  refine y_istore_n 24 rfl [(3, .int 24), (2, .int 0), (0, .ref v0), (1, .int v1)] dX6_collectFour_4 (by show _ < 5; decide) rfl ?_
  refine x_lv (lv' := [(0, .ref v0), (1, .int v1), (2, .int 0), (3, .int 24)]) [2, 3, 1, 0] rfl ?_
  exact t_X6_collectFour_5 hS F k0 h

theorem dX6_wantFirstOne_0 : decode cX6_wantFirstOne 0 = .ok (.aload_n 0, 1) := by decide +kernel
theorem dX6_wantFirstOne_1 : decode cX6_wantFirstOne 1 = .ok (.iconst 0, 1) := by decide +kernel
theorem dX6_wantFirstOne_2 : decode cX6_wantFirstOne 2 = .ok (.putfield 89, 3) := by decide +kernel
theorem dX6_wantFirstOne_5 : decode cX6_wantFirstOne 5 = .ok (.aload_n 0, 1) := by decide +kernel
theorem dX6_wantFirstOne_6 : decode cX6_wantFirstOne 6 = .ok (.iconst 1, 1) := by decide +kernel
theorem dX6_wantFirstOne_7 : decode cX6_wantFirstOne 7 = .ok (.putfield 78, 3) := by decide +kernel
theorem dX6_wantFirstOne_10 : decode cX6_wantFirstOne 10 = .ok (.return_, 1) := by decide +kernel
def f_X6_wantFirstOne (F P : Nat) (S : xSt) (v0 : Nat) (D : xDt) : Option (xDt) :=
  xlet (xup D.1 v0 10 0, D.2) fun D1 => xlet (xup D1.1 v0 11 1, D1.2) fun D2 => some D2
set_option maxHeartbeats 4000000 in
theorem S_X6_wantFirstOne {F P : Nat} {S : xSt} (hS : xWF S) {v0 : Nat} {D : xDt} {r : xDt} (k0 : xK S v0 6) (h : f_X6_wantFirstOne F P S v0 D = some r) : xSp md_X6_wantFirstOne (0, 0, 0) [.ref v0] (S, D) (xQv S r) := by
  unfold f_X6_wantFirstOne at h
  refine xEntry (by decide) (Nat.le_of_ble_eq_true rfl) ?_
  refine x_lv (lv' := [(0, .ref v0)]) [0] rfl ?_
  refine x_aload_n dX6_wantFirstOne_0 0 rfl ?_
  refine x_iconst 0 dX6_wantFirstOne_1 (by decide) ?_
  refine xlet_e h (fun D1 eD1 h => ?_)
  refine y_puti fp_RX6_89 dX6_wantFirstOne_2 rfl k0 eD1 ?_
  refine x_aload_n dX6_wantFirstOne_5 0 rfl ?_
  refine x_iconst 1 dX6_wantFirstOne_6 (by decide) ?_
  refine xlet_e h (fun D2 eD2 h => ?_)
  refine y_putz rfl fp_RX6_78 dX6_wantFirstOne_7 rfl k0 eD2 ?_
  obtain rfl := Option.some.inj h
  exact y_vret rfl dX6_wantFirstOne_10

theorem dX6_enter_0 : decode cX6_enter 0 = .ok (.aload_n 0, 1) := by decide +kernel
theorem dX6_enter_1 : decode cX6_enter 1 = .ok (.dup, 1) := by decide +kernel
theorem dX6_enter_2 : decode cX6_enter 2 = .ok (.getfield 57, 3) := by decide +kernel
theorem dX6_enter_5 : decode cX6_enter 5 = .ok (.iconst 1, 1) := by decide +kernel
theorem dX6_enter_6 : decode cX6_enter 6 = .ok (.iadd, 1) := by decide +kernel
theorem dX6_enter_7 : decode cX6_enter 7 = .ok (.putfield 57, 3) := by decide +kernel
theorem dX6_enter_10 : decode cX6_enter 10 = .ok (.aload_n 0, 1) := by decide +kernel
theorem dX6_enter_11 : decode cX6_enter 11 = .ok (.getfield 24, 3) := by decide +kernel
theorem dX6_enter_14 : decode cX6_enter 14 = .ok (.aload_n 0, 1) := by decide +kernel
theorem dX6_enter_15 : decode cX6_enter 15 = .ok (.getfield 57, 3) := by decide +kernel
theorem dX6_enter_18 : decode cX6_enter 18 = .ok (.iload_n 1, 1) := by decide +kernel
theorem dX6_enter_19 : decode cX6_enter 19 = .ok (.castore, 1) := by decide +kernel
theorem dX6_enter_20 : decode cX6_enter 20 = .ok (.aload_n 0, 1) := by decide +kernel
theorem dX6_enter_21 : decode cX6_enter 21 = .ok (.getfield 37, 3) := by decide +kernel
theorem dX6_enter_24 : decode cX6_enter 24 = .ok (.aload_n 0, 1) := by decide +kernel
theorem dX6_enter_25 : decode cX6_enter 25 = .ok (.getfield 57, 3) := by decide +kernel
theorem dX6_enter_28 : decode cX6_enter 28 = .ok (.aload_n 0, 1) := by decide +kernel
theorem dX6_enter_29 : decode cX6_enter 29 = .ok (.getfield 89, 3) := by decide +kernel
theorem dX6_enter_32 : decode cX6_enter 32 = .ok (.iastore, 1) := by decide +kernel
theorem dX6_enter_33 : decode cX6_enter 33 = .ok (.aload_n 0, 1) := by decide +kernel
theorem dX6_enter_34 : decode cX6_enter 34 = .ok (.getfield 40, 3) := by decide +kernel
theorem dX6_enter_37 : decode cX6_enter 37 = .ok (.aload_n 0, 1) := by decide +kernel
theorem dX6_enter_38 : decode cX6_enter 38 = .ok (.getfield 57, 3) := by decide +kernel
theorem dX6_enter_41 : decode cX6_enter 41 = .ok (.iconst 0, 1) := by decide +kernel
theorem dX6_enter_42 : decode cX6_enter 42 = .ok (.bastore, 1) := by decide +kernel
theorem dX6_enter_43 : decode cX6_enter 43 = .ok (.aload_n 0, 1) := by decide +kernel
theorem dX6_enter_44 : decode cX6_enter 44 = .ok (.getfield 27, 3) := by decide +kernel
theorem dX6_enter_47 : decode cX6_enter 47 = .ok (.aload_n 0, 1) := by decide +kernel
theorem dX6_enter_48 : decode cX6_enter 48 = .ok (.getfield 57, 3) := by decide +kernel
theorem dX6_enter_51 : decode cX6_enter 51 = .ok (.aload_n 0, 1) := by decide +kernel
theorem dX6_enter_52 : decode cX6_enter 52 = .ok (.getfield 20, 3) := by decide +kernel
theorem dX6_enter_55 : decode cX6_enter 55 = .ok (.getfield 56, 3) := by decide +kernel
theorem dX6_enter_58 : decode cX6_enter 58 = .ok (.iastore, 1) := by decide +kernel
theorem dX6_enter_59 : decode cX6_enter 59 = .ok (.aload_n 0, 1) := by decide +kernel
theorem dX6_enter_60 : decode cX6_enter 60 = .ok (.getfield 31, 3) := by decide +kernel
theorem dX6_enter_63 : decode cX6_enter 63 = .ok (.aload_n 0, 1) := by decide +kernel
theorem dX6_enter_64 : decode cX6_enter 64 = .ok (.getfield 57, 3) := by decide +kernel
theorem dX6_enter_67 : decode cX6_enter 67 = .ok (.aload_n 0, 1) := by decide +kernel
theorem dX6_enter_68 : decode cX6_enter 68 = .ok (.getfield 20, 3) := by decide +kernel
theorem dX6_enter_71 : decode cX6_enter 71 = .ok (.getfield 56, 3) := by decide +kernel
theorem dX6_enter_74 : decode cX6_enter 74 = .ok (.iastore, 1) := by decide +kernel
theorem dX6_enter_75 : decode cX6_enter 75 = .ok (.aload_n 0, 1) := by decide +kernel
theorem dX6_enter_76 : decode cX6_enter 76 = .ok (.getfield 34, 3) := by decide +kernel
theorem dX6_enter_79 : decode cX6_enter 79 = .ok (.aload_n 0, 1) := by decide +kernel
theorem dX6_enter_80 : decode cX6_enter 80 = .ok (.getfield 57, 3) := by decide +kernel
theorem dX6_enter_83 : decode cX6_enter 83 = .ok (.aload_n 0, 1) := by decide +kernel
theorem dX6_enter_84 : decode cX6_enter 84 = .ok (.getfield 20, 3) := by decide +kernel
theorem dX6_enter_87 : decode cX6_enter 87 = .ok (.getfield 56, 3) := by decide +kernel
theorem dX6_enter_90 : decode cX6_enter 90 = .ok (.iastore, 1) := by decide +kernel
theorem dX6_enter_91 : decode cX6_enter 91 = .ok (.aload_n 0, 1) := by decide +kernel
theorem dX6_enter_92 : decode cX6_enter 92 = .ok (.invokevirtual 111, 3) := by decide +kernel
theorem dX6_enter_95 : decode cX6_enter 95 = .ok (.return_, 1) := by decide +kernel
def f_X6_enter (F P : Nat) (S : xSt) (v0 : Nat) (v1 : Int32) (D : xDt) : Option (xDt) :=
  xlet (xup D.1 v0 9 ((D.1 v0 9) + 1), D.2) fun D1 => xgrd (xin (D1.1 v0 9) (xl S (xr S v0 3))) (xlet (xup D1.1 (xr S v0 3) (D1.1 v0 9).toNatClampNeg (ji2c v1), D1.2) fun D3 => xgrd (xin (D3.1 v0 9) (xl S (xr S v0 7))) (xlet (xup D3.1 (xr S v0 7) (D3.1 v0 9).toNatClampNeg (D3.1 v0 10), D3.2) fun D5 => xgrd (xin (D5.1 v0 9) (xl S (xr S v0 8))) (xlet (xup D5.1 (xr S v0 8) (D5.1 v0 9).toNatClampNeg (0 &&& 1), D5.2) fun D7 => xgrd (xin (D7.1 v0 9) (xl S (xr S v0 4))) (xlet (xup D7.1 (xr S v0 4) (D7.1 v0 9).toNatClampNeg (D7.1 (xr S v0 2) 1), D7.2) fun D9 => xgrd (xin (D9.1 v0 9) (xl S (xr S v0 5))) (xlet (xup D9.1 (xr S v0 5) (D9.1 v0 9).toNatClampNeg (D9.1 (xr S v0 2) 1), D9.2) fun D11 => xgrd (xin (D11.1 v0 9) (xl S (xr S v0 6))) (xlet (xup D11.1 (xr S v0 6) (D11.1 v0 9).toNatClampNeg (D11.1 (xr S v0 2) 1), D11.2) fun D13 => (f_X6_wantFirstOne F P S v0 D13).bind fun q14 => some q14))))))
set_option maxHeartbeats 4000000 in
theorem S_X6_enter {F P : Nat} {S : xSt} (hS : xWF S) {v0 : Nat} {v1 : Int32} {D : xDt} {r : xDt} (k0 : xK S v0 6) (h : f_X6_enter F P S v0 v1 D = some r) : xSp md_X6_enter (1, 0, 0) [.ref v0, .int v1] (S, D) (xQv S r) := by
  unfold f_X6_enter at h
  refine xEntry (by decide) (Nat.le_of_ble_eq_true rfl) ?_
  refine x_lv (lv' := [(0, .ref v0), (1, .int v1)]) [0, 1] rfl ?_
  refine x_aload_n dX6_enter_0 0 rfl ?_
  refine x_dup dX6_enter_1 rfl ?_
  refine y_geti fl_RX6_57 dX6_enter_2 rfl k0 ?_
  refine x_iconst 1 dX6_enter_5 (by decide) ?_
  refine x_iadd dX6_enter_6 ?_
  refine xlet_e h (fun D1 eD1 h => ?_)
  refine y_puti fp_RX6_57 dX6_enter_7 rfl k0 eD1 ?_
  refine x_aload_n dX6_enter_10 0 rfl ?_
  refine y_getr (kd := 102) hS fl_RX6_24 dX6_enter_11 rfl k0 ?_
  refine x_aload_n dX6_enter_14 0 rfl ?_
  refine y_geti fl_RX6_57 dX6_enter_15 rfl k0 ?_
  refine x_iload_n dX6_enter_18 1 rfl ?_
  refine xgrd_e h (fun g2 h => ?_)
  refine xlet_e h (fun D3 eD3 h => ?_)
  refine y_cast dX6_enter_19 ((hS.f k0 3 102 rfl).2) g2 eD3 ?_
  refine x_aload_n dX6_enter_20 0 rfl ?_
  refine y_getr (kd := 100) hS fl_RX6_37 dX6_enter_21 rfl k0 ?_
  refine x_aload_n dX6_enter_24 0 rfl ?_
  refine y_geti fl_RX6_57 dX6_enter_25 rfl k0 ?_
  refine x_aload_n dX6_enter_28 0 rfl ?_
  refine y_geti fl_RX6_89 dX6_enter_29 rfl k0 ?_
  refine xgrd_e h (fun g4 h => ?_)
  refine xlet_e h (fun D5 eD5 h => ?_)
  refine y_iast dX6_enter_32 ((hS.f k0 7 100 rfl).2) g4 eD5 ?_
  refine x_aload_n dX6_enter_33 0 rfl ?_
  refine y_getr (kd := 104) hS fl_RX6_40 dX6_enter_34 rfl k0 ?_
  refine x_aload_n dX6_enter_37 0 rfl ?_
  refine y_geti fl_RX6_57 dX6_enter_38 rfl k0 ?_
  refine x_iconst 0 dX6_enter_41 (by decide) ?_
  refine xgrd_e h (fun g6 h => ?_)
  refine xlet_e h (fun D7 eD7 h => ?_)
  refine y_zast dX6_enter_42 ((hS.f k0 8 104 rfl).2) g6 eD7 ?_
  refine x_aload_n dX6_enter_43 0 rfl ?_
  refine y_getr (kd := 100) hS fl_RX6_27 dX6_enter_44 rfl k0 ?_
  refine x_aload_n dX6_enter_47 0 rfl ?_
  refine y_geti fl_RX6_57 dX6_enter_48 rfl k0 ?_
  refine x_aload_n dX6_enter_51 0 rfl ?_
  refine y_getr (kd := 2) hS fl_RX6_20 dX6_enter_52 rfl k0 ?_
  refine y_geti fl_RX6_56 dX6_enter_55 rfl ((hS.f k0 2 2 rfl).2) ?_
  refine xgrd_e h (fun g8 h => ?_)
  refine xlet_e h (fun D9 eD9 h => ?_)
  refine y_iast dX6_enter_58 ((hS.f k0 4 100 rfl).2) g8 eD9 ?_
  refine x_aload_n dX6_enter_59 0 rfl ?_
  refine y_getr (kd := 100) hS fl_RX6_31 dX6_enter_60 rfl k0 ?_
  refine x_aload_n dX6_enter_63 0 rfl ?_
  refine y_geti fl_RX6_57 dX6_enter_64 rfl k0 ?_
  refine x_aload_n dX6_enter_67 0 rfl ?_
  refine y_getr (kd := 2) hS fl_RX6_20 dX6_enter_68 rfl k0 ?_
  refine y_geti fl_RX6_56 dX6_enter_71 rfl ((hS.f k0 2 2 rfl).2) ?_
  refine xgrd_e h (fun g10 h => ?_)
  refine xlet_e h (fun D11 eD11 h => ?_)
  refine y_iast dX6_enter_74 ((hS.f k0 5 100 rfl).2) g10 eD11 ?_
  refine x_aload_n dX6_enter_75 0 rfl ?_
  refine y_getr (kd := 100) hS fl_RX6_34 dX6_enter_76 rfl k0 ?_
  refine x_aload_n dX6_enter_79 0 rfl ?_
  refine y_geti fl_RX6_57 dX6_enter_80 rfl k0 ?_
  refine x_aload_n dX6_enter_83 0 rfl ?_
  refine y_getr (kd := 2) hS fl_RX6_20 dX6_enter_84 rfl k0 ?_
  refine y_geti fl_RX6_56 dX6_enter_87 rfl ((hS.f k0 2 2 rfl).2) ?_
  refine xgrd_e h (fun g12 h => ?_)
  refine xlet_e h (fun D13 eD13 h => ?_)
  refine y_iast dX6_enter_90 ((hS.f k0 6 100 rfl).2) g12 eD13 ?_
  refine x_aload_n dX6_enter_91 0 rfl ?_
  refine xbnd_e h (fun q14 e14 h => ?_)
  refine y_callVv (As := []) (q := q14) cv_RX6_111 dX6_enter_92 k0 rfl (Nat.le_of_ble_eq_true rfl) (by omega) (S_X6_wantFirstOne hS k0 e14) ?_
  obtain rfl := Option.some.inj h
  exact y_vret rfl dX6_enter_95

theorem dX6_toSign_0 : decode cX6_toSign 0 = .ok (.aload_n 0, 1) := by decide +kernel
theorem dX6_toSign_1 : decode cX6_toSign 1 = .ok (.iload_n 1, 1) := by decide +kernel
theorem dX6_toSign_2 : decode cX6_toSign 2 = .ok (.putfield 71, 3) := by decide +kernel
theorem dX6_toSign_5 : decode cX6_toSign 5 = .ok (.aload_n 0, 1) := by decide +kernel
theorem dX6_toSign_6 : decode cX6_toSign 6 = .ok (.getfield 71, 3) := by decide +kernel
theorem dX6_toSign_9 : decode cX6_toSign 9 = .ok (.aload_n 0, 1) := by decide +kernel
theorem dX6_toSign_10 : decode cX6_toSign 10 = .ok (.getfield 48, 3) := by decide +kernel
theorem dX6_toSign_13 : decode cX6_toSign 13 = .ok (.if_icmp .ge 30, 3) := by decide +kernel
theorem dX6_toSign_16 : decode cX6_toSign 16 = .ok (.aload_n 0, 1) := by decide +kernel
theorem dX6_toSign_17 : decode cX6_toSign 17 = .ok (.getfield 9, 3) := by decide +kernel
theorem dX6_toSign_20 : decode cX6_toSign 20 = .ok (.aload_n 0, 1) := by decide +kernel
theorem dX6_toSign_21 : decode cX6_toSign 21 = .ok (.getfield 71, 3) := by decide +kernel
theorem dX6_toSign_24 : decode cX6_toSign 24 = .ok (.caload, 1) := by decide +kernel
theorem dX6_toSign_25 : decode cX6_toSign 25 = .ok (.bipush 32, 2) := by decide +kernel
theorem dX6_toSign_27 : decode cX6_toSign 27 = .ok (.if_icmp .ne 16, 3) := by decide +kernel
theorem dX6_toSign_30 : decode cX6_toSign 30 = .ok (.aload_n 0, 1) := by decide +kernel
theorem dX6_toSign_31 : decode cX6_toSign 31 = .ok (.dup, 1) := by decide +kernel
theorem dX6_toSign_32 : decode cX6_toSign 32 = .ok (.getfield 71, 3) := by decide +kernel
theorem dX6_toSign_35 : decode cX6_toSign 35 = .ok (.iconst 1, 1) := by decide +kernel
theorem dX6_toSign_36 : decode cX6_toSign 36 = .ok (.iadd, 1) := by decide +kernel
theorem dX6_toSign_37 : decode cX6_toSign 37 = .ok (.putfield 71, 3) := by decide +kernel
theorem dX6_toSign_40 : decode cX6_toSign 40 = .ok (.goto (-35), 3) := by decide +kernel
theorem dX6_toSign_43 : decode cX6_toSign 43 = .ok (.return_, 1) := by decide +kernel
def f_X6_toSign_5s (F P : Nat) (S : xSt) (rec_5 : Nat → xDt → Option (xDt)) (v0 : Nat) (D : xDt) : Option (xDt) :=
  if (D.1 v0 1) ≤ (D.1 v0 12) then (some D) else (xgrd (xin (D.1 v0 12) (xl S (xr S v0 0))) (if (D.1 (xr S v0 0) (D.1 v0 12).toNatClampNeg) = 32 then (xlet (xup D.1 v0 12 ((D.1 v0 12) + 1), D.2) fun D2 => rec_5 v0 D2) else (some D)))
def f_X6_toSign_5 (F P : Nat) (S : xSt) : Nat → Nat → xDt → Option (xDt)
  | 0 => fun _ _ => none
  | n + 1 => f_X6_toSign_5s F P S (f_X6_toSign_5 F P S n)
set_option maxHeartbeats 4000000 in
theorem t_X6_toSign_5s {F P : Nat} {S : xSt} (hS : xWF S) {rec_5 : Nat → xDt → Option (xDt)} (hrec_5 : ∀ {v0 : Nat} {D : xDt} {r : xDt}, xK S v0 6 → rec_5 v0 D = some r → yEx md_X6_toSign 0 5 [(0, .ref v0)] [] S D (xQv S r)) {v0 : Nat} {D : xDt} {r : xDt} (k0 : xK S v0 6) (h : f_X6_toSign_5s F P S rec_5 v0 D = some r) : yEx md_X6_toSign 0 5 [(0, .ref v0)] [] S D (xQv S r) := by
  unfold f_X6_toSign_5s at h
  refine x_aload_n dX6_toSign_5 0 rfl ?_
  refine y_geti fl_RX6_71 dX6_toSign_6 rfl k0 ?_
  refine x_aload_n dX6_toSign_9 0 rfl ?_
  refine y_geti fl_RX6_48 dX6_toSign_10 rfl k0 ?_
  refine x_icmp_ge 43 dX6_toSign_13 (by decide) (fun c => ?_) (fun c => ?_)
  · rw [if_pos c] at h
    obtain rfl := Option.some.inj h
    exact y_vret rfl dX6_toSign_43
  · rw [if_neg c] at h
    refine x_aload_n dX6_toSign_16 0 rfl ?_
    refine y_getr (kd := 102) hS fl_RX6_9 dX6_toSign_17 rfl k0 ?_
    refine x_aload_n dX6_toSign_20 0 rfl ?_
    refine y_geti fl_RX6_71 dX6_toSign_21 rfl k0 ?_
    refine xgrd_e h (fun g1 h => ?_)
    refine y_cald dX6_toSign_24 ((hS.f k0 0 102 rfl).2) g1 ?_
    refine x_bipush 32 dX6_toSign_25 (by decide) ?_
    refine x_icmp_ne 43 dX6_toSign_27 (by decide) (fun c => ?_) (fun c => ?_)
    · rw [if_neg c] at h
      obtain rfl := Option.some.inj h
      exact y_vret rfl dX6_toSign_43
    · rw [if_pos c] at h
      refine x_aload_n dX6_toSign_30 0 rfl ?_
      refine x_dup dX6_toSign_31 rfl ?_
      refine y_geti fl_RX6_71 dX6_toSign_32 rfl k0 ?_
      refine x_iconst 1 dX6_toSign_35 (by decide) ?_
      refine x_iadd dX6_toSign_36 ?_
      refine xlet_e h (fun D2 eD2 h => ?_)
      refine y_puti fp_RX6_71 dX6_toSign_37 rfl k0 eD2 ?_
      refine x_goto 5 dX6_toSign_40 (by decide) ?_
      exact hrec_5 k0 h
theorem t_X6_toSign_5 {F P : Nat} {S : xSt} (hS : xWF S) : ∀ (n : Nat) {v0 : Nat} {D : xDt} {r : xDt}, xK S v0 6 → f_X6_toSign_5 F P S n v0 D = some r → yEx md_X6_toSign 0 5 [(0, .ref v0)] [] S D (xQv S r) := by
  intro n
  induction n with
  | zero => intros; rename_i h; cases h
  | succ n ih =>
    intro v0 D r k0 h
    exact t_X6_toSign_5s hS (fun k0 h => ih k0 h) k0 h

def f_X6_toSign (F P : Nat) (S : xSt) (v0 : Nat) (v1 : Int32) (D : xDt) : Option (xDt) :=
  xlet (xup D.1 v0 12 v1, D.2) fun D1 => f_X6_toSign_5 F P S F v0 D1
set_option maxHeartbeats 4000000 in
theorem S_X6_toSign {F P : Nat} {S : xSt} (hS : xWF S) {v0 : Nat} {v1 : Int32} {D : xDt} {r : xDt} (k0 : xK S v0 6) (h : f_X6_toSign F P S v0 v1 D = some r) : xSp md_X6_toSign (0, 0, 0) [.ref v0, .int v1] (S, D) (xQv S r) := by
  unfold f_X6_toSign at h
  refine xEntry (by decide) (Nat.le_of_ble_eq_true rfl) ?_
  refine x_lv (lv' := [(0, .ref v0), (1, .int v1)]) [0, 1] rfl ?_
  refine x_aload_n dX6_toSign_0 0 rfl ?_
  refine x_iload_n dX6_toSign_1 1 rfl ?_
  refine xlet_e h (fun D1 eD1 h => ?_)
  refine y_puti fp_RX6_71 dX6_toSign_2 rfl k0 eD1 ?_
  refine x_lv (lv' := [(0, .ref v0)]) [0] rfl ?_
  exact t_X6_toSign_5 hS F k0 h

theorem dX6_takeOpening_0 : decode cX6_takeOpening 0 = .ok (.aload_n 0, 1) := by decide +kernel
theorem dX6_takeOpening_1 : decode cX6_takeOpening 1 = .ok (.getfield 57, 3) := by decide +kernel
theorem dX6_takeOpening_4 : decode cX6_takeOpening 4 = .ok (.bipush 15, 2) := by decide +kernel
theorem dX6_takeOpening_6 : decode cX6_takeOpening 6 = .ok (.if_icmp .lt 5, 3) := by decide +kernel
theorem dX6_takeOpening_9 : decode cX6_takeOpening 9 = .ok (.iconst 0, 1) := by decide +kernel
theorem dX6_takeOpening_10 : decode cX6_takeOpening 10 = .ok (.ireturn, 1) := by decide +kernel
theorem dX6_takeOpening_11 : decode cX6_takeOpening 11 = .ok (.iload_n 1, 1) := by decide +kernel
theorem dX6_takeOpening_12 : decode cX6_takeOpening 12 = .ok (.bipush 40, 2) := by decide +kernel
theorem dX6_takeOpening_14 : decode cX6_takeOpening 14 = .ok (.if_icmp .eq 12, 3) := by decide +kernel
theorem dX6_takeOpening_17 : decode cX6_takeOpening 17 = .ok (.aload_n 0, 1) := by decide +kernel
theorem dX6_takeOpening_18 : decode cX6_takeOpening 18 = .ok (.getfield 20, 3) := by decide +kernel
theorem dX6_takeOpening_21 : decode cX6_takeOpening 21 = .ok (.iload_n 1, 1) := by decide +kernel
theorem dX6_takeOpening_22 : decode cX6_takeOpening 22 = .ok (.invokevirtual 108, 3) := by decide +kernel
theorem dX6_takeOpening_25 : decode cX6_takeOpening 25 = .ok (.pop, 1) := by decide +kernel
theorem dX6_takeOpening_26 : decode cX6_takeOpening 26 = .ok (.aload_n 0, 1) := by decide +kernel
theorem dX6_takeOpening_27 : decode cX6_takeOpening 27 = .ok (.iload_n 2, 1) := by decide +kernel
theorem dX6_takeOpening_28 : decode cX6_takeOpening 28 = .ok (.invokevirtual 60, 3) := by decide +kernel
theorem dX6_takeOpening_31 : decode cX6_takeOpening 31 = .ok (.aload_n 0, 1) := by decide +kernel
theorem dX6_takeOpening_32 : decode cX6_takeOpening 32 = .ok (.aload_n 0, 1) := by decide +kernel
theorem dX6_takeOpening_33 : decode cX6_takeOpening 33 = .ok (.getfield 71, 3) := by decide +kernel
theorem dX6_takeOpening_36 : decode cX6_takeOpening 36 = .ok (.iconst 1, 1) := by decide +kernel
theorem dX6_takeOpening_37 : decode cX6_takeOpening 37 = .ok (.iadd, 1) := by decide +kernel
theorem dX6_takeOpening_38 : decode cX6_takeOpening 38 = .ok (.invokevirtual 64, 3) := by decide +kernel
theorem dX6_takeOpening_41 : decode cX6_takeOpening 41 = .ok (.iconst 1, 1) := by decide +kernel
theorem dX6_takeOpening_42 : decode cX6_takeOpening 42 = .ok (.ireturn, 1) := by decide +kernel
def f_X6_takeOpening_26 (F P : Nat) (S : xSt) (v0 : Nat) (v2 : Int32) (D : xDt) : Option (Int32 × xDt) :=
  (f_X6_enter F P S v0 v2 D).bind fun q1 => (f_X6_toSign F P S v0 ((q1.1 v0 12) + 1) q1).bind fun q2 => some (1, q2)
set_option maxHeartbeats 4000000 in
theorem t_X6_takeOpening_26 {F P : Nat} {S : xSt} (hS : xWF S) {v0 : Nat} {v2 : Int32} {D : xDt} {r : Int32 × xDt} (k0 : xK S v0 6) (h : f_X6_takeOpening_26 F P S v0 v2 D = some r) : yEx md_X6_takeOpening 2 26 [(0, .ref v0), (2, .int v2)] [] S D (xQi S r) := by
  unfold f_X6_takeOpening_26 at h
  refine x_aload_n dX6_takeOpening_26 0 rfl ?_
  refine x_iload_n dX6_takeOpening_27 1 rfl ?_
  refine xbnd_e h (fun q1 e1 h => ?_)
  refine y_callVv (As := [.int v2]) (q := q1) cv_RX6_60 dX6_takeOpening_28 k0 rfl (Nat.le_of_ble_eq_true rfl) (by omega) (S_X6_enter hS k0 e1) ?_
  refine x_aload_n dX6_takeOpening_31 0 rfl ?_
  refine x_aload_n dX6_takeOpening_32 0 rfl ?_
  refine y_geti fl_RX6_71 dX6_takeOpening_33 rfl k0 ?_
  refine x_iconst 1 dX6_takeOpening_36 (by decide) ?_
  refine x_iadd dX6_takeOpening_37 ?_
  refine xbnd_e h (fun q2 e2 h => ?_)
  refine y_callVv (As := [.int ((q1.1 v0 12) + 1)]) (q := q2) cv_RX6_64 dX6_takeOpening_38 k0 rfl (Nat.le_of_ble_eq_true rfl) (by omega) (S_X6_toSign hS k0 e2) ?_
  refine x_iconst 1 dX6_takeOpening_41 (by decide) ?_
  obtain rfl := Option.some.inj h
  exact y_zret rfl rfl dX6_takeOpening_42

def f_X6_takeOpening (F P : Nat) (S : xSt) (v0 : Nat) (v1 : Int32) (v2 : Int32) (D : xDt) : Option (Int32 × xDt) :=
  if (D.1 v0 9) < 15 then (if v1 = 40 then (f_X6_takeOpening_26 F P S v0 v2 D) else ((f_X2_add F P S (xr S v0 2) v1 D).bind fun q1 => f_X6_takeOpening_26 F P S v0 v2 q1.2)) else (some (0, D))
set_option maxHeartbeats 4000000 in
theorem S_X6_takeOpening {F P : Nat} {S : xSt} (hS : xWF S) {v0 : Nat} {v1 : Int32} {v2 : Int32} {D : xDt} {r : Int32 × xDt} (k0 : xK S v0 6) (h : f_X6_takeOpening F P S v0 v1 v2 D = some r) : xSp md_X6_takeOpening (2, 0, 0) [.ref v0, .int v1, .int v2] (S, D) (xQi S r) := by
  unfold f_X6_takeOpening at h
  refine xEntry (by decide) (Nat.le_of_ble_eq_true rfl) ?_
  refine x_lv (lv' := [(0, .ref v0), (1, .int v1), (2, .int v2)]) [0, 1, 2] rfl ?_
  refine x_aload_n dX6_takeOpening_0 0 rfl ?_
  refine y_geti fl_RX6_57 dX6_takeOpening_1 rfl k0 ?_
  refine x_bipush 15 dX6_takeOpening_4 (by decide) ?_
  refine x_icmp_lt 11 dX6_takeOpening_6 (by decide) (fun c => ?_) (fun c => ?_)
  · rw [if_pos c] at h
    refine x_iload_n dX6_takeOpening_11 1 rfl ?_
    refine x_bipush 40 dX6_takeOpening_12 (by decide) ?_
    refine x_icmp_eq 26 dX6_takeOpening_14 (by decide) (fun c => ?_) (fun c => ?_)
    · rw [if_pos c] at h
      refine x_lv (lv' := [(0, .ref v0), (2, .int v2)]) [0, 2] rfl ?_
      exact t_X6_takeOpening_26 hS k0 h
    · rw [if_neg c] at h
      refine x_aload_n dX6_takeOpening_17 0 rfl ?_
      refine y_getr (kd := 2) hS fl_RX6_20 dX6_takeOpening_18 rfl k0 ?_
      refine x_iload_n dX6_takeOpening_21 1 rfl ?_
      refine xbnd_e h (fun q1 e1 h => ?_)
      refine y_callVi (As := [.int v1]) (q := q1) cv_RX6_108 dX6_takeOpening_22 ((hS.f k0 2 2 rfl).2) rfl (Nat.le_of_ble_eq_true rfl) (by omega) (S_X2_add hS ((hS.f k0 2 2 rfl).2) e1) ?_
      refine x_pop dX6_takeOpening_25 rfl ?_
      refine x_lv (lv' := [(0, .ref v0), (2, .int v2)]) [0, 2] rfl ?_
      exact t_X6_takeOpening_26 hS k0 h
  · rw [if_neg c] at h
    refine x_iconst 0 dX6_takeOpening_9 (by decide) ?_
    obtain rfl := Option.some.inj h
    exact y_zret rfl rfl dX6_takeOpening_10

theorem dX6_takeAgents_0 : decode cX6_takeAgents 0 = .ok (.iconst 0, 1) := by decide +kernel
theorem dX6_takeAgents_1 : decode cX6_takeAgents 1 = .ok (.istore_n 2, 1) := by decide +kernel
theorem dX6_takeAgents_2 : decode cX6_takeAgents 2 = .ok (.bipush 48, 2) := by decide +kernel
theorem dX6_takeAgents_4 : decode cX6_takeAgents 4 = .ok (.istore_n 3, 1) := by decide +kernel
theorem dX6_takeAgents_5 : decode cX6_takeAgents 5 = .ok (.iconst 0, 1) := by decide +kernel
theorem dX6_takeAgents_6 : decode cX6_takeAgents 6 = .ok (.istore 4, 2) := by decide +kernel
theorem dX6_takeAgents_8 : decode cX6_takeAgents 8 = .ok (.iload 4, 2) := by decide +kernel
theorem dX6_takeAgents_10 : decode cX6_takeAgents 10 = .ok (.iload_n 1, 1) := by decide +kernel
theorem dX6_takeAgents_11 : decode cX6_takeAgents 11 = .ok (.if_icmp .ge 76, 3) := by decide +kernel
theorem dX6_takeAgents_14 : decode cX6_takeAgents 14 = .ok (.aload_n 0, 1) := by decide +kernel
theorem dX6_takeAgents_15 : decode cX6_takeAgents 15 = .ok (.getfield 71, 3) := by decide +kernel
theorem dX6_takeAgents_18 : decode cX6_takeAgents 18 = .ok (.aload_n 0, 1) := by decide +kernel
theorem dX6_takeAgents_19 : decode cX6_takeAgents 19 = .ok (.getfield 48, 3) := by decide +kernel
theorem dX6_takeAgents_22 : decode cX6_takeAgents 22 = .ok (.if_icmp .ge 65, 3) := by decide +kernel
theorem dX6_takeAgents_25 : decode cX6_takeAgents 25 = .ok (.aload_n 0, 1) := by decide +kernel
theorem dX6_takeAgents_26 : decode cX6_takeAgents 26 = .ok (.getfield 9, 3) := by decide +kernel
theorem dX6_takeAgents_29 : decode cX6_takeAgents 29 = .ok (.aload_n 0, 1) := by decide +kernel
theorem dX6_takeAgents_30 : decode cX6_takeAgents 30 = .ok (.getfield 71, 3) := by decide +kernel
theorem dX6_takeAgents_33 : decode cX6_takeAgents 33 = .ok (.caload, 1) := by decide +kernel
theorem dX6_takeAgents_34 : decode cX6_takeAgents 34 = .ok (.iload_n 3, 1) := by decide +kernel
theorem dX6_takeAgents_35 : decode cX6_takeAgents 35 = .ok (.if_icmp .le 52, 3) := by decide +kernel
theorem dX6_takeAgents_38 : decode cX6_takeAgents 38 = .ok (.aload_n 0, 1) := by decide +kernel
theorem dX6_takeAgents_39 : decode cX6_takeAgents 39 = .ok (.getfield 9, 3) := by decide +kernel
theorem dX6_takeAgents_42 : decode cX6_takeAgents 42 = .ok (.aload_n 0, 1) := by decide +kernel
theorem dX6_takeAgents_43 : decode cX6_takeAgents 43 = .ok (.getfield 71, 3) := by decide +kernel
theorem dX6_takeAgents_46 : decode cX6_takeAgents 46 = .ok (.caload, 1) := by decide +kernel
theorem dX6_takeAgents_47 : decode cX6_takeAgents 47 = .ok (.bipush 52, 2) := by decide +kernel
theorem dX6_takeAgents_49 : decode cX6_takeAgents 49 = .ok (.if_icmp .gt 38, 3) := by decide +kernel
theorem dX6_takeAgents_52 : decode cX6_takeAgents 52 = .ok (.aload_n 0, 1) := by decide +kernel
theorem dX6_takeAgents_53 : decode cX6_takeAgents 53 = .ok (.getfield 9, 3) := by decide +kernel
theorem dX6_takeAgents_56 : decode cX6_takeAgents 56 = .ok (.aload_n 0, 1) := by decide +kernel
theorem dX6_takeAgents_57 : decode cX6_takeAgents 57 = .ok (.getfield 71, 3) := by decide +kernel
theorem dX6_takeAgents_60 : decode cX6_takeAgents 60 = .ok (.caload, 1) := by decide +kernel
theorem dX6_takeAgents_61 : decode cX6_takeAgents 61 = .ok (.istore_n 3, 1) := by decide +kernel
theorem dX6_takeAgents_62 : decode cX6_takeAgents 62 = .ok (.iload_n 2, 1) := by decide +kernel
theorem dX6_takeAgents_63 : decode cX6_takeAgents 63 = .ok (.iconst 1, 1) := by decide +kernel
theorem dX6_takeAgents_64 : decode cX6_takeAgents 64 = .ok (.iload_n 3, 1) := by decide +kernel
theorem dX6_takeAgents_65 : decode cX6_takeAgents 65 = .ok (.bipush 49, 2) := by decide +kernel
theorem dX6_takeAgents_67 : decode cX6_takeAgents 67 = .ok (.isub, 1) := by decide +kernel
theorem dX6_takeAgents_68 : decode cX6_takeAgents 68 = .ok (.ishl, 1) := by decide +kernel
theorem dX6_takeAgents_69 : decode cX6_takeAgents 69 = .ok (.ior, 1) := by decide +kernel
theorem dX6_takeAgents_70 : decode cX6_takeAgents 70 = .ok (.istore_n 2, 1) := by decide +kernel
theorem dX6_takeAgents_71 : decode cX6_takeAgents 71 = .ok (.aload_n 0, 1) := by decide +kernel
theorem dX6_takeAgents_72 : decode cX6_takeAgents 72 = .ok (.aload_n 0, 1) := by decide +kernel
theorem dX6_takeAgents_73 : decode cX6_takeAgents 73 = .ok (.getfield 71, 3) := by decide +kernel
theorem dX6_takeAgents_76 : decode cX6_takeAgents 76 = .ok (.iconst 1, 1) := by decide +kernel
theorem dX6_takeAgents_77 : decode cX6_takeAgents 77 = .ok (.iadd, 1) := by decide +kernel
theorem dX6_takeAgents_78 : decode cX6_takeAgents 78 = .ok (.invokevirtual 64, 3) := by decide +kernel
theorem dX6_takeAgents_81 : decode cX6_takeAgents 81 = .ok (.iinc 4 1, 3) := by decide +kernel
theorem dX6_takeAgents_84 : decode cX6_takeAgents 84 = .ok (.goto (-76), 3) := by decide +kernel
theorem dX6_takeAgents_87 : decode cX6_takeAgents 87 = .ok (.iload_n 2, 1) := by decide +kernel
theorem dX6_takeAgents_88 : decode cX6_takeAgents 88 = .ok (.ireturn, 1) := by decide +kernel
def f_X6_takeAgents_8s (F P : Nat) (S : xSt) (rec_8 : Nat → Int32 → Int32 → Int32 → Int32 → xDt → Option (Int32 × xDt)) (v0 : Nat) (v1 : Int32) (v2 : Int32) (v3 : Int32) (v4 : Int32) (D : xDt) : Option (Int32 × xDt) :=
  if v1 ≤ v4 then (some (v2, D)) else (if (D.1 v0 1) ≤ (D.1 v0 12) then (some (v2, D)) else (xgrd (xin (D.1 v0 12) (xl S (xr S v0 0))) (if (D.1 (xr S v0 0) (D.1 v0 12).toNatClampNeg) ≤ v3 then (some (v2, D)) else (xgrd (xin (D.1 v0 12) (xl S (xr S v0 0))) (if 52 < (D.1 (xr S v0 0) (D.1 v0 12).toNatClampNeg) then (some (v2, D)) else (xgrd (xin (D.1 v0 12) (xl S (xr S v0 0))) (xlet (D.1 (xr S v0 0) (D.1 v0 12).toNatClampNeg) fun v3_4 => xlet (v2 ||| (jishl 1 (v3_4 - 49))) fun v2_5 => (f_X6_toSign F P S v0 ((D.1 v0 12) + 1) D).bind fun q6 => xlet (v4 + 1) fun v4_7 => rec_8 v0 v1 v2_5 v3_4 v4_7 q6)))))))
def f_X6_takeAgents_8 (F P : Nat) (S : xSt) : Nat → Nat → Int32 → Int32 → Int32 → Int32 → xDt → Option (Int32 × xDt)
  | 0 => fun _ _ _ _ _ _ => none
  | n + 1 => f_X6_takeAgents_8s F P S (f_X6_takeAgents_8 F P S n)
set_option maxHeartbeats 4000000 in
theorem t_X6_takeAgents_8s {F P : Nat} {S : xSt} (hS : xWF S) {rec_8 : Nat → Int32 → Int32 → Int32 → Int32 → xDt → Option (Int32 × xDt)} (hrec_8 : ∀ {v0 : Nat} {v1 : Int32} {v2 : Int32} {v3 : Int32} {v4 : Int32} {D : xDt} {r : Int32 × xDt}, xK S v0 6 → rec_8 v0 v1 v2 v3 v4 D = some r → yEx md_X6_takeAgents 1 8 [(0, .ref v0), (1, .int v1), (2, .int v2), (3, .int v3), (4, .int v4)] [] S D (xQi S r)) {v0 : Nat} {v1 : Int32} {v2 : Int32} {v3 : Int32} {v4 : Int32} {D : xDt} {r : Int32 × xDt} (k0 : xK S v0 6) (h : f_X6_takeAgents_8s F P S rec_8 v0 v1 v2 v3 v4 D = some r) : yEx md_X6_takeAgents 1 8 [(0, .ref v0), (1, .int v1), (2, .int v2), (3, .int v3), (4, .int v4)] [] S D (xQi S r) := by
  unfold f_X6_takeAgents_8s at h
  refine x_iload dX6_takeAgents_8 4 rfl ?_
  refine x_iload_n dX6_takeAgents_10 1 rfl ?_
  refine x_icmp_ge 87 dX6_takeAgents_11 (by decide) (fun c => ?_) (fun c => ?_)
  · rw [if_pos c] at h
    refine x_iload_n dX6_takeAgents_87 2 rfl ?_
    obtain rfl := Option.some.inj h
    exact y_iret rfl dX6_takeAgents_88
  · rw [if_neg c] at h
    refine x_aload_n dX6_takeAgents_14 0 rfl ?_
    refine y_geti fl_RX6_71 dX6_takeAgents_15 rfl k0 ?_
    refine x_aload_n dX6_takeAgents_18 0 rfl ?_
    refine y_geti fl_RX6_48 dX6_takeAgents_19 rfl k0 ?_
    refine x_icmp_ge 87 dX6_takeAgents_22 (by decide) (fun c => ?_) (fun c => ?_)
    · rw [if_pos c] at h
      refine x_iload_n dX6_takeAgents_87 2 rfl ?_
      obtain rfl := Option.some.inj h
      exact y_iret rfl dX6_takeAgents_88
    · rw [if_neg c] at h
      refine x_aload_n dX6_takeAgents_25 0 rfl ?_
      refine y_getr (kd := 102) hS fl_RX6_9 dX6_takeAgents_26 rfl k0 ?_
      refine x_aload_n dX6_takeAgents_29 0 rfl ?_
      refine y_geti fl_RX6_71 dX6_takeAgents_30 rfl k0 ?_
      refine xgrd_e h (fun g1 h => ?_)
      refine y_cald dX6_takeAgents_33 ((hS.f k0 0 102 rfl).2) g1 ?_
      refine x_iload_n dX6_takeAgents_34 3 rfl ?_
      refine x_icmp_le 87 dX6_takeAgents_35 (by decide) (fun c => ?_) (fun c => ?_)
      · rw [if_pos c] at h
        refine x_iload_n dX6_takeAgents_87 2 rfl ?_
        obtain rfl := Option.some.inj h
        exact y_iret rfl dX6_takeAgents_88
      · rw [if_neg c] at h
        refine x_aload_n dX6_takeAgents_38 0 rfl ?_
        refine y_getr (kd := 102) hS fl_RX6_9 dX6_takeAgents_39 rfl k0 ?_
        refine x_aload_n dX6_takeAgents_42 0 rfl ?_
        refine y_geti fl_RX6_71 dX6_takeAgents_43 rfl k0 ?_
        refine xgrd_e h (fun g2 h => ?_)
        refine y_cald dX6_takeAgents_46 ((hS.f k0 0 102 rfl).2) g2 ?_
        refine x_bipush 52 dX6_takeAgents_47 (by decide) ?_
        refine x_icmp_gt 87 dX6_takeAgents_49 (by decide) (fun c => ?_) (fun c => ?_)
        · rw [if_pos c] at h
          refine x_iload_n dX6_takeAgents_87 2 rfl ?_
          obtain rfl := Option.some.inj h
          exact y_iret rfl dX6_takeAgents_88
        · rw [if_neg c] at h
          refine x_aload_n dX6_takeAgents_52 0 rfl ?_
          refine y_getr (kd := 102) hS fl_RX6_9 dX6_takeAgents_53 rfl k0 ?_
          refine x_aload_n dX6_takeAgents_56 0 rfl ?_
          refine y_geti fl_RX6_71 dX6_takeAgents_57 rfl k0 ?_
          refine xgrd_e h (fun g3 h => ?_)
          refine y_cald dX6_takeAgents_60 ((hS.f k0 0 102 rfl).2) g3 ?_
          refine xlet_e h (fun v3_4 ev3_4 h => ?_)
          refine y_istore_n v3_4 ev3_4 [(3, .int v3_4), (0, .ref v0), (1, .int v1), (2, .int v2), (4, .int v4)] dX6_takeAgents_61 (by show _ < 5; decide) rfl ?_
          refine x_iload_n dX6_takeAgents_62 3 rfl ?_
          refine x_iconst 1 dX6_takeAgents_63 (by decide) ?_
          refine x_iload_n dX6_takeAgents_64 0 rfl ?_
          refine x_bipush 49 dX6_takeAgents_65 (by decide) ?_
          refine x_isub dX6_takeAgents_67 ?_
          refine x_ishl dX6_takeAgents_68 ?_
          refine x_ior dX6_takeAgents_69 ?_
          refine xlet_e h (fun v2_5 ev2_5 h => ?_)
          refine y_istore_n v2_5 ev2_5 [(2, .int v2_5), (3, .int v3_4), (0, .ref v0), (1, .int v1), (4, .int v4)] dX6_takeAgents_70 (by show _ < 5; decide) rfl ?_
          refine x_aload_n dX6_takeAgents_71 2 rfl ?_
          refine x_aload_n dX6_takeAgents_72 2 rfl ?_
          refine y_geti fl_RX6_71 dX6_takeAgents_73 rfl k0 ?_
          refine x_iconst 1 dX6_takeAgents_76 (by decide) ?_
          refine x_iadd dX6_takeAgents_77 ?_
          refine xbnd_e h (fun q6 e6 h => ?_)
          refine y_callVv (As := [.int ((D.1 v0 12) + 1)]) (q := q6) cv_RX6_64 dX6_takeAgents_78 k0 rfl (Nat.le_of_ble_eq_true rfl) (by omega) (S_X6_toSign hS k0 e6) ?_
          refine xlet_e h (fun v4_7 ev4_7 h => ?_)
          refine y_iinc v4_7 ev4_7 (by decide) [(4, .int v4_7), (2, .int v2_5), (3, .int v3_4), (0, .ref v0), (1, .int v1)] dX6_takeAgents_81 4 rfl (by show _ < 5; decide) rfl ?_
          refine x_goto 8 dX6_takeAgents_84 (by decide) ?_
          refine x_lv (lv' := [(0, .ref v0), (1, .int v1), (2, .int v2_5), (3, .int v3_4), (4, .int v4_7)]) [3, 4, 1, 2, 0] rfl ?_
          exact hrec_8 k0 h
theorem t_X6_takeAgents_8 {F P : Nat} {S : xSt} (hS : xWF S) : ∀ (n : Nat) {v0 : Nat} {v1 : Int32} {v2 : Int32} {v3 : Int32} {v4 : Int32} {D : xDt} {r : Int32 × xDt}, xK S v0 6 → f_X6_takeAgents_8 F P S n v0 v1 v2 v3 v4 D = some r → yEx md_X6_takeAgents 1 8 [(0, .ref v0), (1, .int v1), (2, .int v2), (3, .int v3), (4, .int v4)] [] S D (xQi S r) := by
  intro n
  induction n with
  | zero => intros; rename_i h; cases h
  | succ n ih =>
    intro v0 v1 v2 v3 v4 D r k0 h
    exact t_X6_takeAgents_8s hS (fun k0 h => ih k0 h) k0 h

def f_X6_takeAgents (F P : Nat) (S : xSt) (v0 : Nat) (v1 : Int32) (D : xDt) : Option (Int32 × xDt) :=
  f_X6_takeAgents_8 F P S F v0 v1 0 48 0 D
set_option maxHeartbeats 4000000 in
theorem S_X6_takeAgents {F P : Nat} {S : xSt} (hS : xWF S) {v0 : Nat} {v1 : Int32} {D : xDt} {r : Int32 × xDt} (k0 : xK S v0 6) (h : f_X6_takeAgents F P S v0 v1 D = some r) : xSp md_X6_takeAgents (1, 0, 0) [.ref v0, .int v1] (S, D) (xQi S r) := by
  unfold f_X6_takeAgents at h
  refine xEntry (by decide) (Nat.le_of_ble_eq_true rfl) ?_
  refine x_lv (lv' := [(0, .ref v0), (1, .int v1)]) [0, 1] rfl ?_
  refine x_iconst 0 dX6_takeAgents_0 (by decide) ?_
  refine y_istore_n 0 rfl [(2, .int 0), (0, .ref v0), (1, .int v1)] dX6_takeAgents_1 (by show _ < 5; decide) rfl ?_
  refine x_bipush 48 dX6_takeAgents_2 (by decide) ?_
  refine y_istore_n 48 rfl [(3, .int 48), (2, .int 0), (0, .ref v0), (1, .int v1)] dX6_takeAgents_4 (by show _ < 5; decide) rfl ?_
  refine x_iconst 0 dX6_takeAgents_5 (by decide) ?_
  refine y_istore 0 rfl [(4, .int 0), (3, .int 48), (2, .int 0), (0, .ref v0), (1, .int v1)] dX6_takeAgents_6 (by show _ < 5; decide) rfl ?_
  refine x_lv (lv' := [(0, .ref v0), (1, .int v1), (2, .int 0), (3, .int 48), (4, .int 0)]) [3, 4, 2, 1, 0] rfl ?_
  exact t_X6_takeAgents_8 hS F k0 h

theorem dX6_takeKnowing_0 : decode cX6_takeKnowing 0 = .ok (.aload_n 0, 1) := by decide +kernel
theorem dX6_takeKnowing_1 : decode cX6_takeKnowing 1 = .ok (.aload_n 0, 1) := by decide +kernel
theorem dX6_takeKnowing_2 : decode cX6_takeKnowing 2 = .ok (.getfield 71, 3) := by decide +kernel
theorem dX6_takeKnowing_5 : decode cX6_takeKnowing 5 = .ok (.iconst 1, 1) := by decide +kernel
theorem dX6_takeKnowing_6 : decode cX6_takeKnowing 6 = .ok (.iadd, 1) := by decide +kernel
theorem dX6_takeKnowing_7 : decode cX6_takeKnowing 7 = .ok (.invokevirtual 64, 3) := by decide +kernel
theorem dX6_takeKnowing_10 : decode cX6_takeKnowing 10 = .ok (.aload_n 0, 1) := by decide +kernel
theorem dX6_takeKnowing_11 : decode cX6_takeKnowing 11 = .ok (.iload_n 1, 1) := by decide +kernel
theorem dX6_takeKnowing_12 : decode cX6_takeKnowing 12 = .ok (.bipush 75, 2) := by decide +kernel
theorem dX6_takeKnowing_14 : decode cX6_takeKnowing 14 = .ok (.if_icmp .eq 9, 3) := by decide +kernel
theorem dX6_takeKnowing_17 : decode cX6_takeKnowing 17 = .ok (.iload_n 1, 1) := by decide +kernel
theorem dX6_takeKnowing_18 : decode cX6_takeKnowing 18 = .ok (.bipush 80, 2) := by decide +kernel
theorem dX6_takeKnowing_20 : decode cX6_takeKnowing 20 = .ok (.if_icmp .ne 7, 3) := by decide +kernel
theorem dX6_takeKnowing_23 : decode cX6_takeKnowing 23 = .ok (.iconst 1, 1) := by decide +kernel
theorem dX6_takeKnowing_24 : decode cX6_takeKnowing 24 = .ok (.goto 4, 3) := by decide +kernel
theorem dX6_takeKnowing_27 : decode cX6_takeKnowing 27 = .ok (.iconst 4, 1) := by decide +kernel
theorem dX6_takeKnowing_28 : decode cX6_takeKnowing 28 = .ok (.invokevirtual 114, 3) := by decide +kernel
theorem dX6_takeKnowing_31 : decode cX6_takeKnowing 31 = .ok (.istore_n 2, 1) := by decide +kernel
theorem dX6_takeKnowing_32 : decode cX6_takeKnowing 32 = .ok (.iload_n 2, 1) := by decide +kernel
theorem dX6_takeKnowing_33 : decode cX6_takeKnowing 33 = .ok (.ifCond .ne 5, 3) := by decide +kernel
theorem dX6_takeKnowing_36 : decode cX6_takeKnowing 36 = .ok (.iconst 0, 1) := by decide +kernel
theorem dX6_takeKnowing_37 : decode cX6_takeKnowing 37 = .ok (.ireturn, 1) := by decide +kernel
theorem dX6_takeKnowing_38 : decode cX6_takeKnowing 38 = .ok (.aload_n 0, 1) := by decide +kernel
theorem dX6_takeKnowing_39 : decode cX6_takeKnowing 39 = .ok (.getfield 20, 3) := by decide +kernel
theorem dX6_takeKnowing_42 : decode cX6_takeKnowing 42 = .ok (.iload_n 1, 1) := by decide +kernel
theorem dX6_takeKnowing_43 : decode cX6_takeKnowing 43 = .ok (.iload_n 2, 1) := by decide +kernel
theorem dX6_takeKnowing_44 : decode cX6_takeKnowing 44 = .ok (.invokestatic 117, 3) := by decide +kernel
theorem dX6_takeKnowing_47 : decode cX6_takeKnowing 47 = .ok (.invokevirtual 108, 3) := by decide +kernel
theorem dX6_takeKnowing_50 : decode cX6_takeKnowing 50 = .ok (.pop, 1) := by decide +kernel
theorem dX6_takeKnowing_51 : decode cX6_takeKnowing 51 = .ok (.aload_n 0, 1) := by decide +kernel
theorem dX6_takeKnowing_52 : decode cX6_takeKnowing 52 = .ok (.dup, 1) := by decide +kernel
theorem dX6_takeKnowing_53 : decode cX6_takeKnowing 53 = .ok (.getfield 89, 3) := by decide +kernel
theorem dX6_takeKnowing_56 : decode cX6_takeKnowing 56 = .ok (.iconst 1, 1) := by decide +kernel
theorem dX6_takeKnowing_57 : decode cX6_takeKnowing 57 = .ok (.iadd, 1) := by decide +kernel
theorem dX6_takeKnowing_58 : decode cX6_takeKnowing 58 = .ok (.putfield 89, 3) := by decide +kernel
theorem dX6_takeKnowing_61 : decode cX6_takeKnowing 61 = .ok (.iconst 1, 1) := by decide +kernel
theorem dX6_takeKnowing_62 : decode cX6_takeKnowing 62 = .ok (.ireturn, 1) := by decide +kernel
def f_X6_takeKnowing_28 (F P : Nat) (S : xSt) (v0 : Nat) (v1 : Int32) (s0 : Int32) (s1 : Nat) (D : xDt) : Option (Int32 × xDt) :=
  (f_X6_takeAgents F P S s1 s0 D).bind fun q1 => if q1.1 = 0 then (some (0, q1.2)) else ((f_X11_withAgents F P S v1 q1.1 q1.2).bind fun q2 => (f_X2_add F P S (xr S v0 2) q2.1 q2.2).bind fun q3 => xlet (xup q3.2.1 v0 10 ((q3.2.1 v0 10) + 1), q3.2.2) fun D4 => some (1, D4))
set_option maxHeartbeats 4000000 in
theorem t_X6_takeKnowing_28 {F P : Nat} {S : xSt} (hS : xWF S) {v0 : Nat} {v1 : Int32} {s0 : Int32} {s1 : Nat} {D : xDt} {r : Int32 × xDt} (k0 : xK S v0 6) (ks1 : xK S s1 6) (h : f_X6_takeKnowing_28 F P S v0 v1 s0 s1 D = some r) : yEx md_X6_takeKnowing 2 28 [(0, .ref v0), (1, .int v1)] [.int s0, .ref s1] S D (xQi S r) := by
  unfold f_X6_takeKnowing_28 at h
  refine xbnd_e h (fun q1 e1 h => ?_)
  refine y_callVi (As := [.int s0]) (q := q1) cv_RX6_114 dX6_takeKnowing_28 ks1 rfl (Nat.le_of_ble_eq_true rfl) (by omega) (S_X6_takeAgents hS ks1 e1) ?_
  refine y_istore_n q1.1 rfl [(2, .int q1.1), (0, .ref v0), (1, .int v1)] dX6_takeKnowing_31 (by show _ < 3; decide) rfl ?_
  refine x_iload_n dX6_takeKnowing_32 0 rfl ?_
  refine x_if_ne 38 dX6_takeKnowing_33 (by decide) (fun c => ?_) (fun c => ?_)
  · rw [if_neg c] at h
    refine x_aload_n dX6_takeKnowing_38 1 rfl ?_
    refine y_getr (kd := 2) hS fl_RX6_20 dX6_takeKnowing_39 rfl k0 ?_
    refine x_iload_n dX6_takeKnowing_42 2 rfl ?_
    refine x_iload_n dX6_takeKnowing_43 0 rfl ?_
    refine xbnd_e h (fun q2 e2 h => ?_)
    refine y_callNi (As := [.int v1, .int q1.1]) (q := q2) cn_RX6_117 dX6_takeKnowing_44 rfl (Nat.le_of_ble_eq_true rfl) (by omega) (S_X11_withAgents hS e2) ?_
    refine xbnd_e h (fun q3 e3 h => ?_)
    refine y_callVi (As := [.int q2.1]) (q := q3) cv_RX6_108 dX6_takeKnowing_47 ((hS.f k0 2 2 rfl).2) rfl (Nat.le_of_ble_eq_true rfl) (by omega) (S_X2_add hS ((hS.f k0 2 2 rfl).2) e3) ?_
    refine x_pop dX6_takeKnowing_50 rfl ?_
    refine x_aload_n dX6_takeKnowing_51 1 rfl ?_
    refine x_dup dX6_takeKnowing_52 rfl ?_
    refine y_geti fl_RX6_89 dX6_takeKnowing_53 rfl k0 ?_
    refine x_iconst 1 dX6_takeKnowing_56 (by decide) ?_
    refine x_iadd dX6_takeKnowing_57 ?_
    refine xlet_e h (fun D4 eD4 h => ?_)
    refine y_puti fp_RX6_89 dX6_takeKnowing_58 rfl k0 eD4 ?_
    refine x_iconst 1 dX6_takeKnowing_61 (by decide) ?_
    obtain rfl := Option.some.inj h
    exact y_zret rfl rfl dX6_takeKnowing_62
  · rw [if_pos c] at h
    refine x_iconst 0 dX6_takeKnowing_36 (by decide) ?_
    obtain rfl := Option.some.inj h
    exact y_zret rfl rfl dX6_takeKnowing_37

def f_X6_takeKnowing_23 (F P : Nat) (S : xSt) (v0 : Nat) (v1 : Int32) (s0 : Nat) (D : xDt) : Option (Int32 × xDt) :=
  f_X6_takeKnowing_28 F P S v0 v1 1 s0 D
set_option maxHeartbeats 4000000 in
theorem t_X6_takeKnowing_23 {F P : Nat} {S : xSt} (hS : xWF S) {v0 : Nat} {v1 : Int32} {s0 : Nat} {D : xDt} {r : Int32 × xDt} (k0 : xK S v0 6) (ks0 : xK S s0 6) (h : f_X6_takeKnowing_23 F P S v0 v1 s0 D = some r) : yEx md_X6_takeKnowing 2 23 [(0, .ref v0), (1, .int v1)] [.ref s0] S D (xQi S r) := by
  unfold f_X6_takeKnowing_23 at h
  refine x_iconst 1 dX6_takeKnowing_23 (by decide) ?_
  refine x_goto 28 dX6_takeKnowing_24 (by decide) ?_
  exact t_X6_takeKnowing_28 hS k0 ks0 h

def f_X6_takeKnowing (F P : Nat) (S : xSt) (v0 : Nat) (v1 : Int32) (D : xDt) : Option (Int32 × xDt) :=
  (f_X6_toSign F P S v0 ((D.1 v0 12) + 1) D).bind fun q1 => if v1 = 75 then (f_X6_takeKnowing_23 F P S v0 v1 v0 q1) else (if v1 = 80 then (f_X6_takeKnowing_23 F P S v0 v1 v0 q1) else (f_X6_takeKnowing_28 F P S v0 v1 4 v0 q1))
set_option maxHeartbeats 4000000 in
theorem S_X6_takeKnowing {F P : Nat} {S : xSt} (hS : xWF S) {v0 : Nat} {v1 : Int32} {D : xDt} {r : Int32 × xDt} (k0 : xK S v0 6) (h : f_X6_takeKnowing F P S v0 v1 D = some r) : xSp md_X6_takeKnowing (2, 0, 0) [.ref v0, .int v1] (S, D) (xQi S r) := by
  unfold f_X6_takeKnowing at h
  refine xEntry (by decide) (Nat.le_of_ble_eq_true rfl) ?_
  refine x_lv (lv' := [(0, .ref v0), (1, .int v1)]) [0, 1] rfl ?_
  refine x_aload_n dX6_takeKnowing_0 0 rfl ?_
  refine x_aload_n dX6_takeKnowing_1 0 rfl ?_
  refine y_geti fl_RX6_71 dX6_takeKnowing_2 rfl k0 ?_
  refine x_iconst 1 dX6_takeKnowing_5 (by decide) ?_
  refine x_iadd dX6_takeKnowing_6 ?_
  refine xbnd_e h (fun q1 e1 h => ?_)
  refine y_callVv (As := [.int ((D.1 v0 12) + 1)]) (q := q1) cv_RX6_64 dX6_takeKnowing_7 k0 rfl (Nat.le_of_ble_eq_true rfl) (by omega) (S_X6_toSign hS k0 e1) ?_
  refine x_aload_n dX6_takeKnowing_10 0 rfl ?_
  refine x_iload_n dX6_takeKnowing_11 1 rfl ?_
  refine x_bipush 75 dX6_takeKnowing_12 (by decide) ?_
  refine x_icmp_eq 23 dX6_takeKnowing_14 (by decide) (fun c => ?_) (fun c => ?_)
  · rw [if_pos c] at h
    exact t_X6_takeKnowing_23 hS k0 k0 h
  · rw [if_neg c] at h
    refine x_iload_n dX6_takeKnowing_17 1 rfl ?_
    refine x_bipush 80 dX6_takeKnowing_18 (by decide) ?_
    refine x_icmp_ne 27 dX6_takeKnowing_20 (by decide) (fun c => ?_) (fun c => ?_)
    · rw [if_neg c] at h
      refine x_iconst 4 dX6_takeKnowing_27 (by decide) ?_
      exact t_X6_takeKnowing_28 hS k0 k0 h
    · rw [if_pos c] at h
      exact t_X6_takeKnowing_23 hS k0 k0 h

theorem dX6_takeOne_0 : decode cX6_takeOne 0 = .ok (.aload_n 0, 1) := by decide +kernel
theorem dX6_takeOne_1 : decode cX6_takeOne 1 = .ok (.getfield 89, 3) := by decide +kernel
theorem dX6_takeOne_4 : decode cX6_takeOne 4 = .ok (.bipush 30, 2) := by decide +kernel
theorem dX6_takeOne_6 : decode cX6_takeOne 6 = .ok (.if_icmp .le 5, 3) := by decide +kernel
theorem dX6_takeOne_9 : decode cX6_takeOne 9 = .ok (.iconst 0, 1) := by decide +kernel
theorem dX6_takeOne_10 : decode cX6_takeOne 10 = .ok (.ireturn, 1) := by decide +kernel
theorem dX6_takeOne_11 : decode cX6_takeOne 11 = .ok (.iload_n 1, 1) := by decide +kernel
theorem dX6_takeOne_12 : decode cX6_takeOne 12 = .ok (.bipush 40, 2) := by decide +kernel
theorem dX6_takeOne_14 : decode cX6_takeOne 14 = .ok (.if_icmp .ne 11, 3) := by decide +kernel
theorem dX6_takeOne_17 : decode cX6_takeOne 17 = .ok (.aload_n 0, 1) := by decide +kernel
theorem dX6_takeOne_18 : decode cX6_takeOne 18 = .ok (.iload_n 1, 1) := by decide +kernel
theorem dX6_takeOne_19 : decode cX6_takeOne 19 = .ok (.bipush 41, 2) := by decide +kernel
theorem dX6_takeOne_21 : decode cX6_takeOne 21 = .ok (.invokevirtual 92, 3) := by decide +kernel
theorem dX6_takeOne_24 : decode cX6_takeOne 24 = .ok (.ireturn, 1) := by decide +kernel
theorem dX6_takeOne_25 : decode cX6_takeOne 25 = .ok (.aload_n 0, 1) := by decide +kernel
theorem dX6_takeOne_26 : decode cX6_takeOne 26 = .ok (.getfield 20, 3) := by decide +kernel
theorem dX6_takeOne_29 : decode cX6_takeOne 29 = .ok (.getfield 56, 3) := by decide +kernel
theorem dX6_takeOne_32 : decode cX6_takeOne 32 = .ok (.sipush 150, 3) := by decide +kernel
theorem dX6_takeOne_35 : decode cX6_takeOne 35 = .ok (.if_icmp .lt 5, 3) := by decide +kernel
theorem dX6_takeOne_38 : decode cX6_takeOne 38 = .ok (.iconst 0, 1) := by decide +kernel
theorem dX6_takeOne_39 : decode cX6_takeOne 39 = .ok (.ireturn, 1) := by decide +kernel
theorem dX6_takeOne_40 : decode cX6_takeOne 40 = .ok (.iload_n 1, 1) := by decide +kernel
theorem dX6_takeOne_41 : decode cX6_takeOne 41 = .ok (.invokestatic 96, 3) := by decide +kernel
theorem dX6_takeOne_44 : decode cX6_takeOne 44 = .ok (.ifCond .eq 22, 3) := by decide +kernel
theorem dX6_takeOne_47 : decode cX6_takeOne 47 = .ok (.aload_n 0, 1) := by decide +kernel
theorem dX6_takeOne_48 : decode cX6_takeOne 48 = .ok (.iload_n 1, 1) := by decide +kernel
theorem dX6_takeOne_49 : decode cX6_takeOne 49 = .ok (.iload_n 1, 1) := by decide +kernel
theorem dX6_takeOne_50 : decode cX6_takeOne 50 = .ok (.bipush 91, 2) := by decide +kernel
theorem dX6_takeOne_52 : decode cX6_takeOne 52 = .ok (.if_icmp .ne 8, 3) := by decide +kernel
theorem dX6_takeOne_55 : decode cX6_takeOne 55 = .ok (.bipush 93, 2) := by decide +kernel
theorem dX6_takeOne_57 : decode cX6_takeOne 57 = .ok (.goto 5, 3) := by decide +kernel
theorem dX6_takeOne_60 : decode cX6_takeOne 60 = .ok (.bipush 125, 2) := by decide +kernel
theorem dX6_takeOne_62 : decode cX6_takeOne 62 = .ok (.invokevirtual 92, 3) := by decide +kernel
theorem dX6_takeOne_65 : decode cX6_takeOne 65 = .ok (.ireturn, 1) := by decide +kernel
theorem dX6_takeOne_66 : decode cX6_takeOne 66 = .ok (.iload_n 1, 1) := by decide +kernel
theorem dX6_takeOne_67 : decode cX6_takeOne 67 = .ok (.invokestatic 99, 3) := by decide +kernel
theorem dX6_takeOne_70 : decode cX6_takeOne 70 = .ok (.ifCond .eq 9, 3) := by decide +kernel
theorem dX6_takeOne_73 : decode cX6_takeOne 73 = .ok (.aload_n 0, 1) := by decide +kernel
theorem dX6_takeOne_74 : decode cX6_takeOne 74 = .ok (.iload_n 1, 1) := by decide +kernel
theorem dX6_takeOne_75 : decode cX6_takeOne 75 = .ok (.invokevirtual 102, 3) := by decide +kernel
theorem dX6_takeOne_78 : decode cX6_takeOne 78 = .ok (.ireturn, 1) := by decide +kernel
theorem dX6_takeOne_79 : decode cX6_takeOne 79 = .ok (.iload_n 1, 1) := by decide +kernel
theorem dX6_takeOne_80 : decode cX6_takeOne 80 = .ok (.bipush 126, 2) := by decide +kernel
theorem dX6_takeOne_82 : decode cX6_takeOne 82 = .ok (.if_icmp .eq 12, 3) := by decide +kernel
theorem dX6_takeOne_85 : decode cX6_takeOne 85 = .ok (.iload_n 1, 1) := by decide +kernel
theorem dX6_takeOne_86 : decode cX6_takeOne 86 = .ok (.invokestatic 105, 3) := by decide +kernel
theorem dX6_takeOne_89 : decode cX6_takeOne 89 = .ok (.ifCond .ne 5, 3) := by decide +kernel
theorem dX6_takeOne_92 : decode cX6_takeOne 92 = .ok (.iconst 0, 1) := by decide +kernel
theorem dX6_takeOne_93 : decode cX6_takeOne 93 = .ok (.ireturn, 1) := by decide +kernel
theorem dX6_takeOne_94 : decode cX6_takeOne 94 = .ok (.aload_n 0, 1) := by decide +kernel
theorem dX6_takeOne_95 : decode cX6_takeOne 95 = .ok (.getfield 20, 3) := by decide +kernel
theorem dX6_takeOne_98 : decode cX6_takeOne 98 = .ok (.iload_n 1, 1) := by decide +kernel
theorem dX6_takeOne_99 : decode cX6_takeOne 99 = .ok (.invokevirtual 108, 3) := by decide +kernel
theorem dX6_takeOne_102 : decode cX6_takeOne 102 = .ok (.pop, 1) := by decide +kernel
theorem dX6_takeOne_103 : decode cX6_takeOne 103 = .ok (.aload_n 0, 1) := by decide +kernel
theorem dX6_takeOne_104 : decode cX6_takeOne 104 = .ok (.iload_n 1, 1) := by decide +kernel
theorem dX6_takeOne_105 : decode cX6_takeOne 105 = .ok (.bipush 126, 2) := by decide +kernel
theorem dX6_takeOne_107 : decode cX6_takeOne 107 = .ok (.if_icmp .ne 7, 3) := by decide +kernel
theorem dX6_takeOne_110 : decode cX6_takeOne 110 = .ok (.iconst 1, 1) := by decide +kernel
theorem dX6_takeOne_111 : decode cX6_takeOne 111 = .ok (.goto 4, 3) := by decide +kernel
theorem dX6_takeOne_114 : decode cX6_takeOne 114 = .ok (.iconst 0, 1) := by decide +kernel
theorem dX6_takeOne_115 : decode cX6_takeOne 115 = .ok (.putfield 78, 3) := by decide +kernel
theorem dX6_takeOne_118 : decode cX6_takeOne 118 = .ok (.aload_n 0, 1) := by decide +kernel
theorem dX6_takeOne_119 : decode cX6_takeOne 119 = .ok (.dup, 1) := by decide +kernel
theorem dX6_takeOne_120 : decode cX6_takeOne 120 = .ok (.getfield 89, 3) := by decide +kernel
theorem dX6_takeOne_123 : decode cX6_takeOne 123 = .ok (.iconst 1, 1) := by decide +kernel
theorem dX6_takeOne_124 : decode cX6_takeOne 124 = .ok (.iadd, 1) := by decide +kernel
theorem dX6_takeOne_125 : decode cX6_takeOne 125 = .ok (.putfield 89, 3) := by decide +kernel
theorem dX6_takeOne_128 : decode cX6_takeOne 128 = .ok (.aload_n 0, 1) := by decide +kernel
theorem dX6_takeOne_129 : decode cX6_takeOne 129 = .ok (.aload_n 0, 1) := by decide +kernel
theorem dX6_takeOne_130 : decode cX6_takeOne 130 = .ok (.getfield 71, 3) := by decide +kernel
theorem dX6_takeOne_133 : decode cX6_takeOne 133 = .ok (.iconst 1, 1) := by decide +kernel
theorem dX6_takeOne_134 : decode cX6_takeOne 134 = .ok (.iadd, 1) := by decide +kernel
theorem dX6_takeOne_135 : decode cX6_takeOne 135 = .ok (.invokevirtual 64, 3) := by decide +kernel
theorem dX6_takeOne_138 : decode cX6_takeOne 138 = .ok (.iconst 1, 1) := by decide +kernel
theorem dX6_takeOne_139 : decode cX6_takeOne 139 = .ok (.ireturn, 1) := by decide +kernel
def f_X6_takeOne_62 (F P : Nat) (S : xSt) (s0 : Int32) (s1 : Int32) (s2 : Nat) (D : xDt) : Option (Int32 × xDt) :=
  (f_X6_takeOpening F P S s2 s1 s0 D).bind fun q1 => xgrd (xb q1.1) (some (q1.1, q1.2))
set_option maxHeartbeats 4000000 in
theorem t_X6_takeOne_62 {F P : Nat} {S : xSt} (hS : xWF S) {s0 : Int32} {s1 : Int32} {s2 : Nat} {D : xDt} {r : Int32 × xDt} (ks2 : xK S s2 6) (h : f_X6_takeOne_62 F P S s0 s1 s2 D = some r) : yEx md_X6_takeOne 3 62 [] [.int s0, .int s1, .ref s2] S D (xQi S r) := by
  unfold f_X6_takeOne_62 at h
  refine xbnd_e h (fun q1 e1 h => ?_)
  refine y_callVi (As := [.int s1, .int s0]) (q := q1) cv_RX6_92 dX6_takeOne_62 ks2 rfl (Nat.le_of_ble_eq_true rfl) (by omega) (S_X6_takeOpening hS ks2 e1) ?_
  refine xgrd_e h (fun g2 h => ?_)
  obtain rfl := Option.some.inj h
  exact y_zret rfl g2 dX6_takeOne_65

def f_X6_takeOne_115 (F P : Nat) (S : xSt) (v0 : Nat) (s0 : Int32) (s1 : Nat) (D : xDt) : Option (Int32 × xDt) :=
  xgrd (xb s0) (xlet (xup D.1 s1 11 s0, D.2) fun D2 => xlet (xup D2.1 v0 10 ((D2.1 v0 10) + 1), D2.2) fun D3 => (f_X6_toSign F P S v0 ((D3.1 v0 12) + 1) D3).bind fun q4 => some (1, q4))
set_option maxHeartbeats 4000000 in
theorem t_X6_takeOne_115 {F P : Nat} {S : xSt} (hS : xWF S) {v0 : Nat} {s0 : Int32} {s1 : Nat} {D : xDt} {r : Int32 × xDt} (k0 : xK S v0 6) (ks1 : xK S s1 6) (h : f_X6_takeOne_115 F P S v0 s0 s1 D = some r) : yEx md_X6_takeOne 3 115 [(0, .ref v0)] [.int s0, .ref s1] S D (xQi S r) := by
  unfold f_X6_takeOne_115 at h
  refine xgrd_e h (fun g1 h => ?_)
  refine xlet_e h (fun D2 eD2 h => ?_)
  refine y_putz g1 fp_RX6_78 dX6_takeOne_115 rfl ks1 eD2 ?_
  refine x_aload_n dX6_takeOne_118 0 rfl ?_
  refine x_dup dX6_takeOne_119 rfl ?_
  refine y_geti fl_RX6_89 dX6_takeOne_120 rfl k0 ?_
  refine x_iconst 1 dX6_takeOne_123 (by decide) ?_
  refine x_iadd dX6_takeOne_124 ?_
  refine xlet_e h (fun D3 eD3 h => ?_)
  refine y_puti fp_RX6_89 dX6_takeOne_125 rfl k0 eD3 ?_
  refine x_aload_n dX6_takeOne_128 0 rfl ?_
  refine x_aload_n dX6_takeOne_129 0 rfl ?_
  refine y_geti fl_RX6_71 dX6_takeOne_130 rfl k0 ?_
  refine x_iconst 1 dX6_takeOne_133 (by decide) ?_
  refine x_iadd dX6_takeOne_134 ?_
  refine xbnd_e h (fun q4 e4 h => ?_)
  refine y_callVv (As := [.int ((D3.1 v0 12) + 1)]) (q := q4) cv_RX6_64 dX6_takeOne_135 k0 rfl (Nat.le_of_ble_eq_true rfl) (by omega) (S_X6_toSign hS k0 e4) ?_
  refine x_iconst 1 dX6_takeOne_138 (by decide) ?_
  obtain rfl := Option.some.inj h
  exact y_zret rfl rfl dX6_takeOne_139

def f_X6_takeOne_94 (F P : Nat) (S : xSt) (v0 : Nat) (v1 : Int32) (D : xDt) : Option (Int32 × xDt) :=
  (f_X2_add F P S (xr S v0 2) v1 D).bind fun q1 => if v1 = 126 then (f_X6_takeOne_115 F P S v0 1 v0 q1.2) else (f_X6_takeOne_115 F P S v0 0 v0 q1.2)
set_option maxHeartbeats 4000000 in
theorem t_X6_takeOne_94 {F P : Nat} {S : xSt} (hS : xWF S) {v0 : Nat} {v1 : Int32} {D : xDt} {r : Int32 × xDt} (k0 : xK S v0 6) (h : f_X6_takeOne_94 F P S v0 v1 D = some r) : yEx md_X6_takeOne 3 94 [(0, .ref v0), (1, .int v1)] [] S D (xQi S r) := by
  unfold f_X6_takeOne_94 at h
  refine x_aload_n dX6_takeOne_94 0 rfl ?_
  refine y_getr (kd := 2) hS fl_RX6_20 dX6_takeOne_95 rfl k0 ?_
  refine x_iload_n dX6_takeOne_98 1 rfl ?_
  refine xbnd_e h (fun q1 e1 h => ?_)
  refine y_callVi (As := [.int v1]) (q := q1) cv_RX6_108 dX6_takeOne_99 ((hS.f k0 2 2 rfl).2) rfl (Nat.le_of_ble_eq_true rfl) (by omega) (S_X2_add hS ((hS.f k0 2 2 rfl).2) e1) ?_
  refine x_pop dX6_takeOne_102 rfl ?_
  refine x_aload_n dX6_takeOne_103 0 rfl ?_
  refine x_iload_n dX6_takeOne_104 1 rfl ?_
  refine x_bipush 126 dX6_takeOne_105 (by decide) ?_
  refine x_icmp_ne 114 dX6_takeOne_107 (by decide) (fun c => ?_) (fun c => ?_)
  · rw [if_neg c] at h
    refine x_iconst 0 dX6_takeOne_114 (by decide) ?_
    refine x_lv (lv' := [(0, .ref v0)]) [0] rfl ?_
    exact t_X6_takeOne_115 hS k0 k0 h
  · rw [if_pos c] at h
    refine x_iconst 1 dX6_takeOne_110 (by decide) ?_
    refine x_goto 115 dX6_takeOne_111 (by decide) ?_
    refine x_lv (lv' := [(0, .ref v0)]) [0] rfl ?_
    exact t_X6_takeOne_115 hS k0 k0 h

def f_X6_takeOne (F P : Nat) (S : xSt) (v0 : Nat) (v1 : Int32) (D : xDt) : Option (Int32 × xDt) :=
  if (D.1 v0 10) ≤ 30 then (if v1 = 40 then ((f_X6_takeOpening F P S v0 v1 41 D).bind fun q6 => xgrd (xb q6.1) (some (q6.1, q6.2))) else (if (D.1 (xr S v0 2) 1) < 150 then ((f_X11_isSaying F P S v1 D).bind fun q1 => if q1.1 = 0 then ((f_X11_isKnowing F P S v1 q1.2).bind fun q2 => if q2.1 = 0 then (if v1 = 126 then (f_X6_takeOne_94 F P S v0 v1 q2.2) else ((f_X11_isLeaf F P S v1 q2.2).bind fun q3 => if q3.1 = 0 then (some (0, q3.2)) else (f_X6_takeOne_94 F P S v0 v1 q3.2))) else ((f_X6_takeKnowing F P S v0 v1 q2.2).bind fun q4 => xgrd (xb q4.1) (some (q4.1, q4.2)))) else (if v1 = 91 then (f_X6_takeOne_62 F P S 93 v1 v0 q1.2) else (f_X6_takeOne_62 F P S 125 v1 v0 q1.2))) else (some (0, D)))) else (some (0, D))
set_option maxHeartbeats 4000000 in
theorem S_X6_takeOne {F P : Nat} {S : xSt} (hS : xWF S) {v0 : Nat} {v1 : Int32} {D : xDt} {r : Int32 × xDt} (k0 : xK S v0 6) (h : f_X6_takeOne F P S v0 v1 D = some r) : xSp md_X6_takeOne (3, 0, 0) [.ref v0, .int v1] (S, D) (xQi S r) := by
  unfold f_X6_takeOne at h
  refine xEntry (by decide) (Nat.le_of_ble_eq_true rfl) ?_
  refine x_lv (lv' := [(0, .ref v0), (1, .int v1)]) [0, 1] rfl ?_
  refine x_aload_n dX6_takeOne_0 0 rfl ?_
  refine y_geti fl_RX6_89 dX6_takeOne_1 rfl k0 ?_
  refine x_bipush 30 dX6_takeOne_4 (by decide) ?_
  refine x_icmp_le 11 dX6_takeOne_6 (by decide) (fun c => ?_) (fun c => ?_)
  · rw [if_pos c] at h
    refine x_iload_n dX6_takeOne_11 1 rfl ?_
    refine x_bipush 40 dX6_takeOne_12 (by decide) ?_
    refine x_icmp_ne 25 dX6_takeOne_14 (by decide) (fun c => ?_) (fun c => ?_)
    · rw [if_neg c] at h
      refine x_aload_n dX6_takeOne_25 0 rfl ?_
      refine y_getr (kd := 2) hS fl_RX6_20 dX6_takeOne_26 rfl k0 ?_
      refine y_geti fl_RX6_56 dX6_takeOne_29 rfl ((hS.f k0 2 2 rfl).2) ?_
      refine x_sipush 150 dX6_takeOne_32 (by decide) ?_
      refine x_icmp_lt 40 dX6_takeOne_35 (by decide) (fun c => ?_) (fun c => ?_)
      · rw [if_pos c] at h
        refine x_iload_n dX6_takeOne_40 1 rfl ?_
        refine xbnd_e h (fun q1 e1 h => ?_)
        refine y_callNi (As := [.int v1]) (q := q1) cn_RX6_96 dX6_takeOne_41 rfl (Nat.le_of_ble_eq_true rfl) (by omega) (S_X11_isSaying hS e1) ?_
        refine x_if_eq 66 dX6_takeOne_44 (by decide) (fun c => ?_) (fun c => ?_)
        · rw [if_pos c] at h
          refine x_iload_n dX6_takeOne_66 1 rfl ?_
          refine xbnd_e h (fun q2 e2 h => ?_)
          refine y_callNi (As := [.int v1]) (q := q2) cn_RX6_99 dX6_takeOne_67 rfl (Nat.le_of_ble_eq_true rfl) (by omega) (S_X11_isKnowing hS e2) ?_
          refine x_if_eq 79 dX6_takeOne_70 (by decide) (fun c => ?_) (fun c => ?_)
          · rw [if_pos c] at h
            refine x_iload_n dX6_takeOne_79 1 rfl ?_
            refine x_bipush 126 dX6_takeOne_80 (by decide) ?_
            refine x_icmp_eq 94 dX6_takeOne_82 (by decide) (fun c => ?_) (fun c => ?_)
            · rw [if_pos c] at h
              exact t_X6_takeOne_94 hS k0 h
            · rw [if_neg c] at h
              refine x_iload_n dX6_takeOne_85 1 rfl ?_
              refine xbnd_e h (fun q3 e3 h => ?_)
              refine y_callNi (As := [.int v1]) (q := q3) cn_RX6_105 dX6_takeOne_86 rfl (Nat.le_of_ble_eq_true rfl) (by omega) (S_X11_isLeaf hS e3) ?_
              refine x_if_ne 94 dX6_takeOne_89 (by decide) (fun c => ?_) (fun c => ?_)
              · rw [if_neg c] at h
                exact t_X6_takeOne_94 hS k0 h
              · rw [if_pos c] at h
                refine x_iconst 0 dX6_takeOne_92 (by decide) ?_
                obtain rfl := Option.some.inj h
                exact y_zret rfl rfl dX6_takeOne_93
          · rw [if_neg c] at h
            refine x_aload_n dX6_takeOne_73 0 rfl ?_
            refine x_iload_n dX6_takeOne_74 1 rfl ?_
            refine xbnd_e h (fun q4 e4 h => ?_)
            refine y_callVi (As := [.int v1]) (q := q4) cv_RX6_102 dX6_takeOne_75 k0 rfl (Nat.le_of_ble_eq_true rfl) (by omega) (S_X6_takeKnowing hS k0 e4) ?_
            refine xgrd_e h (fun g5 h => ?_)
            obtain rfl := Option.some.inj h
            exact y_zret rfl g5 dX6_takeOne_78
        · rw [if_neg c] at h
          refine x_aload_n dX6_takeOne_47 0 rfl ?_
          refine x_iload_n dX6_takeOne_48 1 rfl ?_
          refine x_iload_n dX6_takeOne_49 1 rfl ?_
          refine x_bipush 91 dX6_takeOne_50 (by decide) ?_
          refine x_icmp_ne 60 dX6_takeOne_52 (by decide) (fun c => ?_) (fun c => ?_)
          · rw [if_neg c] at h
            refine x_bipush 125 dX6_takeOne_60 (by decide) ?_
            refine x_lv (lv' := []) [] rfl ?_
            exact t_X6_takeOne_62 hS k0 h
          · rw [if_pos c] at h
            refine x_bipush 93 dX6_takeOne_55 (by decide) ?_
            refine x_goto 62 dX6_takeOne_57 (by decide) ?_
            refine x_lv (lv' := []) [] rfl ?_
            exact t_X6_takeOne_62 hS k0 h
      · rw [if_neg c] at h
        refine x_iconst 0 dX6_takeOne_38 (by decide) ?_
        obtain rfl := Option.some.inj h
        exact y_zret rfl rfl dX6_takeOne_39
    · rw [if_pos c] at h
      refine x_aload_n dX6_takeOne_17 0 rfl ?_
      refine x_iload_n dX6_takeOne_18 1 rfl ?_
      refine x_bipush 41 dX6_takeOne_19 (by decide) ?_
      refine xbnd_e h (fun q6 e6 h => ?_)
      refine y_callVi (As := [.int v1, .int 41]) (q := q6) cv_RX6_92 dX6_takeOne_21 k0 rfl (Nat.le_of_ble_eq_true rfl) (by omega) (S_X6_takeOpening hS k0 e6) ?_
      refine xgrd_e h (fun g7 h => ?_)
      obtain rfl := Option.some.inj h
      exact y_zret rfl g7 dX6_takeOne_24
  · rw [if_neg c] at h
    refine x_iconst 0 dX6_takeOne_9 (by decide) ?_
    obtain rfl := Option.some.inj h
    exact y_zret rfl rfl dX6_takeOne_10

theorem dX6_leave_0 : decode cX6_leave 0 = .ok (.aload_n 0, 1) := by decide +kernel
theorem dX6_leave_1 : decode cX6_leave 1 = .ok (.getfield 57, 3) := by decide +kernel
theorem dX6_leave_4 : decode cX6_leave 4 = .ok (.ifCond .ne 5, 3) := by decide +kernel
theorem dX6_leave_7 : decode cX6_leave 7 = .ok (.iconst 0, 1) := by decide +kernel
theorem dX6_leave_8 : decode cX6_leave 8 = .ok (.ireturn, 1) := by decide +kernel
theorem dX6_leave_9 : decode cX6_leave 9 = .ok (.aload_n 0, 1) := by decide +kernel
theorem dX6_leave_10 : decode cX6_leave 10 = .ok (.iload_n 1, 1) := by decide +kernel
theorem dX6_leave_11 : decode cX6_leave 11 = .ok (.bipush 41, 2) := by decide +kernel
theorem dX6_leave_13 : decode cX6_leave 13 = .ok (.if_icmp .eq 7, 3) := by decide +kernel
theorem dX6_leave_16 : decode cX6_leave 16 = .ok (.iconst 1, 1) := by decide +kernel
theorem dX6_leave_17 : decode cX6_leave 17 = .ok (.goto 4, 3) := by decide +kernel
theorem dX6_leave_20 : decode cX6_leave 20 = .ok (.iconst 0, 1) := by decide +kernel
theorem dX6_leave_21 : decode cX6_leave 21 = .ok (.putfield 78, 3) := by decide +kernel
theorem dX6_leave_24 : decode cX6_leave 24 = .ok (.aload_n 0, 1) := by decide +kernel
theorem dX6_leave_25 : decode cX6_leave 25 = .ok (.aload_n 0, 1) := by decide +kernel
theorem dX6_leave_26 : decode cX6_leave 26 = .ok (.getfield 37, 3) := by decide +kernel
theorem dX6_leave_29 : decode cX6_leave 29 = .ok (.aload_n 0, 1) := by decide +kernel
theorem dX6_leave_30 : decode cX6_leave 30 = .ok (.getfield 57, 3) := by decide +kernel
theorem dX6_leave_33 : decode cX6_leave 33 = .ok (.iaload, 1) := by decide +kernel
theorem dX6_leave_34 : decode cX6_leave 34 = .ok (.iconst 1, 1) := by decide +kernel
theorem dX6_leave_35 : decode cX6_leave 35 = .ok (.iadd, 1) := by decide +kernel
theorem dX6_leave_36 : decode cX6_leave 36 = .ok (.putfield 89, 3) := by decide +kernel
theorem dX6_leave_39 : decode cX6_leave 39 = .ok (.aload_n 0, 1) := by decide +kernel
theorem dX6_leave_40 : decode cX6_leave 40 = .ok (.dup, 1) := by decide +kernel
theorem dX6_leave_41 : decode cX6_leave 41 = .ok (.getfield 57, 3) := by decide +kernel
theorem dX6_leave_44 : decode cX6_leave 44 = .ok (.iconst 1, 1) := by decide +kernel
theorem dX6_leave_45 : decode cX6_leave 45 = .ok (.isub, 1) := by decide +kernel
theorem dX6_leave_46 : decode cX6_leave 46 = .ok (.putfield 57, 3) := by decide +kernel
theorem dX6_leave_49 : decode cX6_leave 49 = .ok (.iconst 1, 1) := by decide +kernel
theorem dX6_leave_50 : decode cX6_leave 50 = .ok (.ireturn, 1) := by decide +kernel
def f_X6_leave_21 (F P : Nat) (S : xSt) (v0 : Nat) (s0 : Int32) (s1 : Nat) (D : xDt) : Option (Int32 × xDt) :=
  xgrd (xb s0) (xlet (xup D.1 s1 11 s0, D.2) fun D2 => xgrd (xin (D2.1 v0 9) (xl S (xr S v0 7))) (xlet (xup D2.1 v0 10 ((D2.1 (xr S v0 7) (D2.1 v0 9).toNatClampNeg) + 1), D2.2) fun D4 => xlet (xup D4.1 v0 9 ((D4.1 v0 9) - 1), D4.2) fun D5 => some (1, D5)))
set_option maxHeartbeats 4000000 in
theorem t_X6_leave_21 {F P : Nat} {S : xSt} (hS : xWF S) {v0 : Nat} {s0 : Int32} {s1 : Nat} {D : xDt} {r : Int32 × xDt} (k0 : xK S v0 6) (ks1 : xK S s1 6) (h : f_X6_leave_21 F P S v0 s0 s1 D = some r) : yEx md_X6_leave 0 21 [(0, .ref v0)] [.int s0, .ref s1] S D (xQi S r) := by
  unfold f_X6_leave_21 at h
  refine xgrd_e h (fun g1 h => ?_)
  refine xlet_e h (fun D2 eD2 h => ?_)
  refine y_putz g1 fp_RX6_78 dX6_leave_21 rfl ks1 eD2 ?_
  refine x_aload_n dX6_leave_24 0 rfl ?_
  refine x_aload_n dX6_leave_25 0 rfl ?_
  refine y_getr (kd := 100) hS fl_RX6_37 dX6_leave_26 rfl k0 ?_
  refine x_aload_n dX6_leave_29 0 rfl ?_
  refine y_geti fl_RX6_57 dX6_leave_30 rfl k0 ?_
  refine xgrd_e h (fun g3 h => ?_)
  refine y_iald dX6_leave_33 ((hS.f k0 7 100 rfl).2) g3 ?_
  refine x_iconst 1 dX6_leave_34 (by decide) ?_
  refine x_iadd dX6_leave_35 ?_
  refine xlet_e h (fun D4 eD4 h => ?_)
  refine y_puti fp_RX6_89 dX6_leave_36 rfl k0 eD4 ?_
  refine x_aload_n dX6_leave_39 0 rfl ?_
  refine x_dup dX6_leave_40 rfl ?_
  refine y_geti fl_RX6_57 dX6_leave_41 rfl k0 ?_
  refine x_iconst 1 dX6_leave_44 (by decide) ?_
  refine x_isub dX6_leave_45 ?_
  refine xlet_e h (fun D5 eD5 h => ?_)
  refine y_puti fp_RX6_57 dX6_leave_46 rfl k0 eD5 ?_
  refine x_iconst 1 dX6_leave_49 (by decide) ?_
  obtain rfl := Option.some.inj h
  exact y_zret rfl rfl dX6_leave_50

def f_X6_leave (F P : Nat) (S : xSt) (v0 : Nat) (v1 : Int32) (D : xDt) : Option (Int32 × xDt) :=
  if (D.1 v0 9) = 0 then (some (0, D)) else (if v1 = 41 then (f_X6_leave_21 F P S v0 0 v0 D) else (f_X6_leave_21 F P S v0 1 v0 D))
set_option maxHeartbeats 4000000 in
theorem S_X6_leave {F P : Nat} {S : xSt} (hS : xWF S) {v0 : Nat} {v1 : Int32} {D : xDt} {r : Int32 × xDt} (k0 : xK S v0 6) (h : f_X6_leave F P S v0 v1 D = some r) : xSp md_X6_leave (0, 0, 0) [.ref v0, .int v1] (S, D) (xQi S r) := by
  unfold f_X6_leave at h
  refine xEntry (by decide) (Nat.le_of_ble_eq_true rfl) ?_
  refine x_lv (lv' := [(0, .ref v0), (1, .int v1)]) [0, 1] rfl ?_
  refine x_aload_n dX6_leave_0 0 rfl ?_
  refine y_geti fl_RX6_57 dX6_leave_1 rfl k0 ?_
  refine x_if_ne 9 dX6_leave_4 (by decide) (fun c => ?_) (fun c => ?_)
  · rw [if_neg c] at h
    refine x_aload_n dX6_leave_9 0 rfl ?_
    refine x_iload_n dX6_leave_10 1 rfl ?_
    refine x_bipush 41 dX6_leave_11 (by decide) ?_
    refine x_icmp_eq 20 dX6_leave_13 (by decide) (fun c => ?_) (fun c => ?_)
    · rw [if_pos c] at h
      refine x_iconst 0 dX6_leave_20 (by decide) ?_
      refine x_lv (lv' := [(0, .ref v0)]) [0] rfl ?_
      exact t_X6_leave_21 hS k0 k0 h
    · rw [if_neg c] at h
      refine x_iconst 1 dX6_leave_16 (by decide) ?_
      refine x_goto 21 dX6_leave_17 (by decide) ?_
      refine x_lv (lv' := [(0, .ref v0)]) [0] rfl ?_
      exact t_X6_leave_21 hS k0 k0 h
  · rw [if_pos c] at h
    refine x_iconst 0 dX6_leave_7 (by decide) ?_
    obtain rfl := Option.some.inj h
    exact y_zret rfl rfl dX6_leave_8

