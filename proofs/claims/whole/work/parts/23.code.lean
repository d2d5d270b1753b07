/-! printed by wip/whole/gen.py: the methods as plain functions, each proved to be what its bytecode does -/
theorem dX1_changeAtoms_0 : decode cX1_changeAtoms 0 = .ok (.iconst 0, 1) := by decide +kernel
theorem dX1_changeAtoms_1 : decode cX1_changeAtoms 1 = .ok (.istore 4, 2) := by decide +kernel
theorem dX1_changeAtoms_3 : decode cX1_changeAtoms 3 = .ok (.iload 4, 2) := by decide +kernel
theorem dX1_changeAtoms_5 : decode cX1_changeAtoms 5 = .ok (.aload_n 0, 1) := by decide +kernel
theorem dX1_changeAtoms_6 : decode cX1_changeAtoms 6 = .ok (.getfield 34, 3) := by decide +kernel
theorem dX1_changeAtoms_9 : decode cX1_changeAtoms 9 = .ok (.if_icmp .ge 66, 3) := by decide +kernel
theorem dX1_changeAtoms_12 : decode cX1_changeAtoms 12 = .ok (.iconst 0, 1) := by decide +kernel
theorem dX1_changeAtoms_13 : decode cX1_changeAtoms 13 = .ok (.istore 5, 2) := by decide +kernel
theorem dX1_changeAtoms_15 : decode cX1_changeAtoms 15 = .ok (.iload 5, 2) := by decide +kernel
theorem dX1_changeAtoms_17 : decode cX1_changeAtoms 17 = .ok (.bipush 8, 2) := by decide +kernel
theorem dX1_changeAtoms_19 : decode cX1_changeAtoms 19 = .ok (.if_icmp .ge 50, 3) := by decide +kernel
theorem dX1_changeAtoms_22 : decode cX1_changeAtoms 22 = .ok (.aload_n 0, 1) := by decide +kernel
theorem dX1_changeAtoms_23 : decode cX1_changeAtoms 23 = .ok (.getfield 13, 3) := by decide +kernel
theorem dX1_changeAtoms_26 : decode cX1_changeAtoms 26 = .ok (.iload 4, 2) := by decide +kernel
theorem dX1_changeAtoms_28 : decode cX1_changeAtoms 28 = .ok (.bipush 9, 2) := by decide +kernel
theorem dX1_changeAtoms_30 : decode cX1_changeAtoms 30 = .ok (.imul, 1) := by decide +kernel
theorem dX1_changeAtoms_31 : decode cX1_changeAtoms 31 = .ok (.iconst 1, 1) := by decide +kernel
theorem dX1_changeAtoms_32 : decode cX1_changeAtoms 32 = .ok (.iadd, 1) := by decide +kernel
theorem dX1_changeAtoms_33 : decode cX1_changeAtoms 33 = .ok (.iload 5, 2) := by decide +kernel
theorem dX1_changeAtoms_35 : decode cX1_changeAtoms 35 = .ok (.iadd, 1) := by decide +kernel
theorem dX1_changeAtoms_36 : decode cX1_changeAtoms 36 = .ok (.aaload, 1) := by decide +kernel
theorem dX1_changeAtoms_37 : decode cX1_changeAtoms 37 = .ok (.astore 6, 2) := by decide +kernel
theorem dX1_changeAtoms_39 : decode cX1_changeAtoms 39 = .ok (.aload 6, 2) := by decide +kernel
theorem dX1_changeAtoms_41 : decode cX1_changeAtoms 41 = .ok (.getfield 38, 3) := by decide +kernel
theorem dX1_changeAtoms_44 : decode cX1_changeAtoms 44 = .ok (.ifCond .le 19, 3) := by decide +kernel
theorem dX1_changeAtoms_47 : decode cX1_changeAtoms 47 = .ok (.aload_n 0, 1) := by decide +kernel
theorem dX1_changeAtoms_48 : decode cX1_changeAtoms 48 = .ok (.aload_n 1, 1) := by decide +kernel
theorem dX1_changeAtoms_49 : decode cX1_changeAtoms 49 = .ok (.iload 4, 2) := by decide +kernel
theorem dX1_changeAtoms_51 : decode cX1_changeAtoms 51 = .ok (.iload 5, 2) := by decide +kernel
theorem dX1_changeAtoms_53 : decode cX1_changeAtoms 53 = .ok (.aload_n 3, 1) := by decide +kernel
theorem dX1_changeAtoms_54 : decode cX1_changeAtoms 54 = .ok (.aload 6, 2) := by decide +kernel
theorem dX1_changeAtoms_56 : decode cX1_changeAtoms 56 = .ok (.aload_n 2, 1) := by decide +kernel
theorem dX1_changeAtoms_57 : decode cX1_changeAtoms 57 = .ok (.invokevirtual 49, 3) := by decide +kernel
theorem dX1_changeAtoms_60 : decode cX1_changeAtoms 60 = .ok (.invokevirtual 63, 3) := by decide +kernel
theorem dX1_changeAtoms_63 : decode cX1_changeAtoms 63 = .ok (.iinc 5 1, 3) := by decide +kernel
theorem dX1_changeAtoms_66 : decode cX1_changeAtoms 66 = .ok (.goto (-51), 3) := by decide +kernel
theorem dX1_changeAtoms_69 : decode cX1_changeAtoms 69 = .ok (.iinc 4 1, 3) := by decide +kernel
theorem dX1_changeAtoms_72 : decode cX1_changeAtoms 72 = .ok (.goto (-69), 3) := by decide +kernel
theorem dX1_changeAtoms_75 : decode cX1_changeAtoms 75 = .ok (.return_, 1) := by decide +kernel
def f_X1_changeAtoms_63 (F P : Nat) (S : xSt) (rec_3 : Nat → Nat → Nat → Nat → Int32 → xDt → Option (xDt)) (rec_15 : Nat → Nat → Nat → Nat → Int32 → Int32 → xDt → Option (xDt)) (v0 : Nat) (v1 : Nat) (v2 : Nat) (v3 : Nat) (v4 : Int32) (v5 : Int32) (D : xDt) : Option (xDt) :=
  xlet (v5 + 1) fun v5_1 => rec_15 v0 v1 v2 v3 v4 v5_1 D
set_option maxHeartbeats 4000000 in
theorem t_X1_changeAtoms_63 {F P : Nat} {S : xSt} (hS : xWF S) {rec_3 : Nat → Nat → Nat → Nat → Int32 → xDt → Option (xDt)} (hrec_3 : ∀ {v0 : Nat} {v1 : Nat} {v2 : Nat} {v3 : Nat} {v4 : Int32} {D : xDt} {r : xDt}, xK S v0 1 → xK S v1 10 → xK S v2 10 → xK S v3 3 → rec_3 v0 v1 v2 v3 v4 D = some r → yEx md_X1_changeAtoms 5 3 [(0, .ref v0), (1, .ref v1), (2, .ref v2), (3, .ref v3), (4, .int v4)] [] S D (xQv S r)) {rec_15 : Nat → Nat → Nat → Nat → Int32 → Int32 → xDt → Option (xDt)} (hrec_15 : ∀ {v0 : Nat} {v1 : Nat} {v2 : Nat} {v3 : Nat} {v4 : Int32} {v5 : Int32} {D : xDt} {r : xDt}, xK S v0 1 → xK S v1 10 → xK S v2 10 → xK S v3 3 → rec_15 v0 v1 v2 v3 v4 v5 D = some r → yEx md_X1_changeAtoms 5 15 [(0, .ref v0), (1, .ref v1), (2, .ref v2), (3, .ref v3), (4, .int v4), (5, .int v5)] [] S D (xQv S r)) {v0 : Nat} {v1 : Nat} {v2 : Nat} {v3 : Nat} {v4 : Int32} {v5 : Int32} {D : xDt} {r : xDt} (k0 : xK S v0 1) (k1 : xK S v1 10) (k2 : xK S v2 10) (k3 : xK S v3 3) (h : f_X1_changeAtoms_63 F P S rec_3 rec_15 v0 v1 v2 v3 v4 v5 D = some r) : yEx md_X1_changeAtoms 5 63 [(0, .ref v0), (1, .ref v1), (2, .ref v2), (3, .ref v3), (4, .int v4), (5, .int v5)] [] S D (xQv S r) := by
  unfold f_X1_changeAtoms_63 at h
  refine xlet_e h (fun v5_1 ev5_1 h => ?_)
  refine y_iinc v5_1 ev5_1 (by decide) [(5, .int v5_1), (0, .ref v0), (1, .ref v1), (2, .ref v2), (3, .ref v3), (4, .int v4)] dX1_changeAtoms_63 5 rfl (by show _ < 7; decide) rfl ?_
  refine x_goto 15 dX1_changeAtoms_66 (by decide) ?_
  refine x_lv (lv' := [(0, .ref v0), (1, .ref v1), (2, .ref v2), (3, .ref v3), (4, .int v4), (5, .int v5_1)]) [1, 2, 3, 4, 5, 0] rfl ?_
  exact hrec_15 k0 k1 k2 k3 h

def f_X1_changeAtoms_15s (F P : Nat) (S : xSt) (rec_3 : Nat → Nat → Nat → Nat → Int32 → xDt → Option (xDt)) (rec_15 : Nat → Nat → Nat → Nat → Int32 → Int32 → xDt → Option (xDt)) (v0 : Nat) (v1 : Nat) (v2 : Nat) (v3 : Nat) (v4 : Int32) (v5 : Int32) (D : xDt) : Option (xDt) :=
  if 8 ≤ v5 then (xlet (v4 + 1) fun v4_1 => rec_3 v0 v1 v2 v3 v4_1 D) else (xgrd (xin (((v4 * 9) + 1) + v5) (xl S (xr S v0 1))) (if (D.1 (xr S (xr S v0 1) (((v4 * 9) + 1) + v5).toNatClampNeg) 1) ≤ 0 then (f_X1_changeAtoms_63 F P S rec_3 rec_15 v0 v1 v2 v3 v4 v5 D) else ((f_X3_where F P S v3 (xr S (xr S v0 1) (((v4 * 9) + 1) + v5).toNatClampNeg) v2 D).bind fun q3 => (f_X1_changeAtom F P S v0 v1 v4 v5 q3.1 q3.2).bind fun q4 => f_X1_changeAtoms_63 F P S rec_3 rec_15 v0 v1 v2 v3 v4 v5 q4)))
def f_X1_changeAtoms_15 (F P : Nat) (S : xSt) (rec_3 : Nat → Nat → Nat → Nat → Int32 → xDt → Option (xDt)) : Nat → Nat → Nat → Nat → Nat → Int32 → Int32 → xDt → Option (xDt)
  | 0 => fun _ _ _ _ _ _ _ => none
  | n + 1 => f_X1_changeAtoms_15s F P S rec_3 (f_X1_changeAtoms_15 F P S rec_3 n)
set_option maxHeartbeats 4000000 in
theorem t_X1_changeAtoms_15s {F P : Nat} {S : xSt} (hS : xWF S) {rec_3 : Nat → Nat → Nat → Nat → Int32 → xDt → Option (xDt)} (hrec_3 : ∀ {v0 : Nat} {v1 : Nat} {v2 : Nat} {v3 : Nat} {v4 : Int32} {D : xDt} {r : xDt}, xK S v0 1 → xK S v1 10 → xK S v2 10 → xK S v3 3 → rec_3 v0 v1 v2 v3 v4 D = some r → yEx md_X1_changeAtoms 5 3 [(0, .ref v0), (1, .ref v1), (2, .ref v2), (3, .ref v3), (4, .int v4)] [] S D (xQv S r)) {rec_15 : Nat → Nat → Nat → Nat → Int32 → Int32 → xDt → Option (xDt)} (hrec_15 : ∀ {v0 : Nat} {v1 : Nat} {v2 : Nat} {v3 : Nat} {v4 : Int32} {v5 : Int32} {D : xDt} {r : xDt}, xK S v0 1 → xK S v1 10 → xK S v2 10 → xK S v3 3 → rec_15 v0 v1 v2 v3 v4 v5 D = some r → yEx md_X1_changeAtoms 5 15 [(0, .ref v0), (1, .ref v1), (2, .ref v2), (3, .ref v3), (4, .int v4), (5, .int v5)] [] S D (xQv S r)) {v0 : Nat} {v1 : Nat} {v2 : Nat} {v3 : Nat} {v4 : Int32} {v5 : Int32} {D : xDt} {r : xDt} (k0 : xK S v0 1) (k1 : xK S v1 10) (k2 : xK S v2 10) (k3 : xK S v3 3) (h : f_X1_changeAtoms_15s F P S rec_3 rec_15 v0 v1 v2 v3 v4 v5 D = some r) : yEx md_X1_changeAtoms 5 15 [(0, .ref v0), (1, .ref v1), (2, .ref v2), (3, .ref v3), (4, .int v4), (5, .int v5)] [] S D (xQv S r) := by
  unfold f_X1_changeAtoms_15s at h
  refine x_iload dX1_changeAtoms_15 5 rfl ?_
  refine x_bipush 8 dX1_changeAtoms_17 (by decide) ?_
  refine x_icmp_ge 69 dX1_changeAtoms_19 (by decide) (fun c => ?_) (fun c => ?_)
  · rw [if_pos c] at h
    refine xlet_e h (fun v4_1 ev4_1 h => ?_)
    refine y_iinc v4_1 ev4_1 (by decide) [(4, .int v4_1), (0, .ref v0), (1, .ref v1), (2, .ref v2), (3, .ref v3), (5, .int v5)] dX1_changeAtoms_69 4 rfl (by show _ < 7; decide) rfl ?_
    refine x_goto 3 dX1_changeAtoms_72 (by decide) ?_
    refine x_lv (lv' := [(0, .ref v0), (1, .ref v1), (2, .ref v2), (3, .ref v3), (4, .int v4_1)]) [1, 2, 3, 4, 0] rfl ?_
    exact hrec_3 k0 k1 k2 k3 h
  · rw [if_neg c] at h
    refine x_aload_n dX1_changeAtoms_22 0 rfl ?_
    refine y_getr (kd := 202) hS fl_RX1_13 dX1_changeAtoms_23 rfl k0 ?_
    refine x_iload dX1_changeAtoms_26 4 rfl ?_
    refine x_bipush 9 dX1_changeAtoms_28 (by decide) ?_
    refine x_imul dX1_changeAtoms_30 ?_
    refine x_iconst 1 dX1_changeAtoms_31 (by decide) ?_
    refine x_iadd dX1_changeAtoms_32 ?_
    refine x_iload dX1_changeAtoms_33 5 rfl ?_
    refine x_iadd dX1_changeAtoms_35 ?_
    refine xgrd_e h (fun g2 h => ?_)
    refine y_aald hS dX1_changeAtoms_36 ((hS.f k0 1 202 rfl).2) (by decide) g2 ?_
    refine x_astore [(6, .ref (xr S (xr S v0 1) (((v4 * 9) + 1) + v5).toNatClampNeg)), (0, .ref v0), (1, .ref v1), (2, .ref v2), (3, .ref v3), (4, .int v4), (5, .int v5)] dX1_changeAtoms_37 (by show _ < 7; decide) rfl ?_
    refine x_aload dX1_changeAtoms_39 0 rfl ?_
    refine y_geti fl_RX1_38 dX1_changeAtoms_41 rfl ((hS.e ((hS.f k0 1 202 rfl).2) (by decide) (xin_lt g2)).2) ?_
    refine x_if_le 63 dX1_changeAtoms_44 (by decide) (fun c => ?_) (fun c => ?_)
    · rw [if_pos c] at h
      refine x_lv (lv' := [(0, .ref v0), (1, .ref v1), (2, .ref v2), (3, .ref v3), (4, .int v4), (5, .int v5)]) [1, 2, 3, 4, 5, 6] rfl ?_
      exact t_X1_changeAtoms_63 hS hrec_3 hrec_15 k0 k1 k2 k3 h
    · rw [if_neg c] at h
      refine x_aload_n dX1_changeAtoms_47 1 rfl ?_
      refine x_aload_n dX1_changeAtoms_48 2 rfl ?_
      refine x_iload dX1_changeAtoms_49 5 rfl ?_
      refine x_iload dX1_changeAtoms_51 6 rfl ?_
      refine x_aload_n dX1_changeAtoms_53 4 rfl ?_
      refine x_aload dX1_changeAtoms_54 0 rfl ?_
      refine x_aload_n dX1_changeAtoms_56 3 rfl ?_
      refine xbnd_e h (fun q3 e3 h => ?_)
      refine y_callVl (As := [.ref (xr S (xr S v0 1) (((v4 * 9) + 1) + v5).toNatClampNeg), .ref v2]) (q := q3) cv_RX1_49 dX1_changeAtoms_57 k3 rfl (Nat.le_of_ble_eq_true rfl) (by omega) (S_X3_where hS k3 ((hS.e ((hS.f k0 1 202 rfl).2) (by decide) (xin_lt g2)).2) k2 e3) ?_
      refine xbnd_e h (fun q4 e4 h => ?_)
      refine y_callVv (As := [.ref v1, .int v4, .int v5, .long q3.1]) (q := q4) cv_RX1_63 dX1_changeAtoms_60 k0 rfl (Nat.le_of_ble_eq_true rfl) (by omega) (S_X1_changeAtom hS k0 k1 e4) ?_
      refine x_lv (lv' := [(0, .ref v0), (1, .ref v1), (2, .ref v2), (3, .ref v3), (4, .int v4), (5, .int v5)]) [1, 2, 3, 4, 5, 6] rfl ?_
      exact t_X1_changeAtoms_63 hS hrec_3 hrec_15 k0 k1 k2 k3 h
theorem t_X1_changeAtoms_15 {F P : Nat} {S : xSt} (hS : xWF S) {rec_3 : Nat → Nat → Nat → Nat → Int32 → xDt → Option (xDt)} (hrec_3 : ∀ {v0 : Nat} {v1 : Nat} {v2 : Nat} {v3 : Nat} {v4 : Int32} {D : xDt} {r : xDt}, xK S v0 1 → xK S v1 10 → xK S v2 10 → xK S v3 3 → rec_3 v0 v1 v2 v3 v4 D = some r → yEx md_X1_changeAtoms 5 3 [(0, .ref v0), (1, .ref v1), (2, .ref v2), (3, .ref v3), (4, .int v4)] [] S D (xQv S r)) : ∀ (n : Nat) {v0 : Nat} {v1 : Nat} {v2 : Nat} {v3 : Nat} {v4 : Int32} {v5 : Int32} {D : xDt} {r : xDt}, xK S v0 1 → xK S v1 10 → xK S v2 10 → xK S v3 3 → f_X1_changeAtoms_15 F P S rec_3 n v0 v1 v2 v3 v4 v5 D = some r → yEx md_X1_changeAtoms 5 15 [(0, .ref v0), (1, .ref v1), (2, .ref v2), (3, .ref v3), (4, .int v4), (5, .int v5)] [] S D (xQv S r) := by
  intro n
  induction n with
  | zero => intros; rename_i h; cases h
  | succ n ih =>
    intro v0 v1 v2 v3 v4 v5 D r k0 k1 k2 k3 h
    exact t_X1_changeAtoms_15s hS hrec_3 (fun k0 k1 k2 k3 h => ih k0 k1 k2 k3 h) k0 k1 k2 k3 h

def f_X1_changeAtoms_3s (F P : Nat) (S : xSt) (rec_3 : Nat → Nat → Nat → Nat → Int32 → xDt → Option (xDt)) (v0 : Nat) (v1 : Nat) (v2 : Nat) (v3 : Nat) (v4 : Int32) (D : xDt) : Option (xDt) :=
  if (D.1 v0 0) ≤ v4 then (some D) else (f_X1_changeAtoms_15 F P S rec_3 F v0 v1 v2 v3 v4 0 D)
def f_X1_changeAtoms_3 (F P : Nat) (S : xSt) : Nat → Nat → Nat → Nat → Nat → Int32 → xDt → Option (xDt)
  | 0 => fun _ _ _ _ _ _ => none
  | n + 1 => f_X1_changeAtoms_3s F P S (f_X1_changeAtoms_3 F P S n)
set_option maxHeartbeats 4000000 in
theorem t_X1_changeAtoms_3s {F P : Nat} {S : xSt} (hS : xWF S) {rec_3 : Nat → Nat → Nat → Nat → Int32 → xDt → Option (xDt)} (hrec_3 : ∀ {v0 : Nat} {v1 : Nat} {v2 : Nat} {v3 : Nat} {v4 : Int32} {D : xDt} {r : xDt}, xK S v0 1 → xK S v1 10 → xK S v2 10 → xK S v3 3 → rec_3 v0 v1 v2 v3 v4 D = some r → yEx md_X1_changeAtoms 5 3 [(0, .ref v0), (1, .ref v1), (2, .ref v2), (3, .ref v3), (4, .int v4)] [] S D (xQv S r)) {v0 : Nat} {v1 : Nat} {v2 : Nat} {v3 : Nat} {v4 : Int32} {D : xDt} {r : xDt} (k0 : xK S v0 1) (k1 : xK S v1 10) (k2 : xK S v2 10) (k3 : xK S v3 3) (h : f_X1_changeAtoms_3s F P S rec_3 v0 v1 v2 v3 v4 D = some r) : yEx md_X1_changeAtoms 5 3 [(0, .ref v0), (1, .ref v1), (2, .ref v2), (3, .ref v3), (4, .int v4)] [] S D (xQv S r) := by
  unfold f_X1_changeAtoms_3s at h
  refine x_iload dX1_changeAtoms_3 4 rfl ?_
  refine x_aload_n dX1_changeAtoms_5 0 rfl ?_
  refine y_geti fl_RX1_34 dX1_changeAtoms_6 rfl k0 ?_
  refine x_icmp_ge 75 dX1_changeAtoms_9 (by decide) (fun c => ?_) (fun c => ?_)
  · rw [if_pos c] at h
    obtain rfl := Option.some.inj h
    exact y_vret rfl dX1_changeAtoms_75
  · rw [if_neg c] at h
    refine x_iconst 0 dX1_changeAtoms_12 (by decide) ?_
    refine y_istore 0 rfl [(5, .int 0), (0, .ref v0), (1, .ref v1), (2, .ref v2), (3, .ref v3), (4, .int v4)] dX1_changeAtoms_13 (by show _ < 7; decide) rfl ?_
    refine x_lv (lv' := [(0, .ref v0), (1, .ref v1), (2, .ref v2), (3, .ref v3), (4, .int v4), (5, .int 0)]) [1, 2, 3, 4, 5, 0] rfl ?_
    exact t_X1_changeAtoms_15 hS hrec_3 F k0 k1 k2 k3 h
theorem t_X1_changeAtoms_3 {F P : Nat} {S : xSt} (hS : xWF S) : ∀ (n : Nat) {v0 : Nat} {v1 : Nat} {v2 : Nat} {v3 : Nat} {v4 : Int32} {D : xDt} {r : xDt}, xK S v0 1 → xK S v1 10 → xK S v2 10 → xK S v3 3 → f_X1_changeAtoms_3 F P S n v0 v1 v2 v3 v4 D = some r → yEx md_X1_changeAtoms 5 3 [(0, .ref v0), (1, .ref v1), (2, .ref v2), (3, .ref v3), (4, .int v4)] [] S D (xQv S r) := by
  intro n
  induction n with
  | zero => intros; rename_i h; cases h
  | succ n ih =>
    intro v0 v1 v2 v3 v4 D r k0 k1 k2 k3 h
    exact t_X1_changeAtoms_3s hS (fun k0 k1 k2 k3 h => ih k0 k1 k2 k3 h) k0 k1 k2 k3 h

def f_X1_changeAtoms (F P : Nat) (S : xSt) (v0 : Nat) (v1 : Nat) (v2 : Nat) (v3 : Nat) (D : xDt) : Option (xDt) :=
  f_X1_changeAtoms_3 F P S F v0 v1 v2 v3 0 D
set_option maxHeartbeats 4000000 in
theorem S_X1_changeAtoms {F P : Nat} {S : xSt} (hS : xWF S) {v0 : Nat} {v1 : Nat} {v2 : Nat} {v3 : Nat} {D : xDt} {r : xDt} (k0 : xK S v0 1) (k1 : xK S v1 10) (k2 : xK S v2 10) (k3 : xK S v3 3) (h : f_X1_changeAtoms F P S v0 v1 v2 v3 D = some r) : xSp md_X1_changeAtoms (5, 0, 0) [.ref v0, .ref v1, .ref v2, .ref v3] (S, D) (xQv S r) := by
  unfold f_X1_changeAtoms at h
  refine xEntry (by decide) (Nat.le_of_ble_eq_true rfl) ?_
  refine x_lv (lv' := [(0, .ref v0), (1, .ref v1), (2, .ref v2), (3, .ref v3)]) [0, 1, 2, 3] rfl ?_
  refine x_iconst 0 dX1_changeAtoms_0 (by decide) ?_
  refine y_istore 0 rfl [(4, .int 0), (0, .ref v0), (1, .ref v1), (2, .ref v2), (3, .ref v3)] dX1_changeAtoms_1 (by show _ < 7; decide) rfl ?_
  refine x_lv (lv' := [(0, .ref v0), (1, .ref v1), (2, .ref v2), (3, .ref v3), (4, .int 0)]) [1, 2, 3, 4, 0] rfl ?_
  exact t_X1_changeAtoms_3 hS F k0 k1 k2 k3 h

theorem dX2_add_0 : decode cX2_add 0 = .ok (.aload_n 0, 1) := by decide +kernel
theorem dX2_add_1 : decode cX2_add 1 = .ok (.getfield 19, 3) := by decide +kernel
theorem dX2_add_4 : decode cX2_add 4 = .ok (.aload_n 0, 1) := by decide +kernel
theorem dX2_add_5 : decode cX2_add 5 = .ok (.getfield 13, 3) := by decide +kernel
theorem dX2_add_8 : decode cX2_add 8 = .ok (.arraylength, 1) := by decide +kernel
theorem dX2_add_9 : decode cX2_add 9 = .ok (.if_icmp .lt 5, 3) := by decide +kernel
theorem dX2_add_12 : decode cX2_add 12 = .ok (.iconst 0, 1) := by decide +kernel
theorem dX2_add_13 : decode cX2_add 13 = .ok (.ireturn, 1) := by decide +kernel
theorem dX2_add_14 : decode cX2_add 14 = .ok (.aload_n 0, 1) := by decide +kernel
theorem dX2_add_15 : decode cX2_add 15 = .ok (.getfield 13, 3) := by decide +kernel
theorem dX2_add_18 : decode cX2_add 18 = .ok (.aload_n 0, 1) := by decide +kernel
theorem dX2_add_19 : decode cX2_add 19 = .ok (.dup, 1) := by decide +kernel
theorem dX2_add_20 : decode cX2_add 20 = .ok (.getfield 19, 3) := by decide +kernel
theorem dX2_add_23 : decode cX2_add 23 = .ok (.dup_x1, 1) := by decide +kernel
theorem dX2_add_24 : decode cX2_add 24 = .ok (.iconst 1, 1) := by decide +kernel
theorem dX2_add_25 : decode cX2_add 25 = .ok (.iadd, 1) := by decide +kernel
theorem dX2_add_26 : decode cX2_add 26 = .ok (.putfield 19, 3) := by decide +kernel
theorem dX2_add_29 : decode cX2_add 29 = .ok (.iload_n 1, 1) := by decide +kernel
theorem dX2_add_30 : decode cX2_add 30 = .ok (.iastore, 1) := by decide +kernel
theorem dX2_add_31 : decode cX2_add 31 = .ok (.iconst 1, 1) := by decide +kernel
theorem dX2_add_32 : decode cX2_add 32 = .ok (.ireturn, 1) := by decide +kernel
def f_X2_add (F P : Nat) (S : xSt) (v0 : Nat) (v1 : Int32) (D : xDt) : Option (Int32 × xDt) :=
  if (D.1 v0 1) < (Int32.ofNat (xl S (xr S v0 0))) then (xlet (xup D.1 v0 1 ((D.1 v0 1) + 1), D.2) fun D1 => xgrd (xin (D.1 v0 1) (xl S (xr S v0 0))) (xlet (xup D1.1 (xr S v0 0) (D.1 v0 1).toNatClampNeg v1, D1.2) fun D3 => some (1, D3))) else (some (0, D))
set_option maxHeartbeats 4000000 in
theorem S_X2_add {F P : Nat} {S : xSt} (hS : xWF S) {v0 : Nat} {v1 : Int32} {D : xDt} {r : Int32 × xDt} (k0 : xK S v0 2) (h : f_X2_add F P S v0 v1 D = some r) : xSp md_X2_add (0, 0, 0) [.ref v0, .int v1] (S, D) (xQi S r) := by
  unfold f_X2_add at h
  refine xEntry (by decide) (Nat.le_of_ble_eq_true rfl) ?_
  refine x_lv (lv' := [(0, .ref v0), (1, .int v1)]) [0, 1] rfl ?_
  refine x_aload_n dX2_add_0 0 rfl ?_
  refine y_geti fl_RX2_19 dX2_add_1 rfl k0 ?_
  refine x_aload_n dX2_add_4 0 rfl ?_
  refine y_getr (kd := 100) hS fl_RX2_13 dX2_add_5 rfl k0 ?_
  refine y_alen dX2_add_8 ((hS.f k0 0 100 rfl).2) (by decide) ?_
  refine x_icmp_lt 14 dX2_add_9 (by decide) (fun c => ?_) (fun c => ?_)
  · rw [if_pos c] at h
    refine x_aload_n dX2_add_14 0 rfl ?_
    refine y_getr (kd := 100) hS fl_RX2_13 dX2_add_15 rfl k0 ?_
    refine x_aload_n dX2_add_18 0 rfl ?_
    refine x_dup dX2_add_19 rfl ?_
    refine y_geti fl_RX2_19 dX2_add_20 rfl k0 ?_
    refine x_dup_x1 dX2_add_23 rfl rfl ?_
    refine x_iconst 1 dX2_add_24 (by decide) ?_
    refine x_iadd dX2_add_25 ?_
    refine xlet_e h (fun D1 eD1 h => ?_)
    refine y_puti fp_RX2_19 dX2_add_26 rfl k0 eD1 ?_
    refine x_iload_n dX2_add_29 1 rfl ?_
    refine xgrd_e h (fun g2 h => ?_)
    refine xlet_e h (fun D3 eD3 h => ?_)
    refine y_iast dX2_add_30 ((hS.f k0 0 100 rfl).2) g2 eD3 ?_
    refine x_iconst 1 dX2_add_31 (by decide) ?_
    obtain rfl := Option.some.inj h
    exact y_zret rfl rfl dX2_add_32
  · rw [if_neg c] at h
    refine x_iconst 0 dX2_add_12 (by decide) ?_
    obtain rfl := Option.some.inj h
    exact y_zret rfl rfl dX2_add_13

theorem dX2_insert_0 : decode cX2_insert 0 = .ok (.iload_n 1, 1) := by decide +kernel
theorem dX2_insert_1 : decode cX2_insert 1 = .ok (.ifCond .lt 23, 3) := by decide +kernel
theorem dX2_insert_4 : decode cX2_insert 4 = .ok (.iload_n 1, 1) := by decide +kernel
theorem dX2_insert_5 : decode cX2_insert 5 = .ok (.aload_n 0, 1) := by decide +kernel
theorem dX2_insert_6 : decode cX2_insert 6 = .ok (.getfield 19, 3) := by decide +kernel
theorem dX2_insert_9 : decode cX2_insert 9 = .ok (.if_icmp .gt 15, 3) := by decide +kernel
theorem dX2_insert_12 : decode cX2_insert 12 = .ok (.aload_n 0, 1) := by decide +kernel
theorem dX2_insert_13 : decode cX2_insert 13 = .ok (.getfield 19, 3) := by decide +kernel
theorem dX2_insert_16 : decode cX2_insert 16 = .ok (.aload_n 0, 1) := by decide +kernel
theorem dX2_insert_17 : decode cX2_insert 17 = .ok (.getfield 13, 3) := by decide +kernel
theorem dX2_insert_20 : decode cX2_insert 20 = .ok (.arraylength, 1) := by decide +kernel
theorem dX2_insert_21 : decode cX2_insert 21 = .ok (.if_icmp .lt 5, 3) := by decide +kernel
theorem dX2_insert_24 : decode cX2_insert 24 = .ok (.iconst 0, 1) := by decide +kernel
theorem dX2_insert_25 : decode cX2_insert 25 = .ok (.ireturn, 1) := by decide +kernel
theorem dX2_insert_26 : decode cX2_insert 26 = .ok (.aload_n 0, 1) := by decide +kernel
theorem dX2_insert_27 : decode cX2_insert 27 = .ok (.getfield 19, 3) := by decide +kernel
theorem dX2_insert_30 : decode cX2_insert 30 = .ok (.istore_n 3, 1) := by decide +kernel
theorem dX2_insert_31 : decode cX2_insert 31 = .ok (.iload_n 3, 1) := by decide +kernel
theorem dX2_insert_32 : decode cX2_insert 32 = .ok (.iload_n 1, 1) := by decide +kernel
theorem dX2_insert_33 : decode cX2_insert 33 = .ok (.if_icmp .le 23, 3) := by decide +kernel
theorem dX2_insert_36 : decode cX2_insert 36 = .ok (.aload_n 0, 1) := by decide +kernel
theorem dX2_insert_37 : decode cX2_insert 37 = .ok (.getfield 13, 3) := by decide +kernel
theorem dX2_insert_40 : decode cX2_insert 40 = .ok (.iload_n 3, 1) := by decide +kernel
theorem dX2_insert_41 : decode cX2_insert 41 = .ok (.aload_n 0, 1) := by decide +kernel
theorem dX2_insert_42 : decode cX2_insert 42 = .ok (.getfield 13, 3) := by decide +kernel
theorem dX2_insert_45 : decode cX2_insert 45 = .ok (.iload_n 3, 1) := by decide +kernel
theorem dX2_insert_46 : decode cX2_insert 46 = .ok (.iconst 1, 1) := by decide +kernel
theorem dX2_insert_47 : decode cX2_insert 47 = .ok (.isub, 1) := by decide +kernel
theorem dX2_insert_48 : decode cX2_insert 48 = .ok (.iaload, 1) := by decide +kernel
theorem dX2_insert_49 : decode cX2_insert 49 = .ok (.iastore, 1) := by decide +kernel
theorem dX2_insert_50 : decode cX2_insert 50 = .ok (.iinc 3 (-1), 3) := by decide +kernel
theorem dX2_insert_53 : decode cX2_insert 53 = .ok (.goto (-22), 3) := by decide +kernel
theorem dX2_insert_56 : decode cX2_insert 56 = .ok (.aload_n 0, 1) := by decide +kernel
theorem dX2_insert_57 : decode cX2_insert 57 = .ok (.getfield 13, 3) := by decide +kernel
theorem dX2_insert_60 : decode cX2_insert 60 = .ok (.iload_n 1, 1) := by decide +kernel
theorem dX2_insert_61 : decode cX2_insert 61 = .ok (.iload_n 2, 1) := by decide +kernel
theorem dX2_insert_62 : decode cX2_insert 62 = .ok (.iastore, 1) := by decide +kernel
theorem dX2_insert_63 : decode cX2_insert 63 = .ok (.aload_n 0, 1) := by decide +kernel
theorem dX2_insert_64 : decode cX2_insert 64 = .ok (.dup, 1) := by decide +kernel
theorem dX2_insert_65 : decode cX2_insert 65 = .ok (.getfield 19, 3) := by decide +kernel
theorem dX2_insert_68 : decode cX2_insert 68 = .ok (.iconst 1, 1) := by decide +kernel
theorem dX2_insert_69 : decode cX2_insert 69 = .ok (.iadd, 1) := by decide +kernel
theorem dX2_insert_70 : decode cX2_insert 70 = .ok (.putfield 19, 3) := by decide +kernel
theorem dX2_insert_73 : decode cX2_insert 73 = .ok (.iconst 1, 1) := by decide +kernel
theorem dX2_insert_74 : decode cX2_insert 74 = .ok (.ireturn, 1) := by decide +kernel
def f_X2_insert_31s (F P : Nat) (S : xSt) (rec_31 : Nat → Int32 → Int32 → Int32 → xDt → Option (Int32 × xDt)) (v0 : Nat) (v1 : Int32) (v2 : Int32) (v3 : Int32) (D : xDt) : Option (Int32 × xDt) :=
  if v3 ≤ v1 then (xgrd (xin v1 (xl S (xr S v0 0))) (xlet (xup D.1 (xr S v0 0) (v1).toNatClampNeg v2, D.2) fun D2 => xlet (xup D2.1 v0 1 ((D2.1 v0 1) + 1), D2.2) fun D3 => some (1, D3))) else (xgrd (xin (v3 - 1) (xl S (xr S v0 0))) (xgrd (xin v3 (xl S (xr S v0 0))) (xlet (xup D.1 (xr S v0 0) (v3).toNatClampNeg (D.1 (xr S v0 0) (v3 - 1).toNatClampNeg), D.2) fun D6 => xlet (v3 + (-1)) fun v3_7 => rec_31 v0 v1 v2 v3_7 D6)))
def f_X2_insert_31 (F P : Nat) (S : xSt) : Nat → Nat → Int32 → Int32 → Int32 → xDt → Option (Int32 × xDt)
  | 0 => fun _ _ _ _ _ => none
  | n + 1 => f_X2_insert_31s F P S (f_X2_insert_31 F P S n)
set_option maxHeartbeats 4000000 in
theorem t_X2_insert_31s {F P : Nat} {S : xSt} (hS : xWF S) {rec_31 : Nat → Int32 → Int32 → Int32 → xDt → Option (Int32 × xDt)} (hrec_31 : ∀ {v0 : Nat} {v1 : Int32} {v2 : Int32} {v3 : Int32} {D : xDt} {r : Int32 × xDt}, xK S v0 2 → rec_31 v0 v1 v2 v3 D = some r → yEx md_X2_insert 0 31 [(0, .ref v0), (1, .int v1), (2, .int v2), (3, .int v3)] [] S D (xQi S r)) {v0 : Nat} {v1 : Int32} {v2 : Int32} {v3 : Int32} {D : xDt} {r : Int32 × xDt} (k0 : xK S v0 2) (h : f_X2_insert_31s F P S rec_31 v0 v1 v2 v3 D = some r) : yEx md_X2_insert 0 31 [(0, .ref v0), (1, .int v1), (2, .int v2), (3, .int v3)] [] S D (xQi S r) := by
  unfold f_X2_insert_31s at h
  refine x_iload_n dX2_insert_31 3 rfl ?_
  refine x_iload_n dX2_insert_32 1 rfl ?_
  refine x_icmp_le 56 dX2_insert_33 (by decide) (fun c => ?_) (fun c => ?_)
  · rw [if_pos c] at h
    refine x_aload_n dX2_insert_56 0 rfl ?_
    refine y_getr (kd := 100) hS fl_RX2_13 dX2_insert_57 rfl k0 ?_
    refine x_iload_n dX2_insert_60 1 rfl ?_
    refine x_iload_n dX2_insert_61 2 rfl ?_
    refine xgrd_e h (fun g1 h => ?_)
    refine xlet_e h (fun D2 eD2 h => ?_)
    refine y_iast dX2_insert_62 ((hS.f k0 0 100 rfl).2) g1 eD2 ?_
    refine x_aload_n dX2_insert_63 0 rfl ?_
    refine x_dup dX2_insert_64 rfl ?_
    refine y_geti fl_RX2_19 dX2_insert_65 rfl k0 ?_
    refine x_iconst 1 dX2_insert_68 (by decide) ?_
    refine x_iadd dX2_insert_69 ?_
    refine xlet_e h (fun D3 eD3 h => ?_)
    refine y_puti fp_RX2_19 dX2_insert_70 rfl k0 eD3 ?_
    refine x_iconst 1 dX2_insert_73 (by decide) ?_
    obtain rfl := Option.some.inj h
    exact y_zret rfl rfl dX2_insert_74
  · rw [if_neg c] at h
    refine x_aload_n dX2_insert_36 0 rfl ?_
    refine y_getr (kd := 100) hS fl_RX2_13 dX2_insert_37 rfl k0 ?_
    refine x_iload_n dX2_insert_40 3 rfl ?_
    refine x_aload_n dX2_insert_41 0 rfl ?_
    refine y_getr (kd := 100) hS fl_RX2_13 dX2_insert_42 rfl k0 ?_
    refine x_iload_n dX2_insert_45 3 rfl ?_
    refine x_iconst 1 dX2_insert_46 (by decide) ?_
    refine x_isub dX2_insert_47 ?_
    refine xgrd_e h (fun g4 h => ?_)
    refine y_iald dX2_insert_48 ((hS.f k0 0 100 rfl).2) g4 ?_
    refine xgrd_e h (fun g5 h => ?_)
    refine xlet_e h (fun D6 eD6 h => ?_)
    refine y_iast dX2_insert_49 ((hS.f k0 0 100 rfl).2) g5 eD6 ?_
    refine xlet_e h (fun v3_7 ev3_7 h => ?_)
    refine y_iinc v3_7 ev3_7 (by decide) [(3, .int v3_7), (0, .ref v0), (1, .int v1), (2, .int v2)] dX2_insert_50 3 rfl (by show _ < 4; decide) rfl ?_
    refine x_goto 31 dX2_insert_53 (by decide) ?_
    refine x_lv (lv' := [(0, .ref v0), (1, .int v1), (2, .int v2), (3, .int v3_7)]) [1, 2, 3, 0] rfl ?_
    exact hrec_31 k0 h
theorem t_X2_insert_31 {F P : Nat} {S : xSt} (hS : xWF S) : ∀ (n : Nat) {v0 : Nat} {v1 : Int32} {v2 : Int32} {v3 : Int32} {D : xDt} {r : Int32 × xDt}, xK S v0 2 → f_X2_insert_31 F P S n v0 v1 v2 v3 D = some r → yEx md_X2_insert 0 31 [(0, .ref v0), (1, .int v1), (2, .int v2), (3, .int v3)] [] S D (xQi S r) := by
  intro n
  induction n with
  | zero => intros; rename_i h; cases h
  | succ n ih =>
    intro v0 v1 v2 v3 D r k0 h
    exact t_X2_insert_31s hS (fun k0 h => ih k0 h) k0 h

def f_X2_insert (F P : Nat) (S : xSt) (v0 : Nat) (v1 : Int32) (v2 : Int32) (D : xDt) : Option (Int32 × xDt) :=
  if v1 < 0 then (some (0, D)) else (if (D.1 v0 1) < v1 then (some (0, D)) else (if (D.1 v0 1) < (Int32.ofNat (xl S (xr S v0 0))) then (xlet (D.1 v0 1) fun v3_1 => f_X2_insert_31 F P S F v0 v1 v2 v3_1 D) else (some (0, D))))
set_option maxHeartbeats 4000000 in
theorem S_X2_insert {F P : Nat} {S : xSt} (hS : xWF S) {v0 : Nat} {v1 : Int32} {v2 : Int32} {D : xDt} {r : Int32 × xDt} (k0 : xK S v0 2) (h : f_X2_insert F P S v0 v1 v2 D = some r) : xSp md_X2_insert (0, 0, 0) [.ref v0, .int v1, .int v2] (S, D) (xQi S r) := by
  unfold f_X2_insert at h
  refine xEntry (by decide) (Nat.le_of_ble_eq_true rfl) ?_
  refine x_lv (lv' := [(0, .ref v0), (1, .int v1), (2, .int v2)]) [0, 1, 2] rfl ?_
  refine x_iload_n dX2_insert_0 1 rfl ?_
  refine x_if_lt 24 dX2_insert_1 (by decide) (fun c => ?_) (fun c => ?_)
  · rw [if_pos c] at h
    refine x_iconst 0 dX2_insert_24 (by decide) ?_
    obtain rfl := Option.some.inj h
    exact y_zret rfl rfl dX2_insert_25
  · rw [if_neg c] at h
    refine x_iload_n dX2_insert_4 1 rfl ?_
    refine x_aload_n dX2_insert_5 0 rfl ?_
    refine y_geti fl_RX2_19 dX2_insert_6 rfl k0 ?_
    refine x_icmp_gt 24 dX2_insert_9 (by decide) (fun c => ?_) (fun c => ?_)
    · rw [if_pos c] at h
      refine x_iconst 0 dX2_insert_24 (by decide) ?_
      obtain rfl := Option.some.inj h
      exact y_zret rfl rfl dX2_insert_25
    · rw [if_neg c] at h
      refine x_aload_n dX2_insert_12 0 rfl ?_
      refine y_geti fl_RX2_19 dX2_insert_13 rfl k0 ?_
      refine x_aload_n dX2_insert_16 0 rfl ?_
      refine y_getr (kd := 100) hS fl_RX2_13 dX2_insert_17 rfl k0 ?_
      refine y_alen dX2_insert_20 ((hS.f k0 0 100 rfl).2) (by decide) ?_
      refine x_icmp_lt 26 dX2_insert_21 (by decide) (fun c => ?_) (fun c => ?_)
      · rw [if_pos c] at h
        refine x_aload_n dX2_insert_26 0 rfl ?_
        refine y_geti fl_RX2_19 dX2_insert_27 rfl k0 ?_
        refine xlet_e h (fun v3_1 ev3_1 h => ?_)
        refine y_istore_n v3_1 ev3_1 [(3, .int v3_1), (0, .ref v0), (1, .int v1), (2, .int v2)] dX2_insert_30 (by show _ < 4; decide) rfl ?_
        refine x_lv (lv' := [(0, .ref v0), (1, .int v1), (2, .int v2), (3, .int v3_1)]) [1, 2, 3, 0] rfl ?_
        exact t_X2_insert_31 hS F k0 h
      · rw [if_neg c] at h
        refine x_iconst 0 dX2_insert_24 (by decide) ?_
        obtain rfl := Option.some.inj h
        exact y_zret rfl rfl dX2_insert_25

theorem dX11_isKnowing_0 : decode cX11_isKnowing 0 = .ok (.iload_n 0, 1) := by decide +kernel
theorem dX11_isKnowing_1 : decode cX11_isKnowing 1 = .ok (.bipush 75, 2) := by decide +kernel
theorem dX11_isKnowing_3 : decode cX11_isKnowing 3 = .ok (.if_icmp .eq 27, 3) := by decide +kernel
theorem dX11_isKnowing_6 : decode cX11_isKnowing 6 = .ok (.iload_n 0, 1) := by decide +kernel
theorem dX11_isKnowing_7 : decode cX11_isKnowing 7 = .ok (.bipush 80, 2) := by decide +kernel
theorem dX11_isKnowing_9 : decode cX11_isKnowing 9 = .ok (.if_icmp .eq 21, 3) := by decide +kernel
theorem dX11_isKnowing_12 : decode cX11_isKnowing 12 = .ok (.iload_n 0, 1) := by decide +kernel
theorem dX11_isKnowing_13 : decode cX11_isKnowing 13 = .ok (.bipush 69, 2) := by decide +kernel
theorem dX11_isKnowing_15 : decode cX11_isKnowing 15 = .ok (.if_icmp .eq 15, 3) := by decide +kernel
theorem dX11_isKnowing_18 : decode cX11_isKnowing 18 = .ok (.iload_n 0, 1) := by decide +kernel
theorem dX11_isKnowing_19 : decode cX11_isKnowing 19 = .ok (.bipush 67, 2) := by decide +kernel
theorem dX11_isKnowing_21 : decode cX11_isKnowing 21 = .ok (.if_icmp .eq 9, 3) := by decide +kernel
theorem dX11_isKnowing_24 : decode cX11_isKnowing 24 = .ok (.iload_n 0, 1) := by decide +kernel
theorem dX11_isKnowing_25 : decode cX11_isKnowing 25 = .ok (.bipush 68, 2) := by decide +kernel
theorem dX11_isKnowing_27 : decode cX11_isKnowing 27 = .ok (.if_icmp .ne 7, 3) := by decide +kernel
theorem dX11_isKnowing_30 : decode cX11_isKnowing 30 = .ok (.iconst 1, 1) := by decide +kernel
theorem dX11_isKnowing_31 : decode cX11_isKnowing 31 = .ok (.goto 4, 3) := by decide +kernel
theorem dX11_isKnowing_34 : decode cX11_isKnowing 34 = .ok (.iconst 0, 1) := by decide +kernel
theorem dX11_isKnowing_35 : decode cX11_isKnowing 35 = .ok (.ireturn, 1) := by decide +kernel
def f_X11_isKnowing_30 (F P : Nat) (S : xSt) (D : xDt) : Option (Int32 × xDt) :=
  some (1, D)
set_option maxHeartbeats 4000000 in
theorem t_X11_isKnowing_30 {F P : Nat} {S : xSt} (hS : xWF S) {D : xDt} {r : Int32 × xDt} (h : f_X11_isKnowing_30 F P S D = some r) : yEx md_X11_isKnowing 0 30 [] [] S D (xQi S r) := by
  unfold f_X11_isKnowing_30 at h
  refine x_iconst 1 dX11_isKnowing_30 (by decide) ?_
  refine x_goto 35 dX11_isKnowing_31 (by decide) ?_
  obtain rfl := Option.some.inj h
  exact y_zret rfl rfl dX11_isKnowing_35

def f_X11_isKnowing (F P : Nat) (S : xSt) (v0 : Int32) (D : xDt) : Option (Int32 × xDt) :=
  if v0 = 75 then (f_X11_isKnowing_30 F P S D) else (if v0 = 80 then (f_X11_isKnowing_30 F P S D) else (if v0 = 69 then (f_X11_isKnowing_30 F P S D) else (if v0 = 67 then (f_X11_isKnowing_30 F P S D) else (if v0 = 68 then (f_X11_isKnowing_30 F P S D) else (some (0, D))))))
set_option maxHeartbeats 4000000 in
theorem S_X11_isKnowing {F P : Nat} {S : xSt} (hS : xWF S) {v0 : Int32} {D : xDt} {r : Int32 × xDt} (h : f_X11_isKnowing F P S v0 D = some r) : xSp md_X11_isKnowing (0, 0, 0) [.int v0] (S, D) (xQi S r) := by
  unfold f_X11_isKnowing at h
  refine xEntry (by decide) (Nat.le_of_ble_eq_true rfl) ?_
  refine x_lv (lv' := [(0, .int v0)]) [0] rfl ?_
  refine x_iload_n dX11_isKnowing_0 0 rfl ?_
  refine x_bipush 75 dX11_isKnowing_1 (by decide) ?_
  refine x_icmp_eq 30 dX11_isKnowing_3 (by decide) (fun c => ?_) (fun c => ?_)
  · rw [if_pos c] at h
    refine x_lv (lv' := []) [] rfl ?_
    exact t_X11_isKnowing_30 hS h
  · rw [if_neg c] at h
    refine x_iload_n dX11_isKnowing_6 0 rfl ?_
    refine x_bipush 80 dX11_isKnowing_7 (by decide) ?_
    refine x_icmp_eq 30 dX11_isKnowing_9 (by decide) (fun c => ?_) (fun c => ?_)
    · rw [if_pos c] at h
      refine x_lv (lv' := []) [] rfl ?_
      exact t_X11_isKnowing_30 hS h
    · rw [if_neg c] at h
      refine x_iload_n dX11_isKnowing_12 0 rfl ?_
      refine x_bipush 69 dX11_isKnowing_13 (by decide) ?_
      refine x_icmp_eq 30 dX11_isKnowing_15 (by decide) (fun c => ?_) (fun c => ?_)
      · rw [if_pos c] at h
        refine x_lv (lv' := []) [] rfl ?_
        exact t_X11_isKnowing_30 hS h
      · rw [if_neg c] at h
        refine x_iload_n dX11_isKnowing_18 0 rfl ?_
        refine x_bipush 67 dX11_isKnowing_19 (by decide) ?_
        refine x_icmp_eq 30 dX11_isKnowing_21 (by decide) (fun c => ?_) (fun c => ?_)
        · rw [if_pos c] at h
          refine x_lv (lv' := []) [] rfl ?_
          exact t_X11_isKnowing_30 hS h
        · rw [if_neg c] at h
          refine x_iload_n dX11_isKnowing_24 0 rfl ?_
          refine x_bipush 68 dX11_isKnowing_25 (by decide) ?_
          refine x_icmp_ne 34 dX11_isKnowing_27 (by decide) (fun c => ?_) (fun c => ?_)
          · rw [if_neg c] at h
            refine x_iconst 0 dX11_isKnowing_34 (by decide) ?_
            obtain rfl := Option.some.inj h
            exact y_zret rfl rfl dX11_isKnowing_35
          · rw [if_pos c] at h
            refine x_lv (lv' := []) [] rfl ?_
            exact t_X11_isKnowing_30 hS h

theorem dX2_depth_0 : decode cX2_depth 0 = .ok (.iconst 0, 1) := by decide +kernel
theorem dX2_depth_1 : decode cX2_depth 1 = .ok (.istore_n 2, 1) := by decide +kernel
theorem dX2_depth_2 : decode cX2_depth 2 = .ok (.aload_n 0, 1) := by decide +kernel
theorem dX2_depth_3 : decode cX2_depth 3 = .ok (.getfield 19, 3) := by decide +kernel
theorem dX2_depth_6 : decode cX2_depth 6 = .ok (.iconst 1, 1) := by decide +kernel
theorem dX2_depth_7 : decode cX2_depth 7 = .ok (.isub, 1) := by decide +kernel
theorem dX2_depth_8 : decode cX2_depth 8 = .ok (.istore_n 3, 1) := by decide +kernel
theorem dX2_depth_9 : decode cX2_depth 9 = .ok (.iload_n 3, 1) := by decide +kernel
theorem dX2_depth_10 : decode cX2_depth 10 = .ok (.ifCond .lt 101, 3) := by decide +kernel
theorem dX2_depth_13 : decode cX2_depth 13 = .ok (.aload_n 0, 1) := by decide +kernel
theorem dX2_depth_14 : decode cX2_depth 14 = .ok (.getfield 13, 3) := by decide +kernel
theorem dX2_depth_17 : decode cX2_depth 17 = .ok (.iload_n 3, 1) := by decide +kernel
theorem dX2_depth_18 : decode cX2_depth 18 = .ok (.iaload, 1) := by decide +kernel
theorem dX2_depth_19 : decode cX2_depth 19 = .ok (.invokestatic 33, 3) := by decide +kernel
theorem dX2_depth_22 : decode cX2_depth 22 = .ok (.istore 4, 2) := by decide +kernel
theorem dX2_depth_24 : decode cX2_depth 24 = .ok (.iload 4, 2) := by decide +kernel
theorem dX2_depth_26 : decode cX2_depth 26 = .ok (.invokestatic 44, 3) := by decide +kernel
theorem dX2_depth_29 : decode cX2_depth 29 = .ok (.ifCond .eq 19, 3) := by decide +kernel
theorem dX2_depth_32 : decode cX2_depth 32 = .ok (.iload_n 2, 1) := by decide +kernel
theorem dX2_depth_33 : decode cX2_depth 33 = .ok (.aload_n 1, 1) := by decide +kernel
theorem dX2_depth_34 : decode cX2_depth 34 = .ok (.arraylength, 1) := by decide +kernel
theorem dX2_depth_35 : decode cX2_depth 35 = .ok (.if_icmp .ge 13, 3) := by decide +kernel
theorem dX2_depth_38 : decode cX2_depth 38 = .ok (.aload_n 1, 1) := by decide +kernel
theorem dX2_depth_39 : decode cX2_depth 39 = .ok (.iload_n 2, 1) := by decide +kernel
theorem dX2_depth_40 : decode cX2_depth 40 = .ok (.iinc 2 1, 3) := by decide +kernel
theorem dX2_depth_43 : decode cX2_depth 43 = .ok (.iconst 0, 1) := by decide +kernel
theorem dX2_depth_44 : decode cX2_depth 44 = .ok (.iastore, 1) := by decide +kernel
theorem dX2_depth_45 : decode cX2_depth 45 = .ok (.goto 60, 3) := by decide +kernel
theorem dX2_depth_48 : decode cX2_depth 48 = .ok (.iload 4, 2) := by decide +kernel
theorem dX2_depth_50 : decode cX2_depth 50 = .ok (.invokestatic 48, 3) := by decide +kernel
theorem dX2_depth_53 : decode cX2_depth 53 = .ok (.ifCond .eq 30, 3) := by decide +kernel
theorem dX2_depth_56 : decode cX2_depth 56 = .ok (.iload_n 2, 1) := by decide +kernel
theorem dX2_depth_57 : decode cX2_depth 57 = .ok (.iconst 2, 1) := by decide +kernel
theorem dX2_depth_58 : decode cX2_depth 58 = .ok (.if_icmp .lt 25, 3) := by decide +kernel
theorem dX2_depth_61 : decode cX2_depth 61 = .ok (.iinc 2 (-1), 3) := by decide +kernel
theorem dX2_depth_64 : decode cX2_depth 64 = .ok (.aload_n 1, 1) := by decide +kernel
theorem dX2_depth_65 : decode cX2_depth 65 = .ok (.iload_n 2, 1) := by decide +kernel
theorem dX2_depth_66 : decode cX2_depth 66 = .ok (.iconst 1, 1) := by decide +kernel
theorem dX2_depth_67 : decode cX2_depth 67 = .ok (.isub, 1) := by decide +kernel
theorem dX2_depth_68 : decode cX2_depth 68 = .ok (.aload_n 1, 1) := by decide +kernel
theorem dX2_depth_69 : decode cX2_depth 69 = .ok (.iload_n 2, 1) := by decide +kernel
theorem dX2_depth_70 : decode cX2_depth 70 = .ok (.iconst 1, 1) := by decide +kernel
theorem dX2_depth_71 : decode cX2_depth 71 = .ok (.isub, 1) := by decide +kernel
theorem dX2_depth_72 : decode cX2_depth 72 = .ok (.iaload, 1) := by decide +kernel
theorem dX2_depth_73 : decode cX2_depth 73 = .ok (.aload_n 1, 1) := by decide +kernel
theorem dX2_depth_74 : decode cX2_depth 74 = .ok (.iload_n 2, 1) := by decide +kernel
theorem dX2_depth_75 : decode cX2_depth 75 = .ok (.iaload, 1) := by decide +kernel
theorem dX2_depth_76 : decode cX2_depth 76 = .ok (.invokestatic 7, 3) := by decide +kernel
theorem dX2_depth_79 : decode cX2_depth 79 = .ok (.iastore, 1) := by decide +kernel
theorem dX2_depth_80 : decode cX2_depth 80 = .ok (.goto 25, 3) := by decide +kernel
theorem dX2_depth_83 : decode cX2_depth 83 = .ok (.iload 4, 2) := by decide +kernel
theorem dX2_depth_85 : decode cX2_depth 85 = .ok (.invokestatic 51, 3) := by decide +kernel
theorem dX2_depth_88 : decode cX2_depth 88 = .ok (.ifCond .eq 17, 3) := by decide +kernel
theorem dX2_depth_91 : decode cX2_depth 91 = .ok (.iload_n 2, 1) := by decide +kernel
theorem dX2_depth_92 : decode cX2_depth 92 = .ok (.iconst 1, 1) := by decide +kernel
theorem dX2_depth_93 : decode cX2_depth 93 = .ok (.if_icmp .lt 12, 3) := by decide +kernel
theorem dX2_depth_96 : decode cX2_depth 96 = .ok (.aload_n 1, 1) := by decide +kernel
theorem dX2_depth_97 : decode cX2_depth 97 = .ok (.iload_n 2, 1) := by decide +kernel
theorem dX2_depth_98 : decode cX2_depth 98 = .ok (.iconst 1, 1) := by decide +kernel
theorem dX2_depth_99 : decode cX2_depth 99 = .ok (.isub, 1) := by decide +kernel
theorem dX2_depth_100 : decode cX2_depth 100 = .ok (.dup2, 1) := by decide +kernel
theorem dX2_depth_101 : decode cX2_depth 101 = .ok (.iaload, 1) := by decide +kernel
theorem dX2_depth_102 : decode cX2_depth 102 = .ok (.iconst 1, 1) := by decide +kernel
theorem dX2_depth_103 : decode cX2_depth 103 = .ok (.iadd, 1) := by decide +kernel
theorem dX2_depth_104 : decode cX2_depth 104 = .ok (.iastore, 1) := by decide +kernel
theorem dX2_depth_105 : decode cX2_depth 105 = .ok (.iinc 3 (-1), 3) := by decide +kernel
theorem dX2_depth_108 : decode cX2_depth 108 = .ok (.goto (-99), 3) := by decide +kernel
theorem dX2_depth_111 : decode cX2_depth 111 = .ok (.iload_n 2, 1) := by decide +kernel
theorem dX2_depth_112 : decode cX2_depth 112 = .ok (.ifCond .le 9, 3) := by decide +kernel
theorem dX2_depth_115 : decode cX2_depth 115 = .ok (.aload_n 1, 1) := by decide +kernel
theorem dX2_depth_116 : decode cX2_depth 116 = .ok (.iconst 0, 1) := by decide +kernel
theorem dX2_depth_117 : decode cX2_depth 117 = .ok (.iaload, 1) := by decide +kernel
theorem dX2_depth_118 : decode cX2_depth 118 = .ok (.goto 4, 3) := by decide +kernel
theorem dX2_depth_121 : decode cX2_depth 121 = .ok (.iconst 0, 1) := by decide +kernel
theorem dX2_depth_122 : decode cX2_depth 122 = .ok (.ireturn, 1) := by decide +kernel
def f_X2_depth_105 (F P : Nat) (S : xSt) (rec_9 : Nat → Nat → Int32 → Int32 → xDt → Option (Int32 × xDt)) (v0 : Nat) (v1 : Nat) (v2 : Int32) (v3 : Int32) (D : xDt) : Option (Int32 × xDt) :=
  xlet (v3 + (-1)) fun v3_1 => rec_9 v0 v1 v2 v3_1 D
set_option maxHeartbeats 4000000 in
theorem t_X2_depth_105 {F P : Nat} {S : xSt} (hS : xWF S) {rec_9 : Nat → Nat → Int32 → Int32 → xDt → Option (Int32 × xDt)} (hrec_9 : ∀ {v0 : Nat} {v1 : Nat} {v2 : Int32} {v3 : Int32} {D : xDt} {r : Int32 × xDt}, xK S v0 2 → xK S v1 100 → rec_9 v0 v1 v2 v3 D = some r → yEx md_X2_depth 2 9 [(0, .ref v0), (1, .ref v1), (2, .int v2), (3, .int v3)] [] S D (xQi S r)) {v0 : Nat} {v1 : Nat} {v2 : Int32} {v3 : Int32} {D : xDt} {r : Int32 × xDt} (k0 : xK S v0 2) (k1 : xK S v1 100) (h : f_X2_depth_105 F P S rec_9 v0 v1 v2 v3 D = some r) : yEx md_X2_depth 2 105 [(0, .ref v0), (1, .ref v1), (2, .int v2), (3, .int v3)] [] S D (xQi S r) := by
  unfold f_X2_depth_105 at h
  refine xlet_e h (fun v3_1 ev3_1 h => ?_)
  refine y_iinc v3_1 ev3_1 (by decide) [(3, .int v3_1), (0, .ref v0), (1, .ref v1), (2, .int v2)] dX2_depth_105 3 rfl (by show _ < 5; decide) rfl ?_
  refine x_goto 9 dX2_depth_108 (by decide) ?_
  refine x_lv (lv' := [(0, .ref v0), (1, .ref v1), (2, .int v2), (3, .int v3_1)]) [1, 2, 3, 0] rfl ?_
  exact hrec_9 k0 k1 h

def f_X2_depth_83 (F P : Nat) (S : xSt) (rec_9 : Nat → Nat → Int32 → Int32 → xDt → Option (Int32 × xDt)) (v0 : Nat) (v1 : Nat) (v2 : Int32) (v3 : Int32) (v4 : Int32) (D : xDt) : Option (Int32 × xDt) :=
  (f_X11_isKnowing F P S v4 D).bind fun q1 => if q1.1 = 0 then (f_X2_depth_105 F P S rec_9 v0 v1 v2 v3 q1.2) else (if v2 < 1 then (f_X2_depth_105 F P S rec_9 v0 v1 v2 v3 q1.2) else (xgrd (xin (v2 - 1) (xl S v1)) (xgrd (xin (v2 - 1) (xl S v1)) (xlet (xup q1.2.1 v1 (v2 - 1).toNatClampNeg ((q1.2.1 v1 (v2 - 1).toNatClampNeg) + 1), q1.2.2) fun D4 => f_X2_depth_105 F P S rec_9 v0 v1 v2 v3 D4))))
set_option maxHeartbeats 4000000 in
theorem t_X2_depth_83 {F P : Nat} {S : xSt} (hS : xWF S) {rec_9 : Nat → Nat → Int32 → Int32 → xDt → Option (Int32 × xDt)} (hrec_9 : ∀ {v0 : Nat} {v1 : Nat} {v2 : Int32} {v3 : Int32} {D : xDt} {r : Int32 × xDt}, xK S v0 2 → xK S v1 100 → rec_9 v0 v1 v2 v3 D = some r → yEx md_X2_depth 2 9 [(0, .ref v0), (1, .ref v1), (2, .int v2), (3, .int v3)] [] S D (xQi S r)) {v0 : Nat} {v1 : Nat} {v2 : Int32} {v3 : Int32} {v4 : Int32} {D : xDt} {r : Int32 × xDt} (k0 : xK S v0 2) (k1 : xK S v1 100) (h : f_X2_depth_83 F P S rec_9 v0 v1 v2 v3 v4 D = some r) : yEx md_X2_depth 2 83 [(0, .ref v0), (1, .ref v1), (2, .int v2), (3, .int v3), (4, .int v4)] [] S D (xQi S r) := by
  unfold f_X2_depth_83 at h
  refine x_iload dX2_depth_83 4 rfl ?_
  refine xbnd_e h (fun q1 e1 h => ?_)
  refine y_callNi (As := [.int v4]) (q := q1) cn_RX2_51 dX2_depth_85 rfl (Nat.le_of_ble_eq_true rfl) (by omega) (S_X11_isKnowing hS e1) ?_
  refine x_if_eq 105 dX2_depth_88 (by decide) (fun c => ?_) (fun c => ?_)
  · rw [if_pos c] at h
    refine x_lv (lv' := [(0, .ref v0), (1, .ref v1), (2, .int v2), (3, .int v3)]) [0, 1, 2, 3] rfl ?_
    exact t_X2_depth_105 hS hrec_9 k0 k1 h
  · rw [if_neg c] at h
    refine x_iload_n dX2_depth_91 2 rfl ?_
    refine x_iconst 1 dX2_depth_92 (by decide) ?_
    refine x_icmp_lt 105 dX2_depth_93 (by decide) (fun c => ?_) (fun c => ?_)
    · rw [if_pos c] at h
      refine x_lv (lv' := [(0, .ref v0), (1, .ref v1), (2, .int v2), (3, .int v3)]) [0, 1, 2, 3] rfl ?_
      exact t_X2_depth_105 hS hrec_9 k0 k1 h
    · rw [if_neg c] at h
      refine x_aload_n dX2_depth_96 1 rfl ?_
      refine x_iload_n dX2_depth_97 2 rfl ?_
      refine x_iconst 1 dX2_depth_98 (by decide) ?_
      refine x_isub dX2_depth_99 ?_
      refine x_dup2 dX2_depth_100 rfl rfl ?_
      refine xgrd_e h (fun g2 h => ?_)
      refine y_iald dX2_depth_101 k1 g2 ?_
      refine x_iconst 1 dX2_depth_102 (by decide) ?_
      refine x_iadd dX2_depth_103 ?_
      refine xgrd_e h (fun g3 h => ?_)
      refine xlet_e h (fun D4 eD4 h => ?_)
      refine y_iast dX2_depth_104 k1 g3 eD4 ?_
      refine x_lv (lv' := [(0, .ref v0), (1, .ref v1), (2, .int v2), (3, .int v3)]) [0, 1, 2, 3] rfl ?_
      exact t_X2_depth_105 hS hrec_9 k0 k1 h

def f_X2_depth_48 (F P : Nat) (S : xSt) (rec_9 : Nat → Nat → Int32 → Int32 → xDt → Option (Int32 × xDt)) (v0 : Nat) (v1 : Nat) (v2 : Int32) (v3 : Int32) (v4 : Int32) (D : xDt) : Option (Int32 × xDt) :=
  (f_X11_hasTwoParts F P S v4 D).bind fun q1 => if q1.1 = 0 then (f_X2_depth_83 F P S rec_9 v0 v1 v2 v3 v4 q1.2) else (if v2 < 2 then (f_X2_depth_83 F P S rec_9 v0 v1 v2 v3 v4 q1.2) else (xlet (v2 + (-1)) fun v2_2 => xgrd (xin (v2_2 - 1) (xl S v1)) (xgrd (xin v2_2 (xl S v1)) (xgrd (xin (v2_2 - 1) (xl S v1)) (xlet (xup q1.2.1 v1 (v2_2 - 1).toNatClampNeg (jmax (q1.2.1 v1 (v2_2 - 1).toNatClampNeg) (q1.2.1 v1 (v2_2).toNatClampNeg)), q1.2.2) fun D6 => f_X2_depth_105 F P S rec_9 v0 v1 v2_2 v3 D6)))))
set_option maxHeartbeats 4000000 in
theorem t_X2_depth_48 {F P : Nat} {S : xSt} (hS : xWF S) {rec_9 : Nat → Nat → Int32 → Int32 → xDt → Option (Int32 × xDt)} (hrec_9 : ∀ {v0 : Nat} {v1 : Nat} {v2 : Int32} {v3 : Int32} {D : xDt} {r : Int32 × xDt}, xK S v0 2 → xK S v1 100 → rec_9 v0 v1 v2 v3 D = some r → yEx md_X2_depth 2 9 [(0, .ref v0), (1, .ref v1), (2, .int v2), (3, .int v3)] [] S D (xQi S r)) {v0 : Nat} {v1 : Nat} {v2 : Int32} {v3 : Int32} {v4 : Int32} {D : xDt} {r : Int32 × xDt} (k0 : xK S v0 2) (k1 : xK S v1 100) (h : f_X2_depth_48 F P S rec_9 v0 v1 v2 v3 v4 D = some r) : yEx md_X2_depth 2 48 [(0, .ref v0), (1, .ref v1), (2, .int v2), (3, .int v3), (4, .int v4)] [] S D (xQi S r) := by
  unfold f_X2_depth_48 at h
  refine x_iload dX2_depth_48 4 rfl ?_
  refine xbnd_e h (fun q1 e1 h => ?_)
  refine y_callNi (As := [.int v4]) (q := q1) cn_RX2_48 dX2_depth_50 rfl (Nat.le_of_ble_eq_true rfl) (by omega) (S_X11_hasTwoParts hS e1) ?_
  refine x_if_eq 83 dX2_depth_53 (by decide) (fun c => ?_) (fun c => ?_)
  · rw [if_pos c] at h
    exact t_X2_depth_83 hS hrec_9 k0 k1 h
  · rw [if_neg c] at h
    refine x_iload_n dX2_depth_56 2 rfl ?_
    refine x_iconst 2 dX2_depth_57 (by decide) ?_
    refine x_icmp_lt 83 dX2_depth_58 (by decide) (fun c => ?_) (fun c => ?_)
    · rw [if_pos c] at h
      exact t_X2_depth_83 hS hrec_9 k0 k1 h
    · rw [if_neg c] at h
      refine xlet_e h (fun v2_2 ev2_2 h => ?_)
      refine y_iinc v2_2 ev2_2 (by decide) [(2, .int v2_2), (0, .ref v0), (1, .ref v1), (3, .int v3), (4, .int v4)] dX2_depth_61 2 rfl (by show _ < 5; decide) rfl ?_
      refine x_aload_n dX2_depth_64 2 rfl ?_
      refine x_iload_n dX2_depth_65 0 rfl ?_
      refine x_iconst 1 dX2_depth_66 (by decide) ?_
      refine x_isub dX2_depth_67 ?_
      refine x_aload_n dX2_depth_68 2 rfl ?_
      refine x_iload_n dX2_depth_69 0 rfl ?_
      refine x_iconst 1 dX2_depth_70 (by decide) ?_
      refine x_isub dX2_depth_71 ?_
      refine xgrd_e h (fun g3 h => ?_)
      refine y_iald dX2_depth_72 k1 g3 ?_
      refine x_aload_n dX2_depth_73 2 rfl ?_
      refine x_iload_n dX2_depth_74 0 rfl ?_
      refine xgrd_e h (fun g4 h => ?_)
      refine y_iald dX2_depth_75 k1 g4 ?_
      refine y_max mm_RX2_7 dX2_depth_76 (Nat.le_of_ble_eq_true rfl) (by omega) ?_
      refine xgrd_e h (fun g5 h => ?_)
      refine xlet_e h (fun D6 eD6 h => ?_)
      refine y_iast dX2_depth_79 k1 g5 eD6 ?_
      refine x_goto 105 dX2_depth_80 (by decide) ?_
      refine x_lv (lv' := [(0, .ref v0), (1, .ref v1), (2, .int v2_2), (3, .int v3)]) [1, 2, 0, 3] rfl ?_
      exact t_X2_depth_105 hS hrec_9 k0 k1 h

def f_X2_depth_9s (F P : Nat) (S : xSt) (rec_9 : Nat → Nat → Int32 → Int32 → xDt → Option (Int32 × xDt)) (v0 : Nat) (v1 : Nat) (v2 : Int32) (v3 : Int32) (D : xDt) : Option (Int32 × xDt) :=
  if v3 < 0 then (if v2 ≤ 0 then (some (0, D)) else (xgrd (xin 0 (xl S v1)) (some (D.1 v1 (0 : Int32).toNatClampNeg, D)))) else (xgrd (xin v3 (xl S (xr S v0 0))) ((f_X11_signOf F P S (D.1 (xr S v0 0) (v3).toNatClampNeg) D).bind fun q3 => (f_X11_isLeaf F P S q3.1 q3.2).bind fun q4 => if q4.1 = 0 then (f_X2_depth_48 F P S rec_9 v0 v1 v2 v3 q3.1 q4.2) else (if (Int32.ofNat (xl S v1)) ≤ v2 then (f_X2_depth_48 F P S rec_9 v0 v1 v2 v3 q3.1 q4.2) else (xlet (v2 + 1) fun v2_5 => xgrd (xin v2 (xl S v1)) (xlet (xup q4.2.1 v1 (v2).toNatClampNeg 0, q4.2.2) fun D7 => f_X2_depth_105 F P S rec_9 v0 v1 v2_5 v3 D7)))))
def f_X2_depth_9 (F P : Nat) (S : xSt) : Nat → Nat → Nat → Int32 → Int32 → xDt → Option (Int32 × xDt)
  | 0 => fun _ _ _ _ _ => none
  | n + 1 => f_X2_depth_9s F P S (f_X2_depth_9 F P S n)
set_option maxHeartbeats 4000000 in
theorem t_X2_depth_9s {F P : Nat} {S : xSt} (hS : xWF S) {rec_9 : Nat → Nat → Int32 → Int32 → xDt → Option (Int32 × xDt)} (hrec_9 : ∀ {v0 : Nat} {v1 : Nat} {v2 : Int32} {v3 : Int32} {D : xDt} {r : Int32 × xDt}, xK S v0 2 → xK S v1 100 → rec_9 v0 v1 v2 v3 D = some r → yEx md_X2_depth 2 9 [(0, .ref v0), (1, .ref v1), (2, .int v2), (3, .int v3)] [] S D (xQi S r)) {v0 : Nat} {v1 : Nat} {v2 : Int32} {v3 : Int32} {D : xDt} {r : Int32 × xDt} (k0 : xK S v0 2) (k1 : xK S v1 100) (h : f_X2_depth_9s F P S rec_9 v0 v1 v2 v3 D = some r) : yEx md_X2_depth 2 9 [(0, .ref v0), (1, .ref v1), (2, .int v2), (3, .int v3)] [] S D (xQi S r) := by
  unfold f_X2_depth_9s at h
  refine x_iload_n dX2_depth_9 3 rfl ?_
  refine x_if_lt 111 dX2_depth_10 (by decide) (fun c => ?_) (fun c => ?_)
  · rw [if_pos c] at h
    refine x_iload_n dX2_depth_111 2 rfl ?_
    refine x_if_le 121 dX2_depth_112 (by decide) (fun c => ?_) (fun c => ?_)
    · rw [if_pos c] at h
      refine x_iconst 0 dX2_depth_121 (by decide) ?_
      obtain rfl := Option.some.inj h
      exact y_iret rfl dX2_depth_122
    · rw [if_neg c] at h
      refine x_aload_n dX2_depth_115 1 rfl ?_
      refine x_iconst 0 dX2_depth_116 (by decide) ?_
      refine xgrd_e h (fun g1 h => ?_)
      refine y_iald dX2_depth_117 k1 g1 ?_
      refine x_goto 122 dX2_depth_118 (by decide) ?_
      obtain rfl := Option.some.inj h
      exact y_iret rfl dX2_depth_122
  · rw [if_neg c] at h
    refine x_aload_n dX2_depth_13 0 rfl ?_
    refine y_getr (kd := 100) hS fl_RX2_13 dX2_depth_14 rfl k0 ?_
    refine x_iload_n dX2_depth_17 3 rfl ?_
    refine xgrd_e h (fun g2 h => ?_)
    refine y_iald dX2_depth_18 ((hS.f k0 0 100 rfl).2) g2 ?_
    refine xbnd_e h (fun q3 e3 h => ?_)
    refine y_callNi (As := [.int (D.1 (xr S v0 0) (v3).toNatClampNeg)]) (q := q3) cn_RX2_33 dX2_depth_19 rfl (Nat.le_of_ble_eq_true rfl) (by omega) (S_X11_signOf hS e3) ?_
    refine y_istore q3.1 rfl [(4, .int q3.1), (0, .ref v0), (1, .ref v1), (2, .int v2), (3, .int v3)] dX2_depth_22 (by show _ < 5; decide) rfl ?_
    refine x_iload dX2_depth_24 0 rfl ?_
    refine xbnd_e h (fun q4 e4 h => ?_)
    refine y_callNi (As := [.int q3.1]) (q := q4) cn_RX2_44 dX2_depth_26 rfl (Nat.le_of_ble_eq_true rfl) (by omega) (S_X11_isLeaf hS e4) ?_
    refine x_if_eq 48 dX2_depth_29 (by decide) (fun c => ?_) (fun c => ?_)
    · rw [if_pos c] at h
      refine x_lv (lv' := [(0, .ref v0), (1, .ref v1), (2, .int v2), (3, .int v3), (4, .int q3.1)]) [1, 2, 3, 4, 0] rfl ?_
      exact t_X2_depth_48 hS hrec_9 k0 k1 h
    · rw [if_neg c] at h
      refine x_iload_n dX2_depth_32 3 rfl ?_
      refine x_aload_n dX2_depth_33 2 rfl ?_
      refine y_alen dX2_depth_34 k1 (by decide) ?_
      refine x_icmp_ge 48 dX2_depth_35 (by decide) (fun c => ?_) (fun c => ?_)
      · rw [if_pos c] at h
        refine x_lv (lv' := [(0, .ref v0), (1, .ref v1), (2, .int v2), (3, .int v3), (4, .int q3.1)]) [1, 2, 3, 4, 0] rfl ?_
        exact t_X2_depth_48 hS hrec_9 k0 k1 h
      · rw [if_neg c] at h
        refine x_aload_n dX2_depth_38 2 rfl ?_
        refine x_iload_n dX2_depth_39 3 rfl ?_
        refine xlet_e h (fun v2_5 ev2_5 h => ?_)
        refine y_iinc v2_5 ev2_5 (by decide) [(2, .int v2_5), (4, .int q3.1), (0, .ref v0), (1, .ref v1), (3, .int v3)] dX2_depth_40 3 rfl (by show _ < 5; decide) rfl ?_
        refine x_iconst 0 dX2_depth_43 (by decide) ?_
        refine xgrd_e h (fun g6 h => ?_)
        refine xlet_e h (fun D7 eD7 h => ?_)
        refine y_iast dX2_depth_44 k1 g6 eD7 ?_
        refine x_goto 105 dX2_depth_45 (by decide) ?_
        refine x_lv (lv' := [(0, .ref v0), (1, .ref v1), (2, .int v2_5), (3, .int v3)]) [2, 3, 0, 4] rfl ?_
        exact t_X2_depth_105 hS hrec_9 k0 k1 h
theorem t_X2_depth_9 {F P : Nat} {S : xSt} (hS : xWF S) : ∀ (n : Nat) {v0 : Nat} {v1 : Nat} {v2 : Int32} {v3 : Int32} {D : xDt} {r : Int32 × xDt}, xK S v0 2 → xK S v1 100 → f_X2_depth_9 F P S n v0 v1 v2 v3 D = some r → yEx md_X2_depth 2 9 [(0, .ref v0), (1, .ref v1), (2, .int v2), (3, .int v3)] [] S D (xQi S r) := by
  intro n
  induction n with
  | zero => intros; rename_i h; cases h
  | succ n ih =>
    intro v0 v1 v2 v3 D r k0 k1 h
    exact t_X2_depth_9s hS (fun k0 k1 h => ih k0 k1 h) k0 k1 h

def f_X2_depth (F P : Nat) (S : xSt) (v0 : Nat) (v1 : Nat) (D : xDt) : Option (Int32 × xDt) :=
  xlet ((D.1 v0 1) - 1) fun v3_1 => f_X2_depth_9 F P S F v0 v1 0 v3_1 D
set_option maxHeartbeats 4000000 in
theorem S_X2_depth {F P : Nat} {S : xSt} (hS : xWF S) {v0 : Nat} {v1 : Nat} {D : xDt} {r : Int32 × xDt} (k0 : xK S v0 2) (k1 : xK S v1 100) (h : f_X2_depth F P S v0 v1 D = some r) : xSp md_X2_depth (2, 0, 0) [.ref v0, .ref v1] (S, D) (xQi S r) := by
  unfold f_X2_depth at h
  refine xEntry (by decide) (Nat.le_of_ble_eq_true rfl) ?_
  refine x_lv (lv' := [(0, .ref v0), (1, .ref v1)]) [0, 1] rfl ?_
  refine x_iconst 0 dX2_depth_0 (by decide) ?_
  refine y_istore_n 0 rfl [(2, .int 0), (0, .ref v0), (1, .ref v1)] dX2_depth_1 (by show _ < 5; decide) rfl ?_
  refine x_aload_n dX2_depth_2 1 rfl ?_
  refine y_geti fl_RX2_19 dX2_depth_3 rfl k0 ?_
  refine x_iconst 1 dX2_depth_6 (by decide) ?_
  refine x_isub dX2_depth_7 ?_
  refine xlet_e h (fun v3_1 ev3_1 h => ?_)
  refine y_istore_n v3_1 ev3_1 [(3, .int v3_1), (2, .int 0), (0, .ref v0), (1, .ref v1)] dX2_depth_8 (by show _ < 5; decide) rfl ?_
  refine x_lv (lv' := [(0, .ref v0), (1, .ref v1), (2, .int 0), (3, .int v3_1)]) [2, 3, 1, 0] rfl ?_
  exact t_X2_depth_9 hS F k0 k1 h

theorem dX10_atomsOf_0 : decode cX10_atomsOf 0 = .ok (.iconst 0, 1) := by decide +kernel
theorem dX10_atomsOf_1 : decode cX10_atomsOf 1 = .ok (.istore_n 2, 1) := by decide +kernel
theorem dX10_atomsOf_2 : decode cX10_atomsOf 2 = .ok (.iconst 0, 1) := by decide +kernel
theorem dX10_atomsOf_3 : decode cX10_atomsOf 3 = .ok (.istore_n 3, 1) := by decide +kernel
theorem dX10_atomsOf_4 : decode cX10_atomsOf 4 = .ok (.iload_n 3, 1) := by decide +kernel
theorem dX10_atomsOf_5 : decode cX10_atomsOf 5 = .ok (.bipush 8, 2) := by decide +kernel
theorem dX10_atomsOf_7 : decode cX10_atomsOf 7 = .ok (.if_icmp .ge 25, 3) := by decide +kernel
theorem dX10_atomsOf_10 : decode cX10_atomsOf 10 = .ok (.iload_n 2, 1) := by decide +kernel
theorem dX10_atomsOf_11 : decode cX10_atomsOf 11 = .ok (.aload_n 0, 1) := by decide +kernel
theorem dX10_atomsOf_12 : decode cX10_atomsOf 12 = .ok (.getfield 9, 3) := by decide +kernel
theorem dX10_atomsOf_15 : decode cX10_atomsOf 15 = .ok (.iload_n 3, 1) := by decide +kernel
theorem dX10_atomsOf_16 : decode cX10_atomsOf 16 = .ok (.laload, 1) := by decide +kernel
theorem dX10_atomsOf_17 : decode cX10_atomsOf 17 = .ok (.iload_n 1, 1) := by decide +kernel
theorem dX10_atomsOf_18 : decode cX10_atomsOf 18 = .ok (.lushr, 1) := by decide +kernel
theorem dX10_atomsOf_19 : decode cX10_atomsOf 19 = .ok (.lconst 1, 1) := by decide +kernel
theorem dX10_atomsOf_20 : decode cX10_atomsOf 20 = .ok (.land, 1) := by decide +kernel
theorem dX10_atomsOf_21 : decode cX10_atomsOf 21 = .ok (.l2i, 1) := by decide +kernel
theorem dX10_atomsOf_22 : decode cX10_atomsOf 22 = .ok (.iload_n 3, 1) := by decide +kernel
theorem dX10_atomsOf_23 : decode cX10_atomsOf 23 = .ok (.ishl, 1) := by decide +kernel
theorem dX10_atomsOf_24 : decode cX10_atomsOf 24 = .ok (.ior, 1) := by decide +kernel
theorem dX10_atomsOf_25 : decode cX10_atomsOf 25 = .ok (.istore_n 2, 1) := by decide +kernel
theorem dX10_atomsOf_26 : decode cX10_atomsOf 26 = .ok (.iinc 3 1, 3) := by decide +kernel
theorem dX10_atomsOf_29 : decode cX10_atomsOf 29 = .ok (.goto (-25), 3) := by decide +kernel
theorem dX10_atomsOf_32 : decode cX10_atomsOf 32 = .ok (.iload_n 2, 1) := by decide +kernel
theorem dX10_atomsOf_33 : decode cX10_atomsOf 33 = .ok (.ireturn, 1) := by decide +kernel
def f_X10_atomsOf_4s (F P : Nat) (S : xSt) (rec_4 : Nat → Int32 → Int32 → Int32 → xDt → Option (Int32 × xDt)) (v0 : Nat) (v1 : Int32) (v2 : Int32) (v3 : Int32) (D : xDt) : Option (Int32 × xDt) :=
  if 8 ≤ v3 then (some (v2, D)) else (xgrd (xin v3 (xl S (xr S v0 1))) (xlet (v2 ||| (jishl (((jlushr (D.2 (xr S v0 1) (v3).toNatClampNeg) v1) &&& 1).toInt32) v3)) fun v2_2 => xlet (v3 + 1) fun v3_3 => rec_4 v0 v1 v2_2 v3_3 D))
def f_X10_atomsOf_4 (F P : Nat) (S : xSt) : Nat → Nat → Int32 → Int32 → Int32 → xDt → Option (Int32 × xDt)
  | 0 => fun _ _ _ _ _ => none
  | n + 1 => f_X10_atomsOf_4s F P S (f_X10_atomsOf_4 F P S n)
set_option maxHeartbeats 4000000 in
theorem t_X10_atomsOf_4s {F P : Nat} {S : xSt} (hS : xWF S) {rec_4 : Nat → Int32 → Int32 → Int32 → xDt → Option (Int32 × xDt)} (hrec_4 : ∀ {v0 : Nat} {v1 : Int32} {v2 : Int32} {v3 : Int32} {D : xDt} {r : Int32 × xDt}, xK S v0 10 → rec_4 v0 v1 v2 v3 D = some r → yEx md_X10_atomsOf 0 4 [(0, .ref v0), (1, .int v1), (2, .int v2), (3, .int v3)] [] S D (xQi S r)) {v0 : Nat} {v1 : Int32} {v2 : Int32} {v3 : Int32} {D : xDt} {r : Int32 × xDt} (k0 : xK S v0 10) (h : f_X10_atomsOf_4s F P S rec_4 v0 v1 v2 v3 D = some r) : yEx md_X10_atomsOf 0 4 [(0, .ref v0), (1, .int v1), (2, .int v2), (3, .int v3)] [] S D (xQi S r) := by
  unfold f_X10_atomsOf_4s at h
  refine x_iload_n dX10_atomsOf_4 3 rfl ?_
  refine x_bipush 8 dX10_atomsOf_5 (by decide) ?_
  refine x_icmp_ge 32 dX10_atomsOf_7 (by decide) (fun c => ?_) (fun c => ?_)
  · rw [if_pos c] at h
    refine x_iload_n dX10_atomsOf_32 2 rfl ?_
    obtain rfl := Option.some.inj h
    exact y_iret rfl dX10_atomsOf_33
  · rw [if_neg c] at h
    refine x_iload_n dX10_atomsOf_10 2 rfl ?_
    refine x_aload_n dX10_atomsOf_11 0 rfl ?_
    refine y_getr (kd := 101) hS fl_RX10_9 dX10_atomsOf_12 rfl k0 ?_
    refine x_iload_n dX10_atomsOf_15 3 rfl ?_
    refine xgrd_e h (fun g1 h => ?_)
    refine y_lald dX10_atomsOf_16 ((hS.f k0 1 101 rfl).2) g1 ?_
    refine x_iload_n dX10_atomsOf_17 1 rfl ?_
    refine x_lushr dX10_atomsOf_18 ?_
    refine x_lconst 1 dX10_atomsOf_19 (by decide) ?_
    refine x_land dX10_atomsOf_20 ?_
    refine x_l2i dX10_atomsOf_21 ?_
    refine x_iload_n dX10_atomsOf_22 3 rfl ?_
    refine x_ishl dX10_atomsOf_23 ?_
    refine x_ior dX10_atomsOf_24 ?_
    refine xlet_e h (fun v2_2 ev2_2 h => ?_)
    refine y_istore_n v2_2 ev2_2 [(2, .int v2_2), (0, .ref v0), (1, .int v1), (3, .int v3)] dX10_atomsOf_25 (by show _ < 4; decide) rfl ?_
    refine xlet_e h (fun v3_3 ev3_3 h => ?_)
    refine y_iinc v3_3 ev3_3 (by decide) [(3, .int v3_3), (2, .int v2_2), (0, .ref v0), (1, .int v1)] dX10_atomsOf_26 3 rfl (by show _ < 4; decide) rfl ?_
    refine x_goto 4 dX10_atomsOf_29 (by decide) ?_
    refine x_lv (lv' := [(0, .ref v0), (1, .int v1), (2, .int v2_2), (3, .int v3_3)]) [2, 3, 1, 0] rfl ?_
    exact hrec_4 k0 h
theorem t_X10_atomsOf_4 {F P : Nat} {S : xSt} (hS : xWF S) : ∀ (n : Nat) {v0 : Nat} {v1 : Int32} {v2 : Int32} {v3 : Int32} {D : xDt} {r : Int32 × xDt}, xK S v0 10 → f_X10_atomsOf_4 F P S n v0 v1 v2 v3 D = some r → yEx md_X10_atomsOf 0 4 [(0, .ref v0), (1, .int v1), (2, .int v2), (3, .int v3)] [] S D (xQi S r) := by
  intro n
  induction n with
  | zero => intros; rename_i h; cases h
  | succ n ih =>
    intro v0 v1 v2 v3 D r k0 h
    exact t_X10_atomsOf_4s hS (fun k0 h => ih k0 h) k0 h

def f_X10_atomsOf (F P : Nat) (S : xSt) (v0 : Nat) (v1 : Int32) (D : xDt) : Option (Int32 × xDt) :=
  f_X10_atomsOf_4 F P S F v0 v1 0 0 D
set_option maxHeartbeats 4000000 in
theorem S_X10_atomsOf {F P : Nat} {S : xSt} (hS : xWF S) {v0 : Nat} {v1 : Int32} {D : xDt} {r : Int32 × xDt} (k0 : xK S v0 10) (h : f_X10_atomsOf F P S v0 v1 D = some r) : xSp md_X10_atomsOf (0, 0, 0) [.ref v0, .int v1] (S, D) (xQi S r) := by
  unfold f_X10_atomsOf at h
  refine xEntry (by decide) (Nat.le_of_ble_eq_true rfl) ?_
  refine x_lv (lv' := [(0, .ref v0), (1, .int v1)]) [0, 1] rfl ?_
  refine x_iconst 0 dX10_atomsOf_0 (by decide) ?_
  refine y_istore_n 0 rfl [(2, .int 0), (0, .ref v0), (1, .int v1)] dX10_atomsOf_1 (by show _ < 4; decide) rfl ?_
  refine x_iconst 0 dX10_atomsOf_2 (by decide) ?_
  refine y_istore_n 0 rfl [(3, .int 0), (2, .int 0), (0, .ref v0), (1, .int v1)] dX10_atomsOf_3 (by show _ < 4; decide) rfl ?_
  refine x_lv (lv' := [(0, .ref v0), (1, .int v1), (2, .int 0), (3, .int 0)]) [2, 3, 1, 0] rfl ?_
  exact t_X10_atomsOf_4 hS F k0 h

theorem dX4_start_0 : decode cX4_start 0 = .ok (.iconst 0, 1) := by decide +kernel
theorem dX4_start_1 : decode cX4_start 1 = .ok (.istore_n 2, 1) := by decide +kernel
theorem dX4_start_2 : decode cX4_start 2 = .ok (.iload_n 2, 1) := by decide +kernel
theorem dX4_start_3 : decode cX4_start 3 = .ok (.aload_n 1, 1) := by decide +kernel
theorem dX4_start_4 : decode cX4_start 4 = .ok (.getfield 33, 3) := by decide +kernel
theorem dX4_start_7 : decode cX4_start 7 = .ok (.if_icmp .ge 65, 3) := by decide +kernel
theorem dX4_start_10 : decode cX4_start 10 = .ok (.aload_n 0, 1) := by decide +kernel
theorem dX4_start_11 : decode cX4_start 11 = .ok (.getfield 22, 3) := by decide +kernel
theorem dX4_start_14 : decode cX4_start 14 = .ok (.iload_n 2, 1) := by decide +kernel
theorem dX4_start_15 : decode cX4_start 15 = .ok (.aload_n 1, 1) := by decide +kernel
theorem dX4_start_16 : decode cX4_start 16 = .ok (.iload_n 2, 1) := by decide +kernel
theorem dX4_start_17 : decode cX4_start 17 = .ok (.invokevirtual 39, 3) := by decide +kernel
theorem dX4_start_20 : decode cX4_start 20 = .ok (.iastore, 1) := by decide +kernel
theorem dX4_start_21 : decode cX4_start 21 = .ok (.aload_n 0, 1) := by decide +kernel
theorem dX4_start_22 : decode cX4_start 22 = .ok (.getfield 9, 3) := by decide +kernel
theorem dX4_start_25 : decode cX4_start 25 = .ok (.iload_n 2, 1) := by decide +kernel
theorem dX4_start_26 : decode cX4_start 26 = .ok (.iload_n 2, 1) := by decide +kernel
theorem dX4_start_27 : decode cX4_start 27 = .ok (.iastore, 1) := by decide +kernel
theorem dX4_start_28 : decode cX4_start 28 = .ok (.iconst 0, 1) := by decide +kernel
theorem dX4_start_29 : decode cX4_start 29 = .ok (.istore_n 3, 1) := by decide +kernel
theorem dX4_start_30 : decode cX4_start 30 = .ok (.iload_n 3, 1) := by decide +kernel
theorem dX4_start_31 : decode cX4_start 31 = .ok (.iload_n 2, 1) := by decide +kernel
theorem dX4_start_32 : decode cX4_start 32 = .ok (.if_icmp .ge 34, 3) := by decide +kernel
theorem dX4_start_35 : decode cX4_start 35 = .ok (.aload_n 0, 1) := by decide +kernel
theorem dX4_start_36 : decode cX4_start 36 = .ok (.getfield 22, 3) := by decide +kernel
theorem dX4_start_39 : decode cX4_start 39 = .ok (.iload_n 3, 1) := by decide +kernel
theorem dX4_start_40 : decode cX4_start 40 = .ok (.iaload, 1) := by decide +kernel
theorem dX4_start_41 : decode cX4_start 41 = .ok (.aload_n 0, 1) := by decide +kernel
theorem dX4_start_42 : decode cX4_start 42 = .ok (.getfield 22, 3) := by decide +kernel
theorem dX4_start_45 : decode cX4_start 45 = .ok (.iload_n 2, 1) := by decide +kernel
theorem dX4_start_46 : decode cX4_start 46 = .ok (.iaload, 1) := by decide +kernel
theorem dX4_start_47 : decode cX4_start 47 = .ok (.if_icmp .ne 13, 3) := by decide +kernel
theorem dX4_start_50 : decode cX4_start 50 = .ok (.aload_n 0, 1) := by decide +kernel
theorem dX4_start_51 : decode cX4_start 51 = .ok (.getfield 9, 3) := by decide +kernel
theorem dX4_start_54 : decode cX4_start 54 = .ok (.iload_n 2, 1) := by decide +kernel
theorem dX4_start_55 : decode cX4_start 55 = .ok (.iload_n 3, 1) := by decide +kernel
theorem dX4_start_56 : decode cX4_start 56 = .ok (.iastore, 1) := by decide +kernel
theorem dX4_start_57 : decode cX4_start 57 = .ok (.goto 9, 3) := by decide +kernel
theorem dX4_start_60 : decode cX4_start 60 = .ok (.iinc 3 1, 3) := by decide +kernel
theorem dX4_start_63 : decode cX4_start 63 = .ok (.goto (-33), 3) := by decide +kernel
theorem dX4_start_66 : decode cX4_start 66 = .ok (.iinc 2 1, 3) := by decide +kernel
theorem dX4_start_69 : decode cX4_start 69 = .ok (.goto (-67), 3) := by decide +kernel
theorem dX4_start_72 : decode cX4_start 72 = .ok (.return_, 1) := by decide +kernel
def f_X4_start_66 (F P : Nat) (S : xSt) (rec_2 : Nat → Nat → Int32 → xDt → Option (xDt)) (v0 : Nat) (v1 : Nat) (v2 : Int32) (D : xDt) : Option (xDt) :=
  xlet (v2 + 1) fun v2_1 => rec_2 v0 v1 v2_1 D
set_option maxHeartbeats 4000000 in
theorem t_X4_start_66 {F P : Nat} {S : xSt} (hS : xWF S) {rec_2 : Nat → Nat → Int32 → xDt → Option (xDt)} (hrec_2 : ∀ {v0 : Nat} {v1 : Nat} {v2 : Int32} {D : xDt} {r : xDt}, xK S v0 4 → xK S v1 10 → rec_2 v0 v1 v2 D = some r → yEx md_X4_start 1 2 [(0, .ref v0), (1, .ref v1), (2, .int v2)] [] S D (xQv S r)) {v0 : Nat} {v1 : Nat} {v2 : Int32} {D : xDt} {r : xDt} (k0 : xK S v0 4) (k1 : xK S v1 10) (h : f_X4_start_66 F P S rec_2 v0 v1 v2 D = some r) : yEx md_X4_start 1 66 [(0, .ref v0), (1, .ref v1), (2, .int v2)] [] S D (xQv S r) := by
  unfold f_X4_start_66 at h
  refine xlet_e h (fun v2_1 ev2_1 h => ?_)
  refine y_iinc v2_1 ev2_1 (by decide) [(2, .int v2_1), (0, .ref v0), (1, .ref v1)] dX4_start_66 2 rfl (by show _ < 4; decide) rfl ?_
  refine x_goto 2 dX4_start_69 (by decide) ?_
  refine x_lv (lv' := [(0, .ref v0), (1, .ref v1), (2, .int v2_1)]) [1, 2, 0] rfl ?_
  exact hrec_2 k0 k1 h

def f_X4_start_30s (F P : Nat) (S : xSt) (rec_2 : Nat → Nat → Int32 → xDt → Option (xDt)) (rec_30 : Nat → Nat → Int32 → Int32 → xDt → Option (xDt)) (v0 : Nat) (v1 : Nat) (v2 : Int32) (v3 : Int32) (D : xDt) : Option (xDt) :=
  if v2 ≤ v3 then (f_X4_start_66 F P S rec_2 v0 v1 v2 D) else (xgrd (xin v3 (xl S (xr S v0 3))) (xgrd (xin v2 (xl S (xr S v0 3))) (if (D.1 (xr S v0 3) (v3).toNatClampNeg) = (D.1 (xr S v0 3) (v2).toNatClampNeg) then (xgrd (xin v2 (xl S (xr S v0 0))) (xlet (xup D.1 (xr S v0 0) (v2).toNatClampNeg v3, D.2) fun D5 => f_X4_start_66 F P S rec_2 v0 v1 v2 D5)) else (xlet (v3 + 1) fun v3_3 => rec_30 v0 v1 v2 v3_3 D))))
def f_X4_start_30 (F P : Nat) (S : xSt) (rec_2 : Nat → Nat → Int32 → xDt → Option (xDt)) : Nat → Nat → Nat → Int32 → Int32 → xDt → Option (xDt)
  | 0 => fun _ _ _ _ _ => none
  | n + 1 => f_X4_start_30s F P S rec_2 (f_X4_start_30 F P S rec_2 n)
set_option maxHeartbeats 4000000 in
theorem t_X4_start_30s {F P : Nat} {S : xSt} (hS : xWF S) {rec_2 : Nat → Nat → Int32 → xDt → Option (xDt)} (hrec_2 : ∀ {v0 : Nat} {v1 : Nat} {v2 : Int32} {D : xDt} {r : xDt}, xK S v0 4 → xK S v1 10 → rec_2 v0 v1 v2 D = some r → yEx md_X4_start 1 2 [(0, .ref v0), (1, .ref v1), (2, .int v2)] [] S D (xQv S r)) {rec_30 : Nat → Nat → Int32 → Int32 → xDt → Option (xDt)} (hrec_30 : ∀ {v0 : Nat} {v1 : Nat} {v2 : Int32} {v3 : Int32} {D : xDt} {r : xDt}, xK S v0 4 → xK S v1 10 → rec_30 v0 v1 v2 v3 D = some r → yEx md_X4_start 1 30 [(0, .ref v0), (1, .ref v1), (2, .int v2), (3, .int v3)] [] S D (xQv S r)) {v0 : Nat} {v1 : Nat} {v2 : Int32} {v3 : Int32} {D : xDt} {r : xDt} (k0 : xK S v0 4) (k1 : xK S v1 10) (h : f_X4_start_30s F P S rec_2 rec_30 v0 v1 v2 v3 D = some r) : yEx md_X4_start 1 30 [(0, .ref v0), (1, .ref v1), (2, .int v2), (3, .int v3)] [] S D (xQv S r) := by
  unfold f_X4_start_30s at h
  refine x_iload_n dX4_start_30 3 rfl ?_
  refine x_iload_n dX4_start_31 2 rfl ?_
  refine x_icmp_ge 66 dX4_start_32 (by decide) (fun c => ?_) (fun c => ?_)
  · rw [if_pos c] at h
    refine x_lv (lv' := [(0, .ref v0), (1, .ref v1), (2, .int v2)]) [0, 1, 2] rfl ?_
    exact t_X4_start_66 hS hrec_2 k0 k1 h
  · rw [if_neg c] at h
    refine x_aload_n dX4_start_35 0 rfl ?_
    refine y_getr (kd := 100) hS fl_RX4_22 dX4_start_36 rfl k0 ?_
    refine x_iload_n dX4_start_39 3 rfl ?_
    refine xgrd_e h (fun g1 h => ?_)
    refine y_iald dX4_start_40 ((hS.f k0 3 100 rfl).2) g1 ?_
    refine x_aload_n dX4_start_41 0 rfl ?_
    refine y_getr (kd := 100) hS fl_RX4_22 dX4_start_42 rfl k0 ?_
    refine x_iload_n dX4_start_45 2 rfl ?_
    refine xgrd_e h (fun g2 h => ?_)
    refine y_iald dX4_start_46 ((hS.f k0 3 100 rfl).2) g2 ?_
    refine x_icmp_ne 60 dX4_start_47 (by decide) (fun c => ?_) (fun c => ?_)
    · rw [if_neg c] at h
      refine xlet_e h (fun v3_3 ev3_3 h => ?_)
      refine y_iinc v3_3 ev3_3 (by decide) [(3, .int v3_3), (0, .ref v0), (1, .ref v1), (2, .int v2)] dX4_start_60 3 rfl (by show _ < 4; decide) rfl ?_
      refine x_goto 30 dX4_start_63 (by decide) ?_
      refine x_lv (lv' := [(0, .ref v0), (1, .ref v1), (2, .int v2), (3, .int v3_3)]) [1, 2, 3, 0] rfl ?_
      exact hrec_30 k0 k1 h
    · rw [if_pos c] at h
      refine x_aload_n dX4_start_50 0 rfl ?_
      refine y_getr (kd := 100) hS fl_RX4_9 dX4_start_51 rfl k0 ?_
      refine x_iload_n dX4_start_54 2 rfl ?_
      refine x_iload_n dX4_start_55 3 rfl ?_
      refine xgrd_e h (fun g4 h => ?_)
      refine xlet_e h (fun D5 eD5 h => ?_)
      refine y_iast dX4_start_56 ((hS.f k0 0 100 rfl).2) g4 eD5 ?_
      refine x_goto 66 dX4_start_57 (by decide) ?_
      refine x_lv (lv' := [(0, .ref v0), (1, .ref v1), (2, .int v2)]) [0, 1, 2] rfl ?_
      exact t_X4_start_66 hS hrec_2 k0 k1 h
theorem t_X4_start_30 {F P : Nat} {S : xSt} (hS : xWF S) {rec_2 : Nat → Nat → Int32 → xDt → Option (xDt)} (hrec_2 : ∀ {v0 : Nat} {v1 : Nat} {v2 : Int32} {D : xDt} {r : xDt}, xK S v0 4 → xK S v1 10 → rec_2 v0 v1 v2 D = some r → yEx md_X4_start 1 2 [(0, .ref v0), (1, .ref v1), (2, .int v2)] [] S D (xQv S r)) : ∀ (n : Nat) {v0 : Nat} {v1 : Nat} {v2 : Int32} {v3 : Int32} {D : xDt} {r : xDt}, xK S v0 4 → xK S v1 10 → f_X4_start_30 F P S rec_2 n v0 v1 v2 v3 D = some r → yEx md_X4_start 1 30 [(0, .ref v0), (1, .ref v1), (2, .int v2), (3, .int v3)] [] S D (xQv S r) := by
  intro n
  induction n with
  | zero => intros; rename_i h; cases h
  | succ n ih =>
    intro v0 v1 v2 v3 D r k0 k1 h
    exact t_X4_start_30s hS hrec_2 (fun k0 k1 h => ih k0 k1 h) k0 k1 h

def f_X4_start_2s (F P : Nat) (S : xSt) (rec_2 : Nat → Nat → Int32 → xDt → Option (xDt)) (v0 : Nat) (v1 : Nat) (v2 : Int32) (D : xDt) : Option (xDt) :=
  if (D.1 v1 0) ≤ v2 then (some D) else ((f_X10_atomsOf F P S v1 v2 D).bind fun q1 => xgrd (xin v2 (xl S (xr S v0 3))) (xlet (xup q1.2.1 (xr S v0 3) (v2).toNatClampNeg q1.1, q1.2.2) fun D3 => xgrd (xin v2 (xl S (xr S v0 0))) (xlet (xup D3.1 (xr S v0 0) (v2).toNatClampNeg v2, D3.2) fun D5 => f_X4_start_30 F P S rec_2 F v0 v1 v2 0 D5)))
def f_X4_start_2 (F P : Nat) (S : xSt) : Nat → Nat → Nat → Int32 → xDt → Option (xDt)
  | 0 => fun _ _ _ _ => none
  | n + 1 => f_X4_start_2s F P S (f_X4_start_2 F P S n)
set_option maxHeartbeats 4000000 in
theorem t_X4_start_2s {F P : Nat} {S : xSt} (hS : xWF S) {rec_2 : Nat → Nat → Int32 → xDt → Option (xDt)} (hrec_2 : ∀ {v0 : Nat} {v1 : Nat} {v2 : Int32} {D : xDt} {r : xDt}, xK S v0 4 → xK S v1 10 → rec_2 v0 v1 v2 D = some r → yEx md_X4_start 1 2 [(0, .ref v0), (1, .ref v1), (2, .int v2)] [] S D (xQv S r)) {v0 : Nat} {v1 : Nat} {v2 : Int32} {D : xDt} {r : xDt} (k0 : xK S v0 4) (k1 : xK S v1 10) (h : f_X4_start_2s F P S rec_2 v0 v1 v2 D = some r) : yEx md_X4_start 1 2 [(0, .ref v0), (1, .ref v1), (2, .int v2)] [] S D (xQv S r) := by
  unfold f_X4_start_2s at h
  refine x_iload_n dX4_start_2 2 rfl ?_
  refine x_aload_n dX4_start_3 1 rfl ?_
  refine y_geti fl_RX4_33 dX4_start_4 rfl k1 ?_
  refine x_icmp_ge 72 dX4_start_7 (by decide) (fun c => ?_) (fun c => ?_)
  · rw [if_pos c] at h
    obtain rfl := Option.some.inj h
    exact y_vret rfl dX4_start_72
  · rw [if_neg c] at h
    refine x_aload_n dX4_start_10 0 rfl ?_
    refine y_getr (kd := 100) hS fl_RX4_22 dX4_start_11 rfl k0 ?_
    refine x_iload_n dX4_start_14 2 rfl ?_
    refine x_aload_n dX4_start_15 1 rfl ?_
    refine x_iload_n dX4_start_16 2 rfl ?_
    refine xbnd_e h (fun q1 e1 h => ?_)
    refine y_callVi (As := [.int v2]) (q := q1) cv_RX4_39 dX4_start_17 k1 rfl (Nat.le_of_ble_eq_true rfl) (by omega) (S_X10_atomsOf hS k1 e1) ?_
    refine xgrd_e h (fun g2 h => ?_)
    refine xlet_e h (fun D3 eD3 h => ?_)
    refine y_iast dX4_start_20 ((hS.f k0 3 100 rfl).2) g2 eD3 ?_
    refine x_aload_n dX4_start_21 0 rfl ?_
    refine y_getr (kd := 100) hS fl_RX4_9 dX4_start_22 rfl k0 ?_
    refine x_iload_n dX4_start_25 2 rfl ?_
    refine x_iload_n dX4_start_26 2 rfl ?_
    refine xgrd_e h (fun g4 h => ?_)
    refine xlet_e h (fun D5 eD5 h => ?_)
    refine y_iast dX4_start_27 ((hS.f k0 0 100 rfl).2) g4 eD5 ?_
    refine x_iconst 0 dX4_start_28 (by decide) ?_
    refine y_istore_n 0 rfl [(3, .int 0), (0, .ref v0), (1, .ref v1), (2, .int v2)] dX4_start_29 (by show _ < 4; decide) rfl ?_
    refine x_lv (lv' := [(0, .ref v0), (1, .ref v1), (2, .int v2), (3, .int 0)]) [1, 2, 3, 0] rfl ?_
    exact t_X4_start_30 hS hrec_2 F k0 k1 h
theorem t_X4_start_2 {F P : Nat} {S : xSt} (hS : xWF S) : ∀ (n : Nat) {v0 : Nat} {v1 : Nat} {v2 : Int32} {D : xDt} {r : xDt}, xK S v0 4 → xK S v1 10 → f_X4_start_2 F P S n v0 v1 v2 D = some r → yEx md_X4_start 1 2 [(0, .ref v0), (1, .ref v1), (2, .int v2)] [] S D (xQv S r) := by
  intro n
  induction n with
  | zero => intros; rename_i h; cases h
  | succ n ih =>
    intro v0 v1 v2 D r k0 k1 h
    exact t_X4_start_2s hS (fun k0 k1 h => ih k0 k1 h) k0 k1 h

def f_X4_start (F P : Nat) (S : xSt) (v0 : Nat) (v1 : Nat) (D : xDt) : Option (xDt) :=
  f_X4_start_2 F P S F v0 v1 0 D
set_option maxHeartbeats 4000000 in
theorem S_X4_start {F P : Nat} {S : xSt} (hS : xWF S) {v0 : Nat} {v1 : Nat} {D : xDt} {r : xDt} (k0 : xK S v0 4) (k1 : xK S v1 10) (h : f_X4_start F P S v0 v1 D = some r) : xSp md_X4_start (1, 0, 0) [.ref v0, .ref v1] (S, D) (xQv S r) := by
  unfold f_X4_start at h
  refine xEntry (by decide) (Nat.le_of_ble_eq_true rfl) ?_
  refine x_lv (lv' := [(0, .ref v0), (1, .ref v1)]) [0, 1] rfl ?_
  refine x_iconst 0 dX4_start_0 (by decide) ?_
  refine y_istore_n 0 rfl [(2, .int 0), (0, .ref v0), (1, .ref v1)] dX4_start_1 (by show _ < 4; decide) rfl ?_
  refine x_lv (lv' := [(0, .ref v0), (1, .ref v1), (2, .int 0)]) [1, 2, 0] rfl ?_
  exact t_X4_start_2 hS F k0 k1 h

theorem dX11_lowest_0 : decode cX11_lowest 0 = .ok (.lload_n 0, 1) := by decide +kernel
theorem dX11_lowest_1 : decode cX11_lowest 1 = .ok (.lload_n 0, 1) := by decide +kernel
theorem dX11_lowest_2 : decode cX11_lowest 2 = .ok (.lneg, 1) := by decide +kernel
theorem dX11_lowest_3 : decode cX11_lowest 3 = .ok (.land, 1) := by decide +kernel
theorem dX11_lowest_4 : decode cX11_lowest 4 = .ok (.lconst 1, 1) := by decide +kernel
theorem dX11_lowest_5 : decode cX11_lowest 5 = .ok (.lsub, 1) := by decide +kernel
theorem dX11_lowest_6 : decode cX11_lowest 6 = .ok (.invokestatic 155, 3) := by decide +kernel
theorem dX11_lowest_9 : decode cX11_lowest 9 = .ok (.ireturn, 1) := by decide +kernel
def f_X11_lowest (F P : Nat) (S : xSt) (v0 : Int64) (D : xDt) : Option (Int32 × xDt) :=
  (f_J13_bitCount_95d88 F P S ((v0 &&& (-v0)) - 1) D).bind fun q1 => some (q1.1, q1.2)
set_option maxHeartbeats 4000000 in
theorem S_X11_lowest {F P : Nat} {S : xSt} (hS : xWF S) {v0 : Int64} {D : xDt} {r : Int32 × xDt} (h : f_X11_lowest F P S v0 D = some r) : xSp md_X11_lowest (1, 0, 0) [.long v0] (S, D) (xQi S r) := by
  unfold f_X11_lowest at h
  refine xEntry (by decide) (Nat.le_of_ble_eq_true rfl) ?_
  refine x_lv (lv' := [(0, .long v0)]) [0] rfl ?_
  refine x_lload_n dX11_lowest_0 0 rfl ?_
  refine x_lload_n dX11_lowest_1 0 rfl ?_
  refine x_lneg dX11_lowest_2 ?_
  refine x_land dX11_lowest_3 ?_
  refine x_lconst 1 dX11_lowest_4 (by decide) ?_
  refine x_lsub dX11_lowest_5 ?_
  refine xbnd_e h (fun q1 e1 h => ?_)
  refine y_callSi (As := [.long ((v0 &&& (-v0)) - 1)]) (q := q1) cs_RX11_155 dX11_lowest_6 rfl (Nat.le_of_ble_eq_true rfl) (by omega) (S_J13_bitCount_95d88 hS e1) ?_
  obtain rfl := Option.some.inj h
  exact y_iret rfl dX11_lowest_9

theorem dX4_firstsIn_0 : decode cX4_firstsIn 0 = .ok (.lconst 0, 1) := by decide +kernel
theorem dX4_firstsIn_1 : decode cX4_firstsIn 1 = .ok (.lstore 4, 2) := by decide +kernel
theorem dX4_firstsIn_3 : decode cX4_firstsIn 3 = .ok (.iconst 0, 1) := by decide +kernel
theorem dX4_firstsIn_4 : decode cX4_firstsIn 4 = .ok (.istore 6, 2) := by decide +kernel
theorem dX4_firstsIn_6 : decode cX4_firstsIn 6 = .ok (.iload 6, 2) := by decide +kernel
theorem dX4_firstsIn_8 : decode cX4_firstsIn 8 = .ok (.iload_n 3, 1) := by decide +kernel
theorem dX4_firstsIn_9 : decode cX4_firstsIn 9 = .ok (.if_icmp .ge 28, 3) := by decide +kernel
theorem dX4_firstsIn_12 : decode cX4_firstsIn 12 = .ok (.lload 4, 2) := by decide +kernel
theorem dX4_firstsIn_14 : decode cX4_firstsIn 14 = .ok (.lload_n 1, 1) := by decide +kernel
theorem dX4_firstsIn_15 : decode cX4_firstsIn 15 = .ok (.iload 6, 2) := by decide +kernel
theorem dX4_firstsIn_17 : decode cX4_firstsIn 17 = .ok (.lushr, 1) := by decide +kernel
theorem dX4_firstsIn_18 : decode cX4_firstsIn 18 = .ok (.lconst 1, 1) := by decide +kernel
theorem dX4_firstsIn_19 : decode cX4_firstsIn 19 = .ok (.land, 1) := by decide +kernel
theorem dX4_firstsIn_20 : decode cX4_firstsIn 20 = .ok (.aload_n 0, 1) := by decide +kernel
theorem dX4_firstsIn_21 : decode cX4_firstsIn 21 = .ok (.getfield 9, 3) := by decide +kernel
theorem dX4_firstsIn_24 : decode cX4_firstsIn 24 = .ok (.iload 6, 2) := by decide +kernel
theorem dX4_firstsIn_26 : decode cX4_firstsIn 26 = .ok (.iaload, 1) := by decide +kernel
theorem dX4_firstsIn_27 : decode cX4_firstsIn 27 = .ok (.lshl, 1) := by decide +kernel
theorem dX4_firstsIn_28 : decode cX4_firstsIn 28 = .ok (.lor, 1) := by decide +kernel
theorem dX4_firstsIn_29 : decode cX4_firstsIn 29 = .ok (.lstore 4, 2) := by decide +kernel
theorem dX4_firstsIn_31 : decode cX4_firstsIn 31 = .ok (.iinc 6 1, 3) := by decide +kernel
theorem dX4_firstsIn_34 : decode cX4_firstsIn 34 = .ok (.goto (-28), 3) := by decide +kernel
theorem dX4_firstsIn_37 : decode cX4_firstsIn 37 = .ok (.lload 4, 2) := by decide +kernel
theorem dX4_firstsIn_39 : decode cX4_firstsIn 39 = .ok (.lreturn, 1) := by decide +kernel
def f_X4_firstsIn_6s (F P : Nat) (S : xSt) (rec_6 : Nat → Int64 → Int32 → Int64 → Int32 → xDt → Option (Int64 × xDt)) (v0 : Nat) (v1 : Int64) (v3 : Int32) (v4 : Int64) (v6 : Int32) (D : xDt) : Option (Int64 × xDt) :=
  if v3 ≤ v6 then (some (v4, D)) else (xgrd (xin v6 (xl S (xr S v0 0))) (xlet (v4 ||| (jlshl ((jlushr v1 v6) &&& 1) (D.1 (xr S v0 0) (v6).toNatClampNeg))) fun v4_2 => xlet (v6 + 1) fun v6_3 => rec_6 v0 v1 v3 v4_2 v6_3 D))
def f_X4_firstsIn_6 (F P : Nat) (S : xSt) : Nat → Nat → Int64 → Int32 → Int64 → Int32 → xDt → Option (Int64 × xDt)
  | 0 => fun _ _ _ _ _ _ => none
  | n + 1 => f_X4_firstsIn_6s F P S (f_X4_firstsIn_6 F P S n)
set_option maxHeartbeats 4000000 in
theorem t_X4_firstsIn_6s {F P : Nat} {S : xSt} (hS : xWF S) {rec_6 : Nat → Int64 → Int32 → Int64 → Int32 → xDt → Option (Int64 × xDt)} (hrec_6 : ∀ {v0 : Nat} {v1 : Int64} {v3 : Int32} {v4 : Int64} {v6 : Int32} {D : xDt} {r : Int64 × xDt}, xK S v0 4 → rec_6 v0 v1 v3 v4 v6 D = some r → yEx md_X4_firstsIn 0 6 [(0, .ref v0), (1, .long v1), (3, .int v3), (4, .long v4), (6, .int v6)] [] S D (xQl S r)) {v0 : Nat} {v1 : Int64} {v3 : Int32} {v4 : Int64} {v6 : Int32} {D : xDt} {r : Int64 × xDt} (k0 : xK S v0 4) (h : f_X4_firstsIn_6s F P S rec_6 v0 v1 v3 v4 v6 D = some r) : yEx md_X4_firstsIn 0 6 [(0, .ref v0), (1, .long v1), (3, .int v3), (4, .long v4), (6, .int v6)] [] S D (xQl S r) := by
  unfold f_X4_firstsIn_6s at h
  refine x_iload dX4_firstsIn_6 4 rfl ?_
  refine x_iload_n dX4_firstsIn_8 2 rfl ?_
  refine x_icmp_ge 37 dX4_firstsIn_9 (by decide) (fun c => ?_) (fun c => ?_)
  · rw [if_pos c] at h
    refine x_lload dX4_firstsIn_37 3 rfl ?_
    obtain rfl := Option.some.inj h
    exact y_lret rfl dX4_firstsIn_39
  · rw [if_neg c] at h
    refine x_lload dX4_firstsIn_12 3 rfl ?_
    refine x_lload_n dX4_firstsIn_14 1 rfl ?_
    refine x_iload dX4_firstsIn_15 4 rfl ?_
    refine x_lushr dX4_firstsIn_17 ?_
    refine x_lconst 1 dX4_firstsIn_18 (by decide) ?_
    refine x_land dX4_firstsIn_19 ?_
    refine x_aload_n dX4_firstsIn_20 0 rfl ?_
    refine y_getr (kd := 100) hS fl_RX4_9 dX4_firstsIn_21 rfl k0 ?_
    refine x_iload dX4_firstsIn_24 4 rfl ?_
    refine xgrd_e h (fun g1 h => ?_)
    refine y_iald dX4_firstsIn_26 ((hS.f k0 0 100 rfl).2) g1 ?_
    refine x_lshl dX4_firstsIn_27 ?_
    refine x_lor dX4_firstsIn_28 ?_
    refine xlet_e h (fun v4_2 ev4_2 h => ?_)
    refine y_lstore v4_2 ev4_2 [(4, .long v4_2), (0, .ref v0), (1, .long v1), (3, .int v3), (6, .int v6)] dX4_firstsIn_29 (by show _ < 7; decide) rfl ?_
    refine xlet_e h (fun v6_3 ev6_3 h => ?_)
    refine y_iinc v6_3 ev6_3 (by decide) [(6, .int v6_3), (4, .long v4_2), (0, .ref v0), (1, .long v1), (3, .int v3)] dX4_firstsIn_31 4 rfl (by show _ < 7; decide) rfl ?_
    refine x_goto 6 dX4_firstsIn_34 (by decide) ?_
    refine x_lv (lv' := [(0, .ref v0), (1, .long v1), (3, .int v3), (4, .long v4_2), (6, .int v6_3)]) [2, 3, 4, 1, 0] rfl ?_
    exact hrec_6 k0 h
theorem t_X4_firstsIn_6 {F P : Nat} {S : xSt} (hS : xWF S) : ∀ (n : Nat) {v0 : Nat} {v1 : Int64} {v3 : Int32} {v4 : Int64} {v6 : Int32} {D : xDt} {r : Int64 × xDt}, xK S v0 4 → f_X4_firstsIn_6 F P S n v0 v1 v3 v4 v6 D = some r → yEx md_X4_firstsIn 0 6 [(0, .ref v0), (1, .long v1), (3, .int v3), (4, .long v4), (6, .int v6)] [] S D (xQl S r) := by
  intro n
  induction n with
  | zero => intros; rename_i h; cases h
  | succ n ih =>
    intro v0 v1 v3 v4 v6 D r k0 h
    exact t_X4_firstsIn_6s hS (fun k0 h => ih k0 h) k0 h

def f_X4_firstsIn (F P : Nat) (S : xSt) (v0 : Nat) (v1 : Int64) (v3 : Int32) (D : xDt) : Option (Int64 × xDt) :=
  f_X4_firstsIn_6 F P S F v0 v1 v3 0 0 D
set_option maxHeartbeats 4000000 in
theorem S_X4_firstsIn {F P : Nat} {S : xSt} (hS : xWF S) {v0 : Nat} {v1 : Int64} {v3 : Int32} {D : xDt} {r : Int64 × xDt} (k0 : xK S v0 4) (h : f_X4_firstsIn F P S v0 v1 v3 D = some r) : xSp md_X4_firstsIn (0, 0, 0) [.ref v0, .long v1, .int v3] (S, D) (xQl S r) := by
  unfold f_X4_firstsIn at h
  refine xEntry (by decide) (Nat.le_of_ble_eq_true rfl) ?_
  refine x_lv (lv' := [(0, .ref v0), (1, .long v1), (3, .int v3)]) [0, 1, 2] rfl ?_
  refine x_lconst 0 dX4_firstsIn_0 (by decide) ?_
  refine y_lstore 0 rfl [(4, .long 0), (0, .ref v0), (1, .long v1), (3, .int v3)] dX4_firstsIn_1 (by show _ < 7; decide) rfl ?_
  refine x_iconst 0 dX4_firstsIn_3 (by decide) ?_
  refine y_istore 0 rfl [(6, .int 0), (4, .long 0), (0, .ref v0), (1, .long v1), (3, .int v3)] dX4_firstsIn_4 (by show _ < 7; decide) rfl ?_
  refine x_lv (lv' := [(0, .ref v0), (1, .long v1), (3, .int v3), (4, .long 0), (6, .int 0)]) [2, 3, 4, 1, 0] rfl ?_
  exact t_X4_firstsIn_6 hS F k0 h

theorem dX4_look_0 : decode cX4_look 0 = .ok (.iconst 0, 1) := by decide +kernel
theorem dX4_look_1 : decode cX4_look 1 = .ok (.istore_n 2, 1) := by decide +kernel
theorem dX4_look_2 : decode cX4_look 2 = .ok (.iload_n 2, 1) := by decide +kernel
theorem dX4_look_3 : decode cX4_look 3 = .ok (.iconst 4, 1) := by decide +kernel
theorem dX4_look_4 : decode cX4_look 4 = .ok (.if_icmp .ge 84, 3) := by decide +kernel
theorem dX4_look_7 : decode cX4_look 7 = .ok (.iconst 0, 1) := by decide +kernel
theorem dX4_look_8 : decode cX4_look 8 = .ok (.istore_n 3, 1) := by decide +kernel
theorem dX4_look_9 : decode cX4_look 9 = .ok (.iload_n 3, 1) := by decide +kernel
theorem dX4_look_10 : decode cX4_look 10 = .ok (.aload_n 1, 1) := by decide +kernel
theorem dX4_look_11 : decode cX4_look 11 = .ok (.getfield 33, 3) := by decide +kernel
theorem dX4_look_14 : decode cX4_look 14 = .ok (.if_icmp .ge 68, 3) := by decide +kernel
theorem dX4_look_17 : decode cX4_look 17 = .ok (.aload_n 1, 1) := by decide +kernel
theorem dX4_look_18 : decode cX4_look 18 = .ok (.iload_n 2, 1) := by decide +kernel
theorem dX4_look_19 : decode cX4_look 19 = .ok (.iload_n 3, 1) := by decide +kernel
theorem dX4_look_20 : decode cX4_look 20 = .ok (.invokevirtual 56, 3) := by decide +kernel
theorem dX4_look_23 : decode cX4_look 23 = .ok (.lstore 4, 2) := by decide +kernel
theorem dX4_look_25 : decode cX4_look 25 = .ok (.lload 4, 2) := by decide +kernel
theorem dX4_look_27 : decode cX4_look 27 = .ok (.invokestatic 60, 3) := by decide +kernel
theorem dX4_look_30 : decode cX4_look 30 = .ok (.istore 6, 2) := by decide +kernel
theorem dX4_look_32 : decode cX4_look 32 = .ok (.iload_n 2, 1) := by decide +kernel
theorem dX4_look_33 : decode cX4_look 33 = .ok (.bipush 64, 2) := by decide +kernel
theorem dX4_look_35 : decode cX4_look 35 = .ok (.imul, 1) := by decide +kernel
theorem dX4_look_36 : decode cX4_look 36 = .ok (.istore 7, 2) := by decide +kernel
theorem dX4_look_38 : decode cX4_look 38 = .ok (.aload_n 0, 1) := by decide +kernel
theorem dX4_look_39 : decode cX4_look 39 = .ok (.getfield 15, 3) := by decide +kernel
theorem dX4_look_42 : decode cX4_look 42 = .ok (.iload 7, 2) := by decide +kernel
theorem dX4_look_44 : decode cX4_look 44 = .ok (.iload_n 3, 1) := by decide +kernel
theorem dX4_look_45 : decode cX4_look 45 = .ok (.iadd, 1) := by decide +kernel
theorem dX4_look_46 : decode cX4_look 46 = .ok (.iload 6, 2) := by decide +kernel
theorem dX4_look_48 : decode cX4_look 48 = .ok (.iload_n 3, 1) := by decide +kernel
theorem dX4_look_49 : decode cX4_look 49 = .ok (.if_icmp .ge 16, 3) := by decide +kernel
theorem dX4_look_52 : decode cX4_look 52 = .ok (.aload_n 0, 1) := by decide +kernel
theorem dX4_look_53 : decode cX4_look 53 = .ok (.getfield 15, 3) := by decide +kernel
theorem dX4_look_56 : decode cX4_look 56 = .ok (.iload 7, 2) := by decide +kernel
theorem dX4_look_58 : decode cX4_look 58 = .ok (.iload 6, 2) := by decide +kernel
theorem dX4_look_60 : decode cX4_look 60 = .ok (.iadd, 1) := by decide +kernel
theorem dX4_look_61 : decode cX4_look 61 = .ok (.laload, 1) := by decide +kernel
theorem dX4_look_62 : decode cX4_look 62 = .ok (.goto 13, 3) := by decide +kernel
theorem dX4_look_65 : decode cX4_look 65 = .ok (.aload_n 0, 1) := by decide +kernel
theorem dX4_look_66 : decode cX4_look 66 = .ok (.lload 4, 2) := by decide +kernel
theorem dX4_look_68 : decode cX4_look 68 = .ok (.aload_n 1, 1) := by decide +kernel
theorem dX4_look_69 : decode cX4_look 69 = .ok (.getfield 33, 3) := by decide +kernel
theorem dX4_look_72 : decode cX4_look 72 = .ok (.invokevirtual 64, 3) := by decide +kernel
theorem dX4_look_75 : decode cX4_look 75 = .ok (.lastore, 1) := by decide +kernel
theorem dX4_look_76 : decode cX4_look 76 = .ok (.iinc 3 1, 3) := by decide +kernel
theorem dX4_look_79 : decode cX4_look 79 = .ok (.goto (-70), 3) := by decide +kernel
theorem dX4_look_82 : decode cX4_look 82 = .ok (.iinc 2 1, 3) := by decide +kernel
theorem dX4_look_85 : decode cX4_look 85 = .ok (.goto (-83), 3) := by decide +kernel
theorem dX4_look_88 : decode cX4_look 88 = .ok (.return_, 1) := by decide +kernel
def f_X4_look_75 (F P : Nat) (S : xSt) (rec_2 : Nat → Nat → Int32 → xDt → Option (xDt)) (rec_9 : Nat → Nat → Int32 → Int32 → xDt → Option (xDt)) (v0 : Nat) (v1 : Nat) (v2 : Int32) (v3 : Int32) (s0 : Int64) (s1 : Int32) (s2 : Nat) (D : xDt) : Option (xDt) :=
  xgrd (xin s1 (xl S s2)) (xlet (D.1, xup D.2 s2 (s1).toNatClampNeg s0) fun D2 => xlet (v3 + 1) fun v3_3 => rec_9 v0 v1 v2 v3_3 D2)
set_option maxHeartbeats 4000000 in
theorem t_X4_look_75 {F P : Nat} {S : xSt} (hS : xWF S) {rec_2 : Nat → Nat → Int32 → xDt → Option (xDt)} (hrec_2 : ∀ {v0 : Nat} {v1 : Nat} {v2 : Int32} {D : xDt} {r : xDt}, xK S v0 4 → xK S v1 10 → rec_2 v0 v1 v2 D = some r → yEx md_X4_look 2 2 [(0, .ref v0), (1, .ref v1), (2, .int v2)] [] S D (xQv S r)) {rec_9 : Nat → Nat → Int32 → Int32 → xDt → Option (xDt)} (hrec_9 : ∀ {v0 : Nat} {v1 : Nat} {v2 : Int32} {v3 : Int32} {D : xDt} {r : xDt}, xK S v0 4 → xK S v1 10 → rec_9 v0 v1 v2 v3 D = some r → yEx md_X4_look 2 9 [(0, .ref v0), (1, .ref v1), (2, .int v2), (3, .int v3)] [] S D (xQv S r)) {v0 : Nat} {v1 : Nat} {v2 : Int32} {v3 : Int32} {s0 : Int64} {s1 : Int32} {s2 : Nat} {D : xDt} {r : xDt} (k0 : xK S v0 4) (k1 : xK S v1 10) (ks2 : xK S s2 101) (h : f_X4_look_75 F P S rec_2 rec_9 v0 v1 v2 v3 s0 s1 s2 D = some r) : yEx md_X4_look 2 75 [(0, .ref v0), (1, .ref v1), (2, .int v2), (3, .int v3)] [.long s0, .int s1, .ref s2] S D (xQv S r) := by
  unfold f_X4_look_75 at h
  refine xgrd_e h (fun g1 h => ?_)
  refine xlet_e h (fun D2 eD2 h => ?_)
  refine y_last dX4_look_75 ks2 g1 eD2 ?_
  refine xlet_e h (fun v3_3 ev3_3 h => ?_)
  refine y_iinc v3_3 ev3_3 (by decide) [(3, .int v3_3), (0, .ref v0), (1, .ref v1), (2, .int v2)] dX4_look_76 3 rfl (by show _ < 8; decide) rfl ?_
  refine x_goto 9 dX4_look_79 (by decide) ?_
  refine x_lv (lv' := [(0, .ref v0), (1, .ref v1), (2, .int v2), (3, .int v3_3)]) [1, 2, 3, 0] rfl ?_
  exact hrec_9 k0 k1 h

def f_X4_look_9s (F P : Nat) (S : xSt) (rec_2 : Nat → Nat → Int32 → xDt → Option (xDt)) (rec_9 : Nat → Nat → Int32 → Int32 → xDt → Option (xDt)) (v0 : Nat) (v1 : Nat) (v2 : Int32) (v3 : Int32) (D : xDt) : Option (xDt) :=
  if (D.1 v1 0) ≤ v3 then (xlet (v2 + 1) fun v2_1 => rec_2 v0 v1 v2_1 D) else ((f_X10_cell F P S v1 v2 v3 D).bind fun q2 => (f_X11_lowest F P S q2.1 q2.2).bind fun q3 => xlet (v2 * 64) fun v7_4 => if v3 ≤ q3.1 then ((f_X4_firstsIn F P S v0 q2.1 (q3.2.1 v1 0) q3.2).bind fun q5 => f_X4_look_75 F P S rec_2 rec_9 v0 v1 v2 v3 q5.1 (v7_4 + v3) (xr S v0 1) q5.2) else (xgrd (xin (v7_4 + q3.1) (xl S (xr S v0 1))) (f_X4_look_75 F P S rec_2 rec_9 v0 v1 v2 v3 (q3.2.2 (xr S v0 1) (v7_4 + q3.1).toNatClampNeg) (v7_4 + v3) (xr S v0 1) q3.2)))
def f_X4_look_9 (F P : Nat) (S : xSt) (rec_2 : Nat → Nat → Int32 → xDt → Option (xDt)) : Nat → Nat → Nat → Int32 → Int32 → xDt → Option (xDt)
  | 0 => fun _ _ _ _ _ => none
  | n + 1 => f_X4_look_9s F P S rec_2 (f_X4_look_9 F P S rec_2 n)
set_option maxHeartbeats 4000000 in
theorem t_X4_look_9s {F P : Nat} {S : xSt} (hS : xWF S) {rec_2 : Nat → Nat → Int32 → xDt → Option (xDt)} (hrec_2 : ∀ {v0 : Nat} {v1 : Nat} {v2 : Int32} {D : xDt} {r : xDt}, xK S v0 4 → xK S v1 10 → rec_2 v0 v1 v2 D = some r → yEx md_X4_look 2 2 [(0, .ref v0), (1, .ref v1), (2, .int v2)] [] S D (xQv S r)) {rec_9 : Nat → Nat → Int32 → Int32 → xDt → Option (xDt)} (hrec_9 : ∀ {v0 : Nat} {v1 : Nat} {v2 : Int32} {v3 : Int32} {D : xDt} {r : xDt}, xK S v0 4 → xK S v1 10 → rec_9 v0 v1 v2 v3 D = some r → yEx md_X4_look 2 9 [(0, .ref v0), (1, .ref v1), (2, .int v2), (3, .int v3)] [] S D (xQv S r)) {v0 : Nat} {v1 : Nat} {v2 : Int32} {v3 : Int32} {D : xDt} {r : xDt} (k0 : xK S v0 4) (k1 : xK S v1 10) (h : f_X4_look_9s F P S rec_2 rec_9 v0 v1 v2 v3 D = some r) : yEx md_X4_look 2 9 [(0, .ref v0), (1, .ref v1), (2, .int v2), (3, .int v3)] [] S D (xQv S r) := by
  unfold f_X4_look_9s at h
  refine x_iload_n dX4_look_9 3 rfl ?_
  refine x_aload_n dX4_look_10 1 rfl ?_
  refine y_geti fl_RX4_33 dX4_look_11 rfl k1 ?_
  refine x_icmp_ge 82 dX4_look_14 (by decide) (fun c => ?_) (fun c => ?_)
  · rw [if_pos c] at h
    refine xlet_e h (fun v2_1 ev2_1 h => ?_)
    refine y_iinc v2_1 ev2_1 (by decide) [(2, .int v2_1), (0, .ref v0), (1, .ref v1), (3, .int v3)] dX4_look_82 2 rfl (by show _ < 8; decide) rfl ?_
    refine x_goto 2 dX4_look_85 (by decide) ?_
    refine x_lv (lv' := [(0, .ref v0), (1, .ref v1), (2, .int v2_1)]) [1, 2, 0] rfl ?_
    exact hrec_2 k0 k1 h
  · rw [if_neg c] at h
    refine x_aload_n dX4_look_17 1 rfl ?_
    refine x_iload_n dX4_look_18 2 rfl ?_
    refine x_iload_n dX4_look_19 3 rfl ?_
    refine xbnd_e h (fun q2 e2 h => ?_)
    refine y_callVl (As := [.int v2, .int v3]) (q := q2) cv_RX4_56 dX4_look_20 k1 rfl (Nat.le_of_ble_eq_true rfl) (by omega) (S_X10_cell hS k1 e2) ?_
    refine y_lstore q2.1 rfl [(4, .long q2.1), (0, .ref v0), (1, .ref v1), (2, .int v2), (3, .int v3)] dX4_look_23 (by show _ < 8; decide) rfl ?_
    refine x_lload dX4_look_25 0 rfl ?_
    refine xbnd_e h (fun q3 e3 h => ?_)
    refine y_callNi (As := [.long q2.1]) (q := q3) cn_RX4_60 dX4_look_27 rfl (Nat.le_of_ble_eq_true rfl) (by omega) (S_X11_lowest hS e3) ?_
    refine y_istore q3.1 rfl [(6, .int q3.1), (4, .long q2.1), (0, .ref v0), (1, .ref v1), (2, .int v2), (3, .int v3)] dX4_look_30 (by show _ < 8; decide) rfl ?_
    refine x_iload_n dX4_look_32 4 rfl ?_
    refine x_bipush 64 dX4_look_33 (by decide) ?_
    refine x_imul dX4_look_35 ?_
    refine xlet_e h (fun v7_4 ev7_4 h => ?_)
    refine y_istore v7_4 ev7_4 [(7, .int v7_4), (6, .int q3.1), (4, .long q2.1), (0, .ref v0), (1, .ref v1), (2, .int v2), (3, .int v3)] dX4_look_36 (by show _ < 8; decide) rfl ?_
    refine x_aload_n dX4_look_38 3 rfl ?_
    refine y_getr (kd := 101) hS fl_RX4_15 dX4_look_39 rfl k0 ?_
    refine x_iload dX4_look_42 0 rfl ?_
    refine x_iload_n dX4_look_44 6 rfl ?_
    refine x_iadd dX4_look_45 ?_
    refine x_iload dX4_look_46 1 rfl ?_
    refine x_iload_n dX4_look_48 6 rfl ?_
    refine x_icmp_ge 65 dX4_look_49 (by decide) (fun c => ?_) (fun c => ?_)
    · rw [if_pos c] at h
      refine x_aload_n dX4_look_65 3 rfl ?_
      refine x_lload dX4_look_66 2 rfl ?_
      refine x_aload_n dX4_look_68 4 rfl ?_
      refine y_geti fl_RX4_33 dX4_look_69 rfl k1 ?_
      refine xbnd_e h (fun q5 e5 h => ?_)
      refine y_callVl (As := [.long q2.1, .int (q3.2.1 v1 0)]) (q := q5) cv_RX4_64 dX4_look_72 k0 rfl (Nat.le_of_ble_eq_true rfl) (by omega) (S_X4_firstsIn hS k0 e5) ?_
      refine x_lv (lv' := [(0, .ref v0), (1, .ref v1), (2, .int v2), (3, .int v3)]) [3, 4, 5, 6] rfl ?_
      exact t_X4_look_75 hS hrec_2 hrec_9 k0 k1 ((hS.f k0 1 101 rfl).2) h
    · rw [if_neg c] at h
      refine x_aload_n dX4_look_52 3 rfl ?_
      refine y_getr (kd := 101) hS fl_RX4_15 dX4_look_53 rfl k0 ?_
      refine x_iload dX4_look_56 0 rfl ?_
      refine x_iload dX4_look_58 1 rfl ?_
      refine x_iadd dX4_look_60 ?_
      refine xgrd_e h (fun g6 h => ?_)
      refine y_lald dX4_look_61 ((hS.f k0 1 101 rfl).2) g6 ?_
      refine x_goto 75 dX4_look_62 (by decide) ?_
      refine x_lv (lv' := [(0, .ref v0), (1, .ref v1), (2, .int v2), (3, .int v3)]) [3, 4, 5, 6] rfl ?_
      exact t_X4_look_75 hS hrec_2 hrec_9 k0 k1 ((hS.f k0 1 101 rfl).2) h
theorem t_X4_look_9 {F P : Nat} {S : xSt} (hS : xWF S) {rec_2 : Nat → Nat → Int32 → xDt → Option (xDt)} (hrec_2 : ∀ {v0 : Nat} {v1 : Nat} {v2 : Int32} {D : xDt} {r : xDt}, xK S v0 4 → xK S v1 10 → rec_2 v0 v1 v2 D = some r → yEx md_X4_look 2 2 [(0, .ref v0), (1, .ref v1), (2, .int v2)] [] S D (xQv S r)) : ∀ (n : Nat) {v0 : Nat} {v1 : Nat} {v2 : Int32} {v3 : Int32} {D : xDt} {r : xDt}, xK S v0 4 → xK S v1 10 → f_X4_look_9 F P S rec_2 n v0 v1 v2 v3 D = some r → yEx md_X4_look 2 9 [(0, .ref v0), (1, .ref v1), (2, .int v2), (3, .int v3)] [] S D (xQv S r) := by
  intro n
  induction n with
  | zero => intros; rename_i h; cases h
  | succ n ih =>
    intro v0 v1 v2 v3 D r k0 k1 h
    exact t_X4_look_9s hS hrec_2 (fun k0 k1 h => ih k0 k1 h) k0 k1 h

def f_X4_look_2s (F P : Nat) (S : xSt) (rec_2 : Nat → Nat → Int32 → xDt → Option (xDt)) (v0 : Nat) (v1 : Nat) (v2 : Int32) (D : xDt) : Option (xDt) :=
  if 4 ≤ v2 then (some D) else (f_X4_look_9 F P S rec_2 F v0 v1 v2 0 D)
def f_X4_look_2 (F P : Nat) (S : xSt) : Nat → Nat → Nat → Int32 → xDt → Option (xDt)
  | 0 => fun _ _ _ _ => none
  | n + 1 => f_X4_look_2s F P S (f_X4_look_2 F P S n)
set_option maxHeartbeats 4000000 in
theorem t_X4_look_2s {F P : Nat} {S : xSt} (hS : xWF S) {rec_2 : Nat → Nat → Int32 → xDt → Option (xDt)} (hrec_2 : ∀ {v0 : Nat} {v1 : Nat} {v2 : Int32} {D : xDt} {r : xDt}, xK S v0 4 → xK S v1 10 → rec_2 v0 v1 v2 D = some r → yEx md_X4_look 2 2 [(0, .ref v0), (1, .ref v1), (2, .int v2)] [] S D (xQv S r)) {v0 : Nat} {v1 : Nat} {v2 : Int32} {D : xDt} {r : xDt} (k0 : xK S v0 4) (k1 : xK S v1 10) (h : f_X4_look_2s F P S rec_2 v0 v1 v2 D = some r) : yEx md_X4_look 2 2 [(0, .ref v0), (1, .ref v1), (2, .int v2)] [] S D (xQv S r) := by
  unfold f_X4_look_2s at h
  refine x_iload_n dX4_look_2 2 rfl ?_
  refine x_iconst 4 dX4_look_3 (by decide) ?_
  refine x_icmp_ge 88 dX4_look_4 (by decide) (fun c => ?_) (fun c => ?_)
  · rw [if_pos c] at h
    obtain rfl := Option.some.inj h
    exact y_vret rfl dX4_look_88
  · rw [if_neg c] at h
    refine x_iconst 0 dX4_look_7 (by decide) ?_
    refine y_istore_n 0 rfl [(3, .int 0), (0, .ref v0), (1, .ref v1), (2, .int v2)] dX4_look_8 (by show _ < 8; decide) rfl ?_
    refine x_lv (lv' := [(0, .ref v0), (1, .ref v1), (2, .int v2), (3, .int 0)]) [1, 2, 3, 0] rfl ?_
    exact t_X4_look_9 hS hrec_2 F k0 k1 h
theorem t_X4_look_2 {F P : Nat} {S : xSt} (hS : xWF S) : ∀ (n : Nat) {v0 : Nat} {v1 : Nat} {v2 : Int32} {D : xDt} {r : xDt}, xK S v0 4 → xK S v1 10 → f_X4_look_2 F P S n v0 v1 v2 D = some r → yEx md_X4_look 2 2 [(0, .ref v0), (1, .ref v1), (2, .int v2)] [] S D (xQv S r) := by
  intro n
  induction n with
  | zero => intros; rename_i h; cases h
  | succ n ih =>
    intro v0 v1 v2 D r k0 k1 h
    exact t_X4_look_2s hS (fun k0 k1 h => ih k0 k1 h) k0 k1 h

def f_X4_look (F P : Nat) (S : xSt) (v0 : Nat) (v1 : Nat) (D : xDt) : Option (xDt) :=
  f_X4_look_2 F P S F v0 v1 0 D
set_option maxHeartbeats 4000000 in
theorem S_X4_look {F P : Nat} {S : xSt} (hS : xWF S) {v0 : Nat} {v1 : Nat} {D : xDt} {r : xDt} (k0 : xK S v0 4) (k1 : xK S v1 10) (h : f_X4_look F P S v0 v1 D = some r) : xSp md_X4_look (2, 0, 0) [.ref v0, .ref v1] (S, D) (xQv S r) := by
  unfold f_X4_look at h
  refine xEntry (by decide) (Nat.le_of_ble_eq_true rfl) ?_
  refine x_lv (lv' := [(0, .ref v0), (1, .ref v1)]) [0, 1] rfl ?_
  refine x_iconst 0 dX4_look_0 (by decide) ?_
  refine y_istore_n 0 rfl [(2, .int 0), (0, .ref v0), (1, .ref v1)] dX4_look_1 (by show _ < 8; decide) rfl ?_
  refine x_lv (lv' := [(0, .ref v0), (1, .ref v1), (2, .int 0)]) [1, 2, 0] rfl ?_
  exact t_X4_look_2 hS F k0 k1 h

theorem dX4_seeSame_0 : decode cX4_seeSame 0 = .ok (.iconst 0, 1) := by decide +kernel
theorem dX4_seeSame_1 : decode cX4_seeSame 1 = .ok (.istore_n 3, 1) := by decide +kernel
theorem dX4_seeSame_2 : decode cX4_seeSame 2 = .ok (.iload_n 3, 1) := by decide +kernel
theorem dX4_seeSame_3 : decode cX4_seeSame 3 = .ok (.iconst 4, 1) := by decide +kernel
theorem dX4_seeSame_4 : decode cX4_seeSame 4 = .ok (.if_icmp .ge 37, 3) := by decide +kernel
theorem dX4_seeSame_7 : decode cX4_seeSame 7 = .ok (.aload_n 0, 1) := by decide +kernel
theorem dX4_seeSame_8 : decode cX4_seeSame 8 = .ok (.getfield 15, 3) := by decide +kernel
theorem dX4_seeSame_11 : decode cX4_seeSame 11 = .ok (.iload_n 3, 1) := by decide +kernel
theorem dX4_seeSame_12 : decode cX4_seeSame 12 = .ok (.bipush 64, 2) := by decide +kernel
theorem dX4_seeSame_14 : decode cX4_seeSame 14 = .ok (.imul, 1) := by decide +kernel
theorem dX4_seeSame_15 : decode cX4_seeSame 15 = .ok (.iload_n 1, 1) := by decide +kernel
theorem dX4_seeSame_16 : decode cX4_seeSame 16 = .ok (.iadd, 1) := by decide +kernel
theorem dX4_seeSame_17 : decode cX4_seeSame 17 = .ok (.laload, 1) := by decide +kernel
theorem dX4_seeSame_18 : decode cX4_seeSame 18 = .ok (.aload_n 0, 1) := by decide +kernel
theorem dX4_seeSame_19 : decode cX4_seeSame 19 = .ok (.getfield 15, 3) := by decide +kernel
theorem dX4_seeSame_22 : decode cX4_seeSame 22 = .ok (.iload_n 3, 1) := by decide +kernel
theorem dX4_seeSame_23 : decode cX4_seeSame 23 = .ok (.bipush 64, 2) := by decide +kernel
theorem dX4_seeSame_25 : decode cX4_seeSame 25 = .ok (.imul, 1) := by decide +kernel
theorem dX4_seeSame_26 : decode cX4_seeSame 26 = .ok (.iload_n 2, 1) := by decide +kernel
theorem dX4_seeSame_27 : decode cX4_seeSame 27 = .ok (.iadd, 1) := by decide +kernel
theorem dX4_seeSame_28 : decode cX4_seeSame 28 = .ok (.laload, 1) := by decide +kernel
theorem dX4_seeSame_29 : decode cX4_seeSame 29 = .ok (.lcmp, 1) := by decide +kernel
theorem dX4_seeSame_30 : decode cX4_seeSame 30 = .ok (.ifCond .eq 5, 3) := by decide +kernel
theorem dX4_seeSame_33 : decode cX4_seeSame 33 = .ok (.iconst 0, 1) := by decide +kernel
theorem dX4_seeSame_34 : decode cX4_seeSame 34 = .ok (.ireturn, 1) := by decide +kernel
theorem dX4_seeSame_35 : decode cX4_seeSame 35 = .ok (.iinc 3 1, 3) := by decide +kernel
theorem dX4_seeSame_38 : decode cX4_seeSame 38 = .ok (.goto (-36), 3) := by decide +kernel
theorem dX4_seeSame_41 : decode cX4_seeSame 41 = .ok (.iconst 1, 1) := by decide +kernel
theorem dX4_seeSame_42 : decode cX4_seeSame 42 = .ok (.ireturn, 1) := by decide +kernel
def f_X4_seeSame_2s (F P : Nat) (S : xSt) (rec_2 : Nat → Int32 → Int32 → Int32 → xDt → Option (Int32 × xDt)) (v0 : Nat) (v1 : Int32) (v2 : Int32) (v3 : Int32) (D : xDt) : Option (Int32 × xDt) :=
  if 4 ≤ v3 then (some (1, D)) else (xgrd (xin ((v3 * 64) + v1) (xl S (xr S v0 1))) (xgrd (xin ((v3 * 64) + v2) (xl S (xr S v0 1))) (if (lg_cmp (D.2 (xr S v0 1) ((v3 * 64) + v1).toNatClampNeg) (D.2 (xr S v0 1) ((v3 * 64) + v2).toNatClampNeg)) = 0 then (xlet (v3 + 1) fun v3_3 => rec_2 v0 v1 v2 v3_3 D) else (some (0, D)))))
def f_X4_seeSame_2 (F P : Nat) (S : xSt) : Nat → Nat → Int32 → Int32 → Int32 → xDt → Option (Int32 × xDt)
  | 0 => fun _ _ _ _ _ => none
  | n + 1 => f_X4_seeSame_2s F P S (f_X4_seeSame_2 F P S n)
set_option maxHeartbeats 4000000 in
theorem t_X4_seeSame_2s {F P : Nat} {S : xSt} (hS : xWF S) {rec_2 : Nat → Int32 → Int32 → Int32 → xDt → Option (Int32 × xDt)} (hrec_2 : ∀ {v0 : Nat} {v1 : Int32} {v2 : Int32} {v3 : Int32} {D : xDt} {r : Int32 × xDt}, xK S v0 4 → rec_2 v0 v1 v2 v3 D = some r → yEx md_X4_seeSame 0 2 [(0, .ref v0), (1, .int v1), (2, .int v2), (3, .int v3)] [] S D (xQi S r)) {v0 : Nat} {v1 : Int32} {v2 : Int32} {v3 : Int32} {D : xDt} {r : Int32 × xDt} (k0 : xK S v0 4) (h : f_X4_seeSame_2s F P S rec_2 v0 v1 v2 v3 D = some r) : yEx md_X4_seeSame 0 2 [(0, .ref v0), (1, .int v1), (2, .int v2), (3, .int v3)] [] S D (xQi S r) := by
  unfold f_X4_seeSame_2s at h
  refine x_iload_n dX4_seeSame_2 3 rfl ?_
  refine x_iconst 4 dX4_seeSame_3 (by decide) ?_
  refine x_icmp_ge 41 dX4_seeSame_4 (by decide) (fun c => ?_) (fun c => ?_)
  · rw [if_pos c] at h
    refine x_iconst 1 dX4_seeSame_41 (by decide) ?_
    obtain rfl := Option.some.inj h
    exact y_zret rfl rfl dX4_seeSame_42
  · rw [if_neg c] at h
    refine x_aload_n dX4_seeSame_7 0 rfl ?_
    refine y_getr (kd := 101) hS fl_RX4_15 dX4_seeSame_8 rfl k0 ?_
    refine x_iload_n dX4_seeSame_11 3 rfl ?_
    refine x_bipush 64 dX4_seeSame_12 (by decide) ?_
    refine x_imul dX4_seeSame_14 ?_
    refine x_iload_n dX4_seeSame_15 1 rfl ?_
    refine x_iadd dX4_seeSame_16 ?_
    refine xgrd_e h (fun g1 h => ?_)
    refine y_lald dX4_seeSame_17 ((hS.f k0 1 101 rfl).2) g1 ?_
    refine x_aload_n dX4_seeSame_18 0 rfl ?_
    refine y_getr (kd := 101) hS fl_RX4_15 dX4_seeSame_19 rfl k0 ?_
    refine x_iload_n dX4_seeSame_22 3 rfl ?_
    refine x_bipush 64 dX4_seeSame_23 (by decide) ?_
    refine x_imul dX4_seeSame_25 ?_
    refine x_iload_n dX4_seeSame_26 2 rfl ?_
    refine x_iadd dX4_seeSame_27 ?_
    refine xgrd_e h (fun g2 h => ?_)
    refine y_lald dX4_seeSame_28 ((hS.f k0 1 101 rfl).2) g2 ?_
    refine x_lcmp dX4_seeSame_29 ?_
    refine x_if_eq 35 dX4_seeSame_30 (by decide) (fun c => ?_) (fun c => ?_)
    · rw [if_pos c] at h
      refine xlet_e h (fun v3_3 ev3_3 h => ?_)
      refine y_iinc v3_3 ev3_3 (by decide) [(3, .int v3_3), (0, .ref v0), (1, .int v1), (2, .int v2)] dX4_seeSame_35 3 rfl (by show _ < 4; decide) rfl ?_
      refine x_goto 2 dX4_seeSame_38 (by decide) ?_
      refine x_lv (lv' := [(0, .ref v0), (1, .int v1), (2, .int v2), (3, .int v3_3)]) [1, 2, 3, 0] rfl ?_
      exact hrec_2 k0 h
    · rw [if_neg c] at h
      refine x_iconst 0 dX4_seeSame_33 (by decide) ?_
      obtain rfl := Option.some.inj h
      exact y_zret rfl rfl dX4_seeSame_34
theorem t_X4_seeSame_2 {F P : Nat} {S : xSt} (hS : xWF S) : ∀ (n : Nat) {v0 : Nat} {v1 : Int32} {v2 : Int32} {v3 : Int32} {D : xDt} {r : Int32 × xDt}, xK S v0 4 → f_X4_seeSame_2 F P S n v0 v1 v2 v3 D = some r → yEx md_X4_seeSame 0 2 [(0, .ref v0), (1, .int v1), (2, .int v2), (3, .int v3)] [] S D (xQi S r) := by
  intro n
  induction n with
  | zero => intros; rename_i h; cases h
  | succ n ih =>
    intro v0 v1 v2 v3 D r k0 h
    exact t_X4_seeSame_2s hS (fun k0 h => ih k0 h) k0 h

def f_X4_seeSame (F P : Nat) (S : xSt) (v0 : Nat) (v1 : Int32) (v2 : Int32) (D : xDt) : Option (Int32 × xDt) :=
  f_X4_seeSame_2 F P S F v0 v1 v2 0 D
set_option maxHeartbeats 4000000 in
theorem S_X4_seeSame {F P : Nat} {S : xSt} (hS : xWF S) {v0 : Nat} {v1 : Int32} {v2 : Int32} {D : xDt} {r : Int32 × xDt} (k0 : xK S v0 4) (h : f_X4_seeSame F P S v0 v1 v2 D = some r) : xSp md_X4_seeSame (0, 0, 0) [.ref v0, .int v1, .int v2] (S, D) (xQi S r) := by
  unfold f_X4_seeSame at h
  refine xEntry (by decide) (Nat.le_of_ble_eq_true rfl) ?_
  refine x_lv (lv' := [(0, .ref v0), (1, .int v1), (2, .int v2)]) [0, 1, 2] rfl ?_
  refine x_iconst 0 dX4_seeSame_0 (by decide) ?_
  refine y_istore_n 0 rfl [(3, .int 0), (0, .ref v0), (1, .int v1), (2, .int v2)] dX4_seeSame_1 (by show _ < 4; decide) rfl ?_
  refine x_lv (lv' := [(0, .ref v0), (1, .int v1), (2, .int v2), (3, .int 0)]) [1, 2, 3, 0] rfl ?_
  exact t_X4_seeSame_2 hS F k0 h

theorem dX4_refine_0 : decode cX4_refine 0 = .ok (.aload_n 0, 1) := by decide +kernel
theorem dX4_refine_1 : decode cX4_refine 1 = .ok (.aload_n 1, 1) := by decide +kernel
theorem dX4_refine_2 : decode cX4_refine 2 = .ok (.invokevirtual 43, 3) := by decide +kernel
theorem dX4_refine_5 : decode cX4_refine 5 = .ok (.iconst 0, 1) := by decide +kernel
theorem dX4_refine_6 : decode cX4_refine 6 = .ok (.istore_n 2, 1) := by decide +kernel
theorem dX4_refine_7 : decode cX4_refine 7 = .ok (.iconst 0, 1) := by decide +kernel
theorem dX4_refine_8 : decode cX4_refine 8 = .ok (.istore_n 3, 1) := by decide +kernel
theorem dX4_refine_9 : decode cX4_refine 9 = .ok (.iload_n 3, 1) := by decide +kernel
theorem dX4_refine_10 : decode cX4_refine 10 = .ok (.aload_n 1, 1) := by decide +kernel
theorem dX4_refine_11 : decode cX4_refine 11 = .ok (.getfield 33, 3) := by decide +kernel
theorem dX4_refine_14 : decode cX4_refine 14 = .ok (.if_icmp .ge 98, 3) := by decide +kernel
theorem dX4_refine_17 : decode cX4_refine 17 = .ok (.aload_n 0, 1) := by decide +kernel
theorem dX4_refine_18 : decode cX4_refine 18 = .ok (.getfield 19, 3) := by decide +kernel
theorem dX4_refine_21 : decode cX4_refine 21 = .ok (.iload_n 3, 1) := by decide +kernel
theorem dX4_refine_22 : decode cX4_refine 22 = .ok (.iload_n 3, 1) := by decide +kernel
theorem dX4_refine_23 : decode cX4_refine 23 = .ok (.iastore, 1) := by decide +kernel
theorem dX4_refine_24 : decode cX4_refine 24 = .ok (.aload_n 0, 1) := by decide +kernel
theorem dX4_refine_25 : decode cX4_refine 25 = .ok (.getfield 9, 3) := by decide +kernel
theorem dX4_refine_28 : decode cX4_refine 28 = .ok (.iload_n 3, 1) := by decide +kernel
theorem dX4_refine_29 : decode cX4_refine 29 = .ok (.iaload, 1) := by decide +kernel
theorem dX4_refine_30 : decode cX4_refine 30 = .ok (.istore 4, 2) := by decide +kernel
theorem dX4_refine_32 : decode cX4_refine 32 = .ok (.iload 4, 2) := by decide +kernel
theorem dX4_refine_34 : decode cX4_refine 34 = .ok (.iload_n 3, 1) := by decide +kernel
theorem dX4_refine_35 : decode cX4_refine 35 = .ok (.if_icmp .ge 46, 3) := by decide +kernel
theorem dX4_refine_38 : decode cX4_refine 38 = .ok (.aload_n 0, 1) := by decide +kernel
theorem dX4_refine_39 : decode cX4_refine 39 = .ok (.getfield 9, 3) := by decide +kernel
theorem dX4_refine_42 : decode cX4_refine 42 = .ok (.iload 4, 2) := by decide +kernel
theorem dX4_refine_44 : decode cX4_refine 44 = .ok (.iaload, 1) := by decide +kernel
theorem dX4_refine_45 : decode cX4_refine 45 = .ok (.aload_n 0, 1) := by decide +kernel
theorem dX4_refine_46 : decode cX4_refine 46 = .ok (.getfield 9, 3) := by decide +kernel
theorem dX4_refine_49 : decode cX4_refine 49 = .ok (.iload_n 3, 1) := by decide +kernel
theorem dX4_refine_50 : decode cX4_refine 50 = .ok (.iaload, 1) := by decide +kernel
theorem dX4_refine_51 : decode cX4_refine 51 = .ok (.if_icmp .ne 24, 3) := by decide +kernel
theorem dX4_refine_54 : decode cX4_refine 54 = .ok (.aload_n 0, 1) := by decide +kernel
theorem dX4_refine_55 : decode cX4_refine 55 = .ok (.iload 4, 2) := by decide +kernel
theorem dX4_refine_57 : decode cX4_refine 57 = .ok (.iload_n 3, 1) := by decide +kernel
theorem dX4_refine_58 : decode cX4_refine 58 = .ok (.invokevirtual 46, 3) := by decide +kernel
theorem dX4_refine_61 : decode cX4_refine 61 = .ok (.ifCond .eq 14, 3) := by decide +kernel
theorem dX4_refine_64 : decode cX4_refine 64 = .ok (.aload_n 0, 1) := by decide +kernel
theorem dX4_refine_65 : decode cX4_refine 65 = .ok (.getfield 19, 3) := by decide +kernel
theorem dX4_refine_68 : decode cX4_refine 68 = .ok (.iload_n 3, 1) := by decide +kernel
theorem dX4_refine_69 : decode cX4_refine 69 = .ok (.iload 4, 2) := by decide +kernel
theorem dX4_refine_71 : decode cX4_refine 71 = .ok (.iastore, 1) := by decide +kernel
theorem dX4_refine_72 : decode cX4_refine 72 = .ok (.goto 9, 3) := by decide +kernel
theorem dX4_refine_75 : decode cX4_refine 75 = .ok (.iinc 4 1, 3) := by decide +kernel
theorem dX4_refine_78 : decode cX4_refine 78 = .ok (.goto (-46), 3) := by decide +kernel
theorem dX4_refine_81 : decode cX4_refine 81 = .ok (.iload_n 2, 1) := by decide +kernel
theorem dX4_refine_82 : decode cX4_refine 82 = .ok (.ifCond .ne 18, 3) := by decide +kernel
theorem dX4_refine_85 : decode cX4_refine 85 = .ok (.aload_n 0, 1) := by decide +kernel
theorem dX4_refine_86 : decode cX4_refine 86 = .ok (.getfield 19, 3) := by decide +kernel
theorem dX4_refine_89 : decode cX4_refine 89 = .ok (.iload_n 3, 1) := by decide +kernel
theorem dX4_refine_90 : decode cX4_refine 90 = .ok (.iaload, 1) := by decide +kernel
theorem dX4_refine_91 : decode cX4_refine 91 = .ok (.aload_n 0, 1) := by decide +kernel
theorem dX4_refine_92 : decode cX4_refine 92 = .ok (.getfield 9, 3) := by decide +kernel
theorem dX4_refine_95 : decode cX4_refine 95 = .ok (.iload_n 3, 1) := by decide +kernel
theorem dX4_refine_96 : decode cX4_refine 96 = .ok (.iaload, 1) := by decide +kernel
theorem dX4_refine_97 : decode cX4_refine 97 = .ok (.if_icmp .eq 7, 3) := by decide +kernel
theorem dX4_refine_100 : decode cX4_refine 100 = .ok (.iconst 1, 1) := by decide +kernel
theorem dX4_refine_101 : decode cX4_refine 101 = .ok (.goto 4, 3) := by decide +kernel
theorem dX4_refine_104 : decode cX4_refine 104 = .ok (.iconst 0, 1) := by decide +kernel
theorem dX4_refine_105 : decode cX4_refine 105 = .ok (.istore_n 2, 1) := by decide +kernel
theorem dX4_refine_106 : decode cX4_refine 106 = .ok (.iinc 3 1, 3) := by decide +kernel
theorem dX4_refine_109 : decode cX4_refine 109 = .ok (.goto (-100), 3) := by decide +kernel
theorem dX4_refine_112 : decode cX4_refine 112 = .ok (.aload_n 0, 1) := by decide +kernel
theorem dX4_refine_113 : decode cX4_refine 113 = .ok (.getfield 19, 3) := by decide +kernel
theorem dX4_refine_116 : decode cX4_refine 116 = .ok (.iconst 0, 1) := by decide +kernel
theorem dX4_refine_117 : decode cX4_refine 117 = .ok (.aload_n 0, 1) := by decide +kernel
theorem dX4_refine_118 : decode cX4_refine 118 = .ok (.getfield 9, 3) := by decide +kernel
theorem dX4_refine_121 : decode cX4_refine 121 = .ok (.iconst 0, 1) := by decide +kernel
theorem dX4_refine_122 : decode cX4_refine 122 = .ok (.bipush 64, 2) := by decide +kernel
theorem dX4_refine_124 : decode cX4_refine 124 = .ok (.invokestatic 50, 3) := by decide +kernel
theorem dX4_refine_127 : decode cX4_refine 127 = .ok (.iload_n 2, 1) := by decide +kernel
theorem dX4_refine_128 : decode cX4_refine 128 = .ok (.ireturn, 1) := by decide +kernel
def f_X4_refine_75 (F P : Nat) (S : xSt) (rec_9 : Nat → Nat → Int32 → Int32 → xDt → Option (Int32 × xDt)) (rec_32 : Nat → Nat → Int32 → Int32 → Int32 → xDt → Option (Int32 × xDt)) (v0 : Nat) (v1 : Nat) (v2 : Int32) (v3 : Int32) (v4 : Int32) (D : xDt) : Option (Int32 × xDt) :=
  xlet (v4 + 1) fun v4_1 => rec_32 v0 v1 v2 v3 v4_1 D
set_option maxHeartbeats 4000000 in
theorem t_X4_refine_75 {F P : Nat} {S : xSt} (hS : xWF S) {rec_9 : Nat → Nat → Int32 → Int32 → xDt → Option (Int32 × xDt)} (hrec_9 : ∀ {v0 : Nat} {v1 : Nat} {v2 : Int32} {v3 : Int32} {D : xDt} {r : Int32 × xDt}, xK S v0 4 → xK S v1 10 → rec_9 v0 v1 v2 v3 D = some r → yEx md_X4_refine 3 9 [(0, .ref v0), (1, .ref v1), (2, .int v2), (3, .int v3)] [] S D (xQi S r)) {rec_32 : Nat → Nat → Int32 → Int32 → Int32 → xDt → Option (Int32 × xDt)} (hrec_32 : ∀ {v0 : Nat} {v1 : Nat} {v2 : Int32} {v3 : Int32} {v4 : Int32} {D : xDt} {r : Int32 × xDt}, xK S v0 4 → xK S v1 10 → rec_32 v0 v1 v2 v3 v4 D = some r → yEx md_X4_refine 3 32 [(0, .ref v0), (1, .ref v1), (2, .int v2), (3, .int v3), (4, .int v4)] [] S D (xQi S r)) {v0 : Nat} {v1 : Nat} {v2 : Int32} {v3 : Int32} {v4 : Int32} {D : xDt} {r : Int32 × xDt} (k0 : xK S v0 4) (k1 : xK S v1 10) (h : f_X4_refine_75 F P S rec_9 rec_32 v0 v1 v2 v3 v4 D = some r) : yEx md_X4_refine 3 75 [(0, .ref v0), (1, .ref v1), (2, .int v2), (3, .int v3), (4, .int v4)] [] S D (xQi S r) := by
  unfold f_X4_refine_75 at h
  refine xlet_e h (fun v4_1 ev4_1 h => ?_)
  refine y_iinc v4_1 ev4_1 (by decide) [(4, .int v4_1), (0, .ref v0), (1, .ref v1), (2, .int v2), (3, .int v3)] dX4_refine_75 4 rfl (by show _ < 5; decide) rfl ?_
  refine x_goto 32 dX4_refine_78 (by decide) ?_
  refine x_lv (lv' := [(0, .ref v0), (1, .ref v1), (2, .int v2), (3, .int v3), (4, .int v4_1)]) [1, 2, 3, 4, 0] rfl ?_
  exact hrec_32 k0 k1 h

def f_X4_refine_105 (F P : Nat) (S : xSt) (rec_9 : Nat → Nat → Int32 → Int32 → xDt → Option (Int32 × xDt)) (v0 : Nat) (v1 : Nat) (v3 : Int32) (s0 : Int32) (D : xDt) : Option (Int32 × xDt) :=
  xlet (v3 + 1) fun v3_1 => rec_9 v0 v1 s0 v3_1 D
set_option maxHeartbeats 4000000 in
theorem t_X4_refine_105 {F P : Nat} {S : xSt} (hS : xWF S) {rec_9 : Nat → Nat → Int32 → Int32 → xDt → Option (Int32 × xDt)} (hrec_9 : ∀ {v0 : Nat} {v1 : Nat} {v2 : Int32} {v3 : Int32} {D : xDt} {r : Int32 × xDt}, xK S v0 4 → xK S v1 10 → rec_9 v0 v1 v2 v3 D = some r → yEx md_X4_refine 3 9 [(0, .ref v0), (1, .ref v1), (2, .int v2), (3, .int v3)] [] S D (xQi S r)) {v0 : Nat} {v1 : Nat} {v3 : Int32} {s0 : Int32} {D : xDt} {r : Int32 × xDt} (k0 : xK S v0 4) (k1 : xK S v1 10) (h : f_X4_refine_105 F P S rec_9 v0 v1 v3 s0 D = some r) : yEx md_X4_refine 3 105 [(0, .ref v0), (1, .ref v1), (3, .int v3)] [.int s0] S D (xQi S r) := by
  unfold f_X4_refine_105 at h
  refine y_istore_n s0 rfl [(2, .int s0), (0, .ref v0), (1, .ref v1), (3, .int v3)] dX4_refine_105 (by show _ < 5; decide) rfl ?_
  refine xlet_e h (fun v3_1 ev3_1 h => ?_)
  refine y_iinc v3_1 ev3_1 (by decide) [(3, .int v3_1), (2, .int s0), (0, .ref v0), (1, .ref v1)] dX4_refine_106 3 rfl (by show _ < 5; decide) rfl ?_
  refine x_goto 9 dX4_refine_109 (by decide) ?_
  refine x_lv (lv' := [(0, .ref v0), (1, .ref v1), (2, .int s0), (3, .int v3_1)]) [2, 3, 1, 0] rfl ?_
  exact hrec_9 k0 k1 h

def f_X4_refine_100 (F P : Nat) (S : xSt) (rec_9 : Nat → Nat → Int32 → Int32 → xDt → Option (Int32 × xDt)) (v0 : Nat) (v1 : Nat) (v3 : Int32) (D : xDt) : Option (Int32 × xDt) :=
  f_X4_refine_105 F P S rec_9 v0 v1 v3 1 D
set_option maxHeartbeats 4000000 in
theorem t_X4_refine_100 {F P : Nat} {S : xSt} (hS : xWF S) {rec_9 : Nat → Nat → Int32 → Int32 → xDt → Option (Int32 × xDt)} (hrec_9 : ∀ {v0 : Nat} {v1 : Nat} {v2 : Int32} {v3 : Int32} {D : xDt} {r : Int32 × xDt}, xK S v0 4 → xK S v1 10 → rec_9 v0 v1 v2 v3 D = some r → yEx md_X4_refine 3 9 [(0, .ref v0), (1, .ref v1), (2, .int v2), (3, .int v3)] [] S D (xQi S r)) {v0 : Nat} {v1 : Nat} {v3 : Int32} {D : xDt} {r : Int32 × xDt} (k0 : xK S v0 4) (k1 : xK S v1 10) (h : f_X4_refine_100 F P S rec_9 v0 v1 v3 D = some r) : yEx md_X4_refine 3 100 [(0, .ref v0), (1, .ref v1), (3, .int v3)] [] S D (xQi S r) := by
  unfold f_X4_refine_100 at h
  refine x_iconst 1 dX4_refine_100 (by decide) ?_
  refine x_goto 105 dX4_refine_101 (by decide) ?_
  exact t_X4_refine_105 hS hrec_9 k0 k1 h

def f_X4_refine_81 (F P : Nat) (S : xSt) (rec_9 : Nat → Nat → Int32 → Int32 → xDt → Option (Int32 × xDt)) (v0 : Nat) (v1 : Nat) (v2 : Int32) (v3 : Int32) (D : xDt) : Option (Int32 × xDt) :=
  if v2 = 0 then (xgrd (xin v3 (xl S (xr S v0 2))) (xgrd (xin v3 (xl S (xr S v0 0))) (if (D.1 (xr S v0 2) (v3).toNatClampNeg) = (D.1 (xr S v0 0) (v3).toNatClampNeg) then (f_X4_refine_105 F P S rec_9 v0 v1 v3 0 D) else (f_X4_refine_100 F P S rec_9 v0 v1 v3 D)))) else (f_X4_refine_100 F P S rec_9 v0 v1 v3 D)
set_option maxHeartbeats 4000000 in
theorem t_X4_refine_81 {F P : Nat} {S : xSt} (hS : xWF S) {rec_9 : Nat → Nat → Int32 → Int32 → xDt → Option (Int32 × xDt)} (hrec_9 : ∀ {v0 : Nat} {v1 : Nat} {v2 : Int32} {v3 : Int32} {D : xDt} {r : Int32 × xDt}, xK S v0 4 → xK S v1 10 → rec_9 v0 v1 v2 v3 D = some r → yEx md_X4_refine 3 9 [(0, .ref v0), (1, .ref v1), (2, .int v2), (3, .int v3)] [] S D (xQi S r)) {v0 : Nat} {v1 : Nat} {v2 : Int32} {v3 : Int32} {D : xDt} {r : Int32 × xDt} (k0 : xK S v0 4) (k1 : xK S v1 10) (h : f_X4_refine_81 F P S rec_9 v0 v1 v2 v3 D = some r) : yEx md_X4_refine 3 81 [(0, .ref v0), (1, .ref v1), (2, .int v2), (3, .int v3)] [] S D (xQi S r) := by
  unfold f_X4_refine_81 at h
  refine x_iload_n dX4_refine_81 2 rfl ?_
  refine x_if_ne 100 dX4_refine_82 (by decide) (fun c => ?_) (fun c => ?_)
  · rw [if_neg c] at h
    refine x_lv (lv' := [(0, .ref v0), (1, .ref v1), (3, .int v3)]) [0, 1, 3] rfl ?_
    exact t_X4_refine_100 hS hrec_9 k0 k1 h
  · rw [if_pos c] at h
    refine x_aload_n dX4_refine_85 0 rfl ?_
    refine y_getr (kd := 100) hS fl_RX4_19 dX4_refine_86 rfl k0 ?_
    refine x_iload_n dX4_refine_89 3 rfl ?_
    refine xgrd_e h (fun g1 h => ?_)
    refine y_iald dX4_refine_90 ((hS.f k0 2 100 rfl).2) g1 ?_
    refine x_aload_n dX4_refine_91 0 rfl ?_
    refine y_getr (kd := 100) hS fl_RX4_9 dX4_refine_92 rfl k0 ?_
    refine x_iload_n dX4_refine_95 3 rfl ?_
    refine xgrd_e h (fun g2 h => ?_)
    refine y_iald dX4_refine_96 ((hS.f k0 0 100 rfl).2) g2 ?_
    refine x_icmp_eq 104 dX4_refine_97 (by decide) (fun c => ?_) (fun c => ?_)
    · rw [if_pos c] at h
      refine x_iconst 0 dX4_refine_104 (by decide) ?_
      refine x_lv (lv' := [(0, .ref v0), (1, .ref v1), (3, .int v3)]) [0, 1, 3] rfl ?_
      exact t_X4_refine_105 hS hrec_9 k0 k1 h
    · rw [if_neg c] at h
      refine x_lv (lv' := [(0, .ref v0), (1, .ref v1), (3, .int v3)]) [0, 1, 3] rfl ?_
      exact t_X4_refine_100 hS hrec_9 k0 k1 h

def f_X4_refine_32s (F P : Nat) (S : xSt) (rec_9 : Nat → Nat → Int32 → Int32 → xDt → Option (Int32 × xDt)) (rec_32 : Nat → Nat → Int32 → Int32 → Int32 → xDt → Option (Int32 × xDt)) (v0 : Nat) (v1 : Nat) (v2 : Int32) (v3 : Int32) (v4 : Int32) (D : xDt) : Option (Int32 × xDt) :=
  if v3 ≤ v4 then (f_X4_refine_81 F P S rec_9 v0 v1 v2 v3 D) else (xgrd (xin v4 (xl S (xr S v0 0))) (xgrd (xin v3 (xl S (xr S v0 0))) (if (D.1 (xr S v0 0) (v4).toNatClampNeg) = (D.1 (xr S v0 0) (v3).toNatClampNeg) then ((f_X4_seeSame F P S v0 v4 v3 D).bind fun q3 => if q3.1 = 0 then (f_X4_refine_75 F P S rec_9 rec_32 v0 v1 v2 v3 v4 q3.2) else (xgrd (xin v3 (xl S (xr S v0 2))) (xlet (xup q3.2.1 (xr S v0 2) (v3).toNatClampNeg v4, q3.2.2) fun D5 => f_X4_refine_81 F P S rec_9 v0 v1 v2 v3 D5))) else (f_X4_refine_75 F P S rec_9 rec_32 v0 v1 v2 v3 v4 D))))
def f_X4_refine_32 (F P : Nat) (S : xSt) (rec_9 : Nat → Nat → Int32 → Int32 → xDt → Option (Int32 × xDt)) : Nat → Nat → Nat → Int32 → Int32 → Int32 → xDt → Option (Int32 × xDt)
  | 0 => fun _ _ _ _ _ _ => none
  | n + 1 => f_X4_refine_32s F P S rec_9 (f_X4_refine_32 F P S rec_9 n)
set_option maxHeartbeats 4000000 in
theorem t_X4_refine_32s {F P : Nat} {S : xSt} (hS : xWF S) {rec_9 : Nat → Nat → Int32 → Int32 → xDt → Option (Int32 × xDt)} (hrec_9 : ∀ {v0 : Nat} {v1 : Nat} {v2 : Int32} {v3 : Int32} {D : xDt} {r : Int32 × xDt}, xK S v0 4 → xK S v1 10 → rec_9 v0 v1 v2 v3 D = some r → yEx md_X4_refine 3 9 [(0, .ref v0), (1, .ref v1), (2, .int v2), (3, .int v3)] [] S D (xQi S r)) {rec_32 : Nat → Nat → Int32 → Int32 → Int32 → xDt → Option (Int32 × xDt)} (hrec_32 : ∀ {v0 : Nat} {v1 : Nat} {v2 : Int32} {v3 : Int32} {v4 : Int32} {D : xDt} {r : Int32 × xDt}, xK S v0 4 → xK S v1 10 → rec_32 v0 v1 v2 v3 v4 D = some r → yEx md_X4_refine 3 32 [(0, .ref v0), (1, .ref v1), (2, .int v2), (3, .int v3), (4, .int v4)] [] S D (xQi S r)) {v0 : Nat} {v1 : Nat} {v2 : Int32} {v3 : Int32} {v4 : Int32} {D : xDt} {r : Int32 × xDt} (k0 : xK S v0 4) (k1 : xK S v1 10) (h : f_X4_refine_32s F P S rec_9 rec_32 v0 v1 v2 v3 v4 D = some r) : yEx md_X4_refine 3 32 [(0, .ref v0), (1, .ref v1), (2, .int v2), (3, .int v3), (4, .int v4)] [] S D (xQi S r) := by
  unfold f_X4_refine_32s at h
  refine x_iload dX4_refine_32 4 rfl ?_
  refine x_iload_n dX4_refine_34 3 rfl ?_
  refine x_icmp_ge 81 dX4_refine_35 (by decide) (fun c => ?_) (fun c => ?_)
  · rw [if_pos c] at h
    refine x_lv (lv' := [(0, .ref v0), (1, .ref v1), (2, .int v2), (3, .int v3)]) [0, 1, 2, 3] rfl ?_
    exact t_X4_refine_81 hS hrec_9 k0 k1 h
  · rw [if_neg c] at h
    refine x_aload_n dX4_refine_38 0 rfl ?_
    refine y_getr (kd := 100) hS fl_RX4_9 dX4_refine_39 rfl k0 ?_
    refine x_iload dX4_refine_42 4 rfl ?_
    refine xgrd_e h (fun g1 h => ?_)
    refine y_iald dX4_refine_44 ((hS.f k0 0 100 rfl).2) g1 ?_
    refine x_aload_n dX4_refine_45 0 rfl ?_
    refine y_getr (kd := 100) hS fl_RX4_9 dX4_refine_46 rfl k0 ?_
    refine x_iload_n dX4_refine_49 3 rfl ?_
    refine xgrd_e h (fun g2 h => ?_)
    refine y_iald dX4_refine_50 ((hS.f k0 0 100 rfl).2) g2 ?_
    refine x_icmp_ne 75 dX4_refine_51 (by decide) (fun c => ?_) (fun c => ?_)
    · rw [if_neg c] at h
      exact t_X4_refine_75 hS hrec_9 hrec_32 k0 k1 h
    · rw [if_pos c] at h
      refine x_aload_n dX4_refine_54 0 rfl ?_
      refine x_iload dX4_refine_55 4 rfl ?_
      refine x_iload_n dX4_refine_57 3 rfl ?_
      refine xbnd_e h (fun q3 e3 h => ?_)
      refine y_callVi (As := [.int v4, .int v3]) (q := q3) cv_RX4_46 dX4_refine_58 k0 rfl (Nat.le_of_ble_eq_true rfl) (by omega) (S_X4_seeSame hS k0 e3) ?_
      refine x_if_eq 75 dX4_refine_61 (by decide) (fun c => ?_) (fun c => ?_)
      · rw [if_pos c] at h
        exact t_X4_refine_75 hS hrec_9 hrec_32 k0 k1 h
      · rw [if_neg c] at h
        refine x_aload_n dX4_refine_64 0 rfl ?_
        refine y_getr (kd := 100) hS fl_RX4_19 dX4_refine_65 rfl k0 ?_
        refine x_iload_n dX4_refine_68 3 rfl ?_
        refine x_iload dX4_refine_69 4 rfl ?_
        refine xgrd_e h (fun g4 h => ?_)
        refine xlet_e h (fun D5 eD5 h => ?_)
        refine y_iast dX4_refine_71 ((hS.f k0 2 100 rfl).2) g4 eD5 ?_
        refine x_goto 81 dX4_refine_72 (by decide) ?_
        refine x_lv (lv' := [(0, .ref v0), (1, .ref v1), (2, .int v2), (3, .int v3)]) [0, 1, 2, 3] rfl ?_
        exact t_X4_refine_81 hS hrec_9 k0 k1 h
theorem t_X4_refine_32 {F P : Nat} {S : xSt} (hS : xWF S) {rec_9 : Nat → Nat → Int32 → Int32 → xDt → Option (Int32 × xDt)} (hrec_9 : ∀ {v0 : Nat} {v1 : Nat} {v2 : Int32} {v3 : Int32} {D : xDt} {r : Int32 × xDt}, xK S v0 4 → xK S v1 10 → rec_9 v0 v1 v2 v3 D = some r → yEx md_X4_refine 3 9 [(0, .ref v0), (1, .ref v1), (2, .int v2), (3, .int v3)] [] S D (xQi S r)) : ∀ (n : Nat) {v0 : Nat} {v1 : Nat} {v2 : Int32} {v3 : Int32} {v4 : Int32} {D : xDt} {r : Int32 × xDt}, xK S v0 4 → xK S v1 10 → f_X4_refine_32 F P S rec_9 n v0 v1 v2 v3 v4 D = some r → yEx md_X4_refine 3 32 [(0, .ref v0), (1, .ref v1), (2, .int v2), (3, .int v3), (4, .int v4)] [] S D (xQi S r) := by
  intro n
  induction n with
  | zero => intros; rename_i h; cases h
  | succ n ih =>
    intro v0 v1 v2 v3 v4 D r k0 k1 h
    exact t_X4_refine_32s hS hrec_9 (fun k0 k1 h => ih k0 k1 h) k0 k1 h

def f_X4_refine_9s (F P : Nat) (S : xSt) (rec_9 : Nat → Nat → Int32 → Int32 → xDt → Option (Int32 × xDt)) (v0 : Nat) (v1 : Nat) (v2 : Int32) (v3 : Int32) (D : xDt) : Option (Int32 × xDt) :=
  if (D.1 v1 0) ≤ v3 then (xgrd (xcpin 0 0 64 (xl S (xr S v0 2)) (xl S (xr S v0 0))) (xlet (xcp D.1 (xr S v0 2) (xr S v0 0) (0 : Int32).toNatClampNeg (0 : Int32).toNatClampNeg (64 : Int32).toNatClampNeg, D.2) fun D2 => xgrd (xb v2) (some (v2, D2)))) else (xgrd (xin v3 (xl S (xr S v0 2))) (xlet (xup D.1 (xr S v0 2) (v3).toNatClampNeg v3, D.2) fun D5 => xgrd (xin v3 (xl S (xr S v0 0))) (xlet (D5.1 (xr S v0 0) (v3).toNatClampNeg) fun v4_7 => f_X4_refine_32 F P S rec_9 F v0 v1 v2 v3 v4_7 D5)))
def f_X4_refine_9 (F P : Nat) (S : xSt) : Nat → Nat → Nat → Int32 → Int32 → xDt → Option (Int32 × xDt)
  | 0 => fun _ _ _ _ _ => none
  | n + 1 => f_X4_refine_9s F P S (f_X4_refine_9 F P S n)
set_option maxHeartbeats 4000000 in
theorem t_X4_refine_9s {F P : Nat} {S : xSt} (hS : xWF S) {rec_9 : Nat → Nat → Int32 → Int32 → xDt → Option (Int32 × xDt)} (hrec_9 : ∀ {v0 : Nat} {v1 : Nat} {v2 : Int32} {v3 : Int32} {D : xDt} {r : Int32 × xDt}, xK S v0 4 → xK S v1 10 → rec_9 v0 v1 v2 v3 D = some r → yEx md_X4_refine 3 9 [(0, .ref v0), (1, .ref v1), (2, .int v2), (3, .int v3)] [] S D (xQi S r)) {v0 : Nat} {v1 : Nat} {v2 : Int32} {v3 : Int32} {D : xDt} {r : Int32 × xDt} (k0 : xK S v0 4) (k1 : xK S v1 10) (h : f_X4_refine_9s F P S rec_9 v0 v1 v2 v3 D = some r) : yEx md_X4_refine 3 9 [(0, .ref v0), (1, .ref v1), (2, .int v2), (3, .int v3)] [] S D (xQi S r) := by
  unfold f_X4_refine_9s at h
  refine x_iload_n dX4_refine_9 3 rfl ?_
  refine x_aload_n dX4_refine_10 1 rfl ?_
  refine y_geti fl_RX4_33 dX4_refine_11 rfl k1 ?_
  refine x_icmp_ge 112 dX4_refine_14 (by decide) (fun c => ?_) (fun c => ?_)
  · rw [if_pos c] at h
    refine x_aload_n dX4_refine_112 0 rfl ?_
    refine y_getr (kd := 100) hS fl_RX4_19 dX4_refine_113 rfl k0 ?_
    refine x_iconst 0 dX4_refine_116 (by decide) ?_
    refine x_aload_n dX4_refine_117 0 rfl ?_
    refine y_getr (kd := 100) hS fl_RX4_9 dX4_refine_118 rfl k0 ?_
    refine x_iconst 0 dX4_refine_121 (by decide) ?_
    refine x_bipush 64 dX4_refine_122 (by decide) ?_
    refine xgrd_e h (fun g1 h => ?_)
    refine xlet_e h (fun D2 eD2 h => ?_)
    refine y_copyi cp_RX4_50 dX4_refine_124 ((hS.f k0 2 100 rfl).2) ((hS.f k0 0 100 rfl).2) g1 (Nat.le_of_ble_eq_true rfl) (by omega) eD2 ?_
    refine x_iload_n dX4_refine_127 2 rfl ?_
    refine xgrd_e h (fun g3 h => ?_)
    obtain rfl := Option.some.inj h
    exact y_zret rfl g3 dX4_refine_128
  · rw [if_neg c] at h
    refine x_aload_n dX4_refine_17 0 rfl ?_
    refine y_getr (kd := 100) hS fl_RX4_19 dX4_refine_18 rfl k0 ?_
    refine x_iload_n dX4_refine_21 3 rfl ?_
    refine x_iload_n dX4_refine_22 3 rfl ?_
    refine xgrd_e h (fun g4 h => ?_)
    refine xlet_e h (fun D5 eD5 h => ?_)
    refine y_iast dX4_refine_23 ((hS.f k0 2 100 rfl).2) g4 eD5 ?_
    refine x_aload_n dX4_refine_24 0 rfl ?_
    refine y_getr (kd := 100) hS fl_RX4_9 dX4_refine_25 rfl k0 ?_
    refine x_iload_n dX4_refine_28 3 rfl ?_
    refine xgrd_e h (fun g6 h => ?_)
    refine y_iald dX4_refine_29 ((hS.f k0 0 100 rfl).2) g6 ?_
    refine xlet_e h (fun v4_7 ev4_7 h => ?_)
    refine y_istore v4_7 ev4_7 [(4, .int v4_7), (0, .ref v0), (1, .ref v1), (2, .int v2), (3, .int v3)] dX4_refine_30 (by show _ < 5; decide) rfl ?_
    refine x_lv (lv' := [(0, .ref v0), (1, .ref v1), (2, .int v2), (3, .int v3), (4, .int v4_7)]) [1, 2, 3, 4, 0] rfl ?_
    exact t_X4_refine_32 hS hrec_9 F k0 k1 h
theorem t_X4_refine_9 {F P : Nat} {S : xSt} (hS : xWF S) : ∀ (n : Nat) {v0 : Nat} {v1 : Nat} {v2 : Int32} {v3 : Int32} {D : xDt} {r : Int32 × xDt}, xK S v0 4 → xK S v1 10 → f_X4_refine_9 F P S n v0 v1 v2 v3 D = some r → yEx md_X4_refine 3 9 [(0, .ref v0), (1, .ref v1), (2, .int v2), (3, .int v3)] [] S D (xQi S r) := by
  intro n
  induction n with
  | zero => intros; rename_i h; cases h
  | succ n ih =>
    intro v0 v1 v2 v3 D r k0 k1 h
    exact t_X4_refine_9s hS (fun k0 k1 h => ih k0 k1 h) k0 k1 h

def f_X4_refine (F P : Nat) (S : xSt) (v0 : Nat) (v1 : Nat) (D : xDt) : Option (Int32 × xDt) :=
  (f_X4_look F P S v0 v1 D).bind fun q1 => f_X4_refine_9 F P S F v0 v1 0 0 q1
set_option maxHeartbeats 4000000 in
theorem S_X4_refine {F P : Nat} {S : xSt} (hS : xWF S) {v0 : Nat} {v1 : Nat} {D : xDt} {r : Int32 × xDt} (k0 : xK S v0 4) (k1 : xK S v1 10) (h : f_X4_refine F P S v0 v1 D = some r) : xSp md_X4_refine (3, 0, 0) [.ref v0, .ref v1] (S, D) (xQi S r) := by
  unfold f_X4_refine at h
  refine xEntry (by decide) (Nat.le_of_ble_eq_true rfl) ?_
  refine x_lv (lv' := [(0, .ref v0), (1, .ref v1)]) [0, 1] rfl ?_
  refine x_aload_n dX4_refine_0 0 rfl ?_
  refine x_aload_n dX4_refine_1 1 rfl ?_
  refine xbnd_e h (fun q1 e1 h => ?_)
  refine y_callVv (As := [.ref v1]) (q := q1) cv_RX4_43 dX4_refine_2 k0 rfl (Nat.le_of_ble_eq_true rfl) (by omega) (S_X4_look hS k0 k1 e1) ?_
  refine x_iconst 0 dX4_refine_5 (by decide) ?_
  refine y_istore_n 0 rfl [(2, .int 0), (0, .ref v0), (1, .ref v1)] dX4_refine_6 (by show _ < 5; decide) rfl ?_
  refine x_iconst 0 dX4_refine_7 (by decide) ?_
  refine y_istore_n 0 rfl [(3, .int 0), (2, .int 0), (0, .ref v0), (1, .ref v1)] dX4_refine_8 (by show _ < 5; decide) rfl ?_
  refine x_lv (lv' := [(0, .ref v0), (1, .ref v1), (2, .int 0), (3, .int 0)]) [2, 3, 1, 0] rfl ?_
  exact t_X4_refine_9 hS F k0 k1 h

theorem dX4_difference_0 : decode cX4_difference 0 = .ok (.aload_n 0, 1) := by decide +kernel
theorem dX4_difference_1 : decode cX4_difference 1 = .ok (.aload_n 1, 1) := by decide +kernel
theorem dX4_difference_2 : decode cX4_difference 2 = .ok (.invokevirtual 25, 3) := by decide +kernel
theorem dX4_difference_5 : decode cX4_difference 5 = .ok (.iconst 0, 1) := by decide +kernel
theorem dX4_difference_6 : decode cX4_difference 6 = .ok (.istore 4, 2) := by decide +kernel
theorem dX4_difference_8 : decode cX4_difference 8 = .ok (.iload 4, 2) := by decide +kernel
theorem dX4_difference_10 : decode cX4_difference 10 = .ok (.bipush 64, 2) := by decide +kernel
theorem dX4_difference_12 : decode cX4_difference 12 = .ok (.if_icmp .gt 38, 3) := by decide +kernel
theorem dX4_difference_15 : decode cX4_difference 15 = .ok (.aload_n 0, 1) := by decide +kernel
theorem dX4_difference_16 : decode cX4_difference 16 = .ok (.getfield 9, 3) := by decide +kernel
theorem dX4_difference_19 : decode cX4_difference 19 = .ok (.iload_n 2, 1) := by decide +kernel
theorem dX4_difference_20 : decode cX4_difference 20 = .ok (.iaload, 1) := by decide +kernel
theorem dX4_difference_21 : decode cX4_difference 21 = .ok (.aload_n 0, 1) := by decide +kernel
theorem dX4_difference_22 : decode cX4_difference 22 = .ok (.getfield 9, 3) := by decide +kernel
theorem dX4_difference_25 : decode cX4_difference 25 = .ok (.iload_n 3, 1) := by decide +kernel
theorem dX4_difference_26 : decode cX4_difference 26 = .ok (.iaload, 1) := by decide +kernel
theorem dX4_difference_27 : decode cX4_difference 27 = .ok (.if_icmp .eq 6, 3) := by decide +kernel
theorem dX4_difference_30 : decode cX4_difference 30 = .ok (.iload 4, 2) := by decide +kernel
theorem dX4_difference_32 : decode cX4_difference 32 = .ok (.ireturn, 1) := by decide +kernel
theorem dX4_difference_33 : decode cX4_difference 33 = .ok (.aload_n 0, 1) := by decide +kernel
theorem dX4_difference_34 : decode cX4_difference 34 = .ok (.aload_n 1, 1) := by decide +kernel
theorem dX4_difference_35 : decode cX4_difference 35 = .ok (.invokevirtual 29, 3) := by decide +kernel
theorem dX4_difference_38 : decode cX4_difference 38 = .ok (.ifCond .ne 6, 3) := by decide +kernel
theorem dX4_difference_41 : decode cX4_difference 41 = .ok (.bipush (-2), 2) := by decide +kernel
theorem dX4_difference_43 : decode cX4_difference 43 = .ok (.ireturn, 1) := by decide +kernel
theorem dX4_difference_44 : decode cX4_difference 44 = .ok (.iinc 4 1, 3) := by decide +kernel
theorem dX4_difference_47 : decode cX4_difference 47 = .ok (.goto (-39), 3) := by decide +kernel
theorem dX4_difference_50 : decode cX4_difference 50 = .ok (.bipush (-2), 2) := by decide +kernel
theorem dX4_difference_52 : decode cX4_difference 52 = .ok (.ireturn, 1) := by decide +kernel
def f_X4_difference_8s (F P : Nat) (S : xSt) (rec_8 : Nat → Nat → Int32 → Int32 → Int32 → xDt → Option (Int32 × xDt)) (v0 : Nat) (v1 : Nat) (v2 : Int32) (v3 : Int32) (v4 : Int32) (D : xDt) : Option (Int32 × xDt) :=
  if 64 < v4 then (some ((-2), D)) else (xgrd (xin v2 (xl S (xr S v0 0))) (xgrd (xin v3 (xl S (xr S v0 0))) (if (D.1 (xr S v0 0) (v2).toNatClampNeg) = (D.1 (xr S v0 0) (v3).toNatClampNeg) then ((f_X4_refine F P S v0 v1 D).bind fun q3 => if q3.1 = 0 then (some ((-2), q3.2)) else (xlet (v4 + 1) fun v4_4 => rec_8 v0 v1 v2 v3 v4_4 q3.2)) else (some (v4, D)))))
def f_X4_difference_8 (F P : Nat) (S : xSt) : Nat → Nat → Nat → Int32 → Int32 → Int32 → xDt → Option (Int32 × xDt)
  | 0 => fun _ _ _ _ _ _ => none
  | n + 1 => f_X4_difference_8s F P S (f_X4_difference_8 F P S n)
set_option maxHeartbeats 4000000 in
theorem t_X4_difference_8s {F P : Nat} {S : xSt} (hS : xWF S) {rec_8 : Nat → Nat → Int32 → Int32 → Int32 → xDt → Option (Int32 × xDt)} (hrec_8 : ∀ {v0 : Nat} {v1 : Nat} {v2 : Int32} {v3 : Int32} {v4 : Int32} {D : xDt} {r : Int32 × xDt}, xK S v0 4 → xK S v1 10 → rec_8 v0 v1 v2 v3 v4 D = some r → yEx md_X4_difference 4 8 [(0, .ref v0), (1, .ref v1), (2, .int v2), (3, .int v3), (4, .int v4)] [] S D (xQi S r)) {v0 : Nat} {v1 : Nat} {v2 : Int32} {v3 : Int32} {v4 : Int32} {D : xDt} {r : Int32 × xDt} (k0 : xK S v0 4) (k1 : xK S v1 10) (h : f_X4_difference_8s F P S rec_8 v0 v1 v2 v3 v4 D = some r) : yEx md_X4_difference 4 8 [(0, .ref v0), (1, .ref v1), (2, .int v2), (3, .int v3), (4, .int v4)] [] S D (xQi S r) := by
  unfold f_X4_difference_8s at h
  refine x_iload dX4_difference_8 4 rfl ?_
  refine x_bipush 64 dX4_difference_10 (by decide) ?_
  refine x_icmp_gt 50 dX4_difference_12 (by decide) (fun c => ?_) (fun c => ?_)
  · rw [if_pos c] at h
    refine x_bipush (-2) dX4_difference_50 (by decide) ?_
    obtain rfl := Option.some.inj h
    exact y_iret rfl dX4_difference_52
  · rw [if_neg c] at h
    refine x_aload_n dX4_difference_15 0 rfl ?_
    refine y_getr (kd := 100) hS fl_RX4_9 dX4_difference_16 rfl k0 ?_
    refine x_iload_n dX4_difference_19 2 rfl ?_
    refine xgrd_e h (fun g1 h => ?_)
    refine y_iald dX4_difference_20 ((hS.f k0 0 100 rfl).2) g1 ?_
    refine x_aload_n dX4_difference_21 0 rfl ?_
    refine y_getr (kd := 100) hS fl_RX4_9 dX4_difference_22 rfl k0 ?_
    refine x_iload_n dX4_difference_25 3 rfl ?_
    refine xgrd_e h (fun g2 h => ?_)
    refine y_iald dX4_difference_26 ((hS.f k0 0 100 rfl).2) g2 ?_
    refine x_icmp_eq 33 dX4_difference_27 (by decide) (fun c => ?_) (fun c => ?_)
    · rw [if_pos c] at h
      refine x_aload_n dX4_difference_33 0 rfl ?_
      refine x_aload_n dX4_difference_34 1 rfl ?_
      refine xbnd_e h (fun q3 e3 h => ?_)
      refine y_callVi (As := [.ref v1]) (q := q3) cv_RX4_29 dX4_difference_35 k0 rfl (Nat.le_of_ble_eq_true rfl) (by omega) (S_X4_refine hS k0 k1 e3) ?_
      refine x_if_ne 44 dX4_difference_38 (by decide) (fun c => ?_) (fun c => ?_)
      · rw [if_neg c] at h
        refine xlet_e h (fun v4_4 ev4_4 h => ?_)
        refine y_iinc v4_4 ev4_4 (by decide) [(4, .int v4_4), (0, .ref v0), (1, .ref v1), (2, .int v2), (3, .int v3)] dX4_difference_44 4 rfl (by show _ < 5; decide) rfl ?_
        refine x_goto 8 dX4_difference_47 (by decide) ?_
        refine x_lv (lv' := [(0, .ref v0), (1, .ref v1), (2, .int v2), (3, .int v3), (4, .int v4_4)]) [1, 2, 3, 4, 0] rfl ?_
        exact hrec_8 k0 k1 h
      · rw [if_pos c] at h
        refine x_bipush (-2) dX4_difference_41 (by decide) ?_
        obtain rfl := Option.some.inj h
        exact y_iret rfl dX4_difference_43
    · rw [if_neg c] at h
      refine x_iload dX4_difference_30 4 rfl ?_
      obtain rfl := Option.some.inj h
      exact y_iret rfl dX4_difference_32
theorem t_X4_difference_8 {F P : Nat} {S : xSt} (hS : xWF S) : ∀ (n : Nat) {v0 : Nat} {v1 : Nat} {v2 : Int32} {v3 : Int32} {v4 : Int32} {D : xDt} {r : Int32 × xDt}, xK S v0 4 → xK S v1 10 → f_X4_difference_8 F P S n v0 v1 v2 v3 v4 D = some r → yEx md_X4_difference 4 8 [(0, .ref v0), (1, .ref v1), (2, .int v2), (3, .int v3), (4, .int v4)] [] S D (xQi S r) := by
  intro n
  induction n with
  | zero => intros; rename_i h; cases h
  | succ n ih =>
    intro v0 v1 v2 v3 v4 D r k0 k1 h
    exact t_X4_difference_8s hS (fun k0 k1 h => ih k0 k1 h) k0 k1 h

def f_X4_difference (F P : Nat) (S : xSt) (v0 : Nat) (v1 : Nat) (v2 : Int32) (v3 : Int32) (D : xDt) : Option (Int32 × xDt) :=
  (f_X4_start F P S v0 v1 D).bind fun q1 => f_X4_difference_8 F P S F v0 v1 v2 v3 0 q1
set_option maxHeartbeats 4000000 in
theorem S_X4_difference {F P : Nat} {S : xSt} (hS : xWF S) {v0 : Nat} {v1 : Nat} {v2 : Int32} {v3 : Int32} {D : xDt} {r : Int32 × xDt} (k0 : xK S v0 4) (k1 : xK S v1 10) (h : f_X4_difference F P S v0 v1 v2 v3 D = some r) : xSp md_X4_difference (4, 0, 0) [.ref v0, .ref v1, .int v2, .int v3] (S, D) (xQi S r) := by
  unfold f_X4_difference at h
  refine xEntry (by decide) (Nat.le_of_ble_eq_true rfl) ?_
  refine x_lv (lv' := [(0, .ref v0), (1, .ref v1), (2, .int v2), (3, .int v3)]) [0, 1, 2, 3] rfl ?_
  refine x_aload_n dX4_difference_0 0 rfl ?_
  refine x_aload_n dX4_difference_1 1 rfl ?_
  refine xbnd_e h (fun q1 e1 h => ?_)
  refine y_callVv (As := [.ref v1]) (q := q1) cv_RX4_25 dX4_difference_2 k0 rfl (Nat.le_of_ble_eq_true rfl) (by omega) (S_X4_start hS k0 k1 e1) ?_
  refine x_iconst 0 dX4_difference_5 (by decide) ?_
  refine y_istore 0 rfl [(4, .int 0), (0, .ref v0), (1, .ref v1), (2, .int v2), (3, .int v3)] dX4_difference_6 (by show _ < 5; decide) rfl ?_
  refine x_lv (lv' := [(0, .ref v0), (1, .ref v1), (2, .int v2), (3, .int v3), (4, .int 0)]) [1, 2, 3, 4, 0] rfl ?_
  exact t_X4_difference_8 hS F k0 k1 h

theorem dX4_settle_0 : decode cX4_settle 0 = .ok (.aload_n 0, 1) := by decide +kernel
theorem dX4_settle_1 : decode cX4_settle 1 = .ok (.aload_n 1, 1) := by decide +kernel
theorem dX4_settle_2 : decode cX4_settle 2 = .ok (.invokevirtual 25, 3) := by decide +kernel
theorem dX4_settle_5 : decode cX4_settle 5 = .ok (.iconst 0, 1) := by decide +kernel
theorem dX4_settle_6 : decode cX4_settle 6 = .ok (.istore_n 2, 1) := by decide +kernel
theorem dX4_settle_7 : decode cX4_settle 7 = .ok (.iload_n 2, 1) := by decide +kernel
theorem dX4_settle_8 : decode cX4_settle 8 = .ok (.bipush 64, 2) := by decide +kernel
theorem dX4_settle_10 : decode cX4_settle 10 = .ok (.if_icmp .gt 18, 3) := by decide +kernel
theorem dX4_settle_13 : decode cX4_settle 13 = .ok (.aload_n 0, 1) := by decide +kernel
theorem dX4_settle_14 : decode cX4_settle 14 = .ok (.aload_n 1, 1) := by decide +kernel
theorem dX4_settle_15 : decode cX4_settle 15 = .ok (.invokevirtual 29, 3) := by decide +kernel
theorem dX4_settle_18 : decode cX4_settle 18 = .ok (.ifCond .ne 4, 3) := by decide +kernel
theorem dX4_settle_21 : decode cX4_settle 21 = .ok (.return_, 1) := by decide +kernel
theorem dX4_settle_22 : decode cX4_settle 22 = .ok (.iinc 2 1, 3) := by decide +kernel
theorem dX4_settle_25 : decode cX4_settle 25 = .ok (.goto (-18), 3) := by decide +kernel
theorem dX4_settle_28 : decode cX4_settle 28 = .ok (.return_, 1) := by decide +kernel
def f_X4_settle_7s (F P : Nat) (S : xSt) (rec_7 : Nat → Nat → Int32 → xDt → Option (xDt)) (v0 : Nat) (v1 : Nat) (v2 : Int32) (D : xDt) : Option (xDt) :=
  if 64 < v2 then (some D) else ((f_X4_refine F P S v0 v1 D).bind fun q1 => if q1.1 = 0 then (some q1.2) else (xlet (v2 + 1) fun v2_2 => rec_7 v0 v1 v2_2 q1.2))
def f_X4_settle_7 (F P : Nat) (S : xSt) : Nat → Nat → Nat → Int32 → xDt → Option (xDt)
  | 0 => fun _ _ _ _ => none
  | n + 1 => f_X4_settle_7s F P S (f_X4_settle_7 F P S n)
set_option maxHeartbeats 4000000 in
theorem t_X4_settle_7s {F P : Nat} {S : xSt} (hS : xWF S) {rec_7 : Nat → Nat → Int32 → xDt → Option (xDt)} (hrec_7 : ∀ {v0 : Nat} {v1 : Nat} {v2 : Int32} {D : xDt} {r : xDt}, xK S v0 4 → xK S v1 10 → rec_7 v0 v1 v2 D = some r → yEx md_X4_settle 4 7 [(0, .ref v0), (1, .ref v1), (2, .int v2)] [] S D (xQv S r)) {v0 : Nat} {v1 : Nat} {v2 : Int32} {D : xDt} {r : xDt} (k0 : xK S v0 4) (k1 : xK S v1 10) (h : f_X4_settle_7s F P S rec_7 v0 v1 v2 D = some r) : yEx md_X4_settle 4 7 [(0, .ref v0), (1, .ref v1), (2, .int v2)] [] S D (xQv S r) := by
  unfold f_X4_settle_7s at h
  refine x_iload_n dX4_settle_7 2 rfl ?_
  refine x_bipush 64 dX4_settle_8 (by decide) ?_
  refine x_icmp_gt 28 dX4_settle_10 (by decide) (fun c => ?_) (fun c => ?_)
  · rw [if_pos c] at h
    obtain rfl := Option.some.inj h
    exact y_vret rfl dX4_settle_28
  · rw [if_neg c] at h
    refine x_aload_n dX4_settle_13 0 rfl ?_
    refine x_aload_n dX4_settle_14 1 rfl ?_
    refine xbnd_e h (fun q1 e1 h => ?_)
    refine y_callVi (As := [.ref v1]) (q := q1) cv_RX4_29 dX4_settle_15 k0 rfl (Nat.le_of_ble_eq_true rfl) (by omega) (S_X4_refine hS k0 k1 e1) ?_
    refine x_if_ne 22 dX4_settle_18 (by decide) (fun c => ?_) (fun c => ?_)
    · rw [if_neg c] at h
      refine xlet_e h (fun v2_2 ev2_2 h => ?_)
      refine y_iinc v2_2 ev2_2 (by decide) [(2, .int v2_2), (0, .ref v0), (1, .ref v1)] dX4_settle_22 2 rfl (by show _ < 3; decide) rfl ?_
      refine x_goto 7 dX4_settle_25 (by decide) ?_
      refine x_lv (lv' := [(0, .ref v0), (1, .ref v1), (2, .int v2_2)]) [1, 2, 0] rfl ?_
      exact hrec_7 k0 k1 h
    · rw [if_pos c] at h
      obtain rfl := Option.some.inj h
      exact y_vret rfl dX4_settle_21
theorem t_X4_settle_7 {F P : Nat} {S : xSt} (hS : xWF S) : ∀ (n : Nat) {v0 : Nat} {v1 : Nat} {v2 : Int32} {D : xDt} {r : xDt}, xK S v0 4 → xK S v1 10 → f_X4_settle_7 F P S n v0 v1 v2 D = some r → yEx md_X4_settle 4 7 [(0, .ref v0), (1, .ref v1), (2, .int v2)] [] S D (xQv S r) := by
  intro n
  induction n with
  | zero => intros; rename_i h; cases h
  | succ n ih =>
    intro v0 v1 v2 D r k0 k1 h
    exact t_X4_settle_7s hS (fun k0 k1 h => ih k0 k1 h) k0 k1 h

def f_X4_settle (F P : Nat) (S : xSt) (v0 : Nat) (v1 : Nat) (D : xDt) : Option (xDt) :=
  (f_X4_start F P S v0 v1 D).bind fun q1 => f_X4_settle_7 F P S F v0 v1 0 q1
set_option maxHeartbeats 4000000 in
theorem S_X4_settle {F P : Nat} {S : xSt} (hS : xWF S) {v0 : Nat} {v1 : Nat} {D : xDt} {r : xDt} (k0 : xK S v0 4) (k1 : xK S v1 10) (h : f_X4_settle F P S v0 v1 D = some r) : xSp md_X4_settle (4, 0, 0) [.ref v0, .ref v1] (S, D) (xQv S r) := by
  unfold f_X4_settle at h
  refine xEntry (by decide) (Nat.le_of_ble_eq_true rfl) ?_
  refine x_lv (lv' := [(0, .ref v0), (1, .ref v1)]) [0, 1] rfl ?_
  refine x_aload_n dX4_settle_0 0 rfl ?_
  refine x_aload_n dX4_settle_1 1 rfl ?_
  refine xbnd_e h (fun q1 e1 h => ?_)
  refine y_callVv (As := [.ref v1]) (q := q1) cv_RX4_25 dX4_settle_2 k0 rfl (Nat.le_of_ble_eq_true rfl) (by omega) (S_X4_start hS k0 k1 e1) ?_
  refine x_iconst 0 dX4_settle_5 (by decide) ?_
  refine y_istore_n 0 rfl [(2, .int 0), (0, .ref v0), (1, .ref v1)] dX4_settle_6 (by show _ < 3; decide) rfl ?_
  refine x_lv (lv' := [(0, .ref v0), (1, .ref v1), (2, .int 0)]) [1, 2, 0] rfl ?_
  exact t_X4_settle_7 hS F k0 k1 h

theorem dX4_firsts_0 : decode cX4_firsts 0 = .ok (.lconst 0, 1) := by decide +kernel
theorem dX4_firsts_1 : decode cX4_firsts 1 = .ok (.lstore_n 2, 1) := by decide +kernel
theorem dX4_firsts_2 : decode cX4_firsts 2 = .ok (.iconst 0, 1) := by decide +kernel
theorem dX4_firsts_3 : decode cX4_firsts 3 = .ok (.istore 4, 2) := by decide +kernel
theorem dX4_firsts_5 : decode cX4_firsts 5 = .ok (.iload 4, 2) := by decide +kernel
theorem dX4_firsts_7 : decode cX4_firsts 7 = .ok (.aload_n 1, 1) := by decide +kernel
theorem dX4_firsts_8 : decode cX4_firsts 8 = .ok (.getfield 33, 3) := by decide +kernel
theorem dX4_firsts_11 : decode cX4_firsts 11 = .ok (.if_icmp .ge 21, 3) := by decide +kernel
theorem dX4_firsts_14 : decode cX4_firsts 14 = .ok (.lload_n 2, 1) := by decide +kernel
theorem dX4_firsts_15 : decode cX4_firsts 15 = .ok (.lconst 1, 1) := by decide +kernel
theorem dX4_firsts_16 : decode cX4_firsts 16 = .ok (.aload_n 0, 1) := by decide +kernel
theorem dX4_firsts_17 : decode cX4_firsts 17 = .ok (.getfield 9, 3) := by decide +kernel
theorem dX4_firsts_20 : decode cX4_firsts 20 = .ok (.iload 4, 2) := by decide +kernel
theorem dX4_firsts_22 : decode cX4_firsts 22 = .ok (.iaload, 1) := by decide +kernel
theorem dX4_firsts_23 : decode cX4_firsts 23 = .ok (.lshl, 1) := by decide +kernel
theorem dX4_firsts_24 : decode cX4_firsts 24 = .ok (.lor, 1) := by decide +kernel
theorem dX4_firsts_25 : decode cX4_firsts 25 = .ok (.lstore_n 2, 1) := by decide +kernel
theorem dX4_firsts_26 : decode cX4_firsts 26 = .ok (.iinc 4 1, 3) := by decide +kernel
theorem dX4_firsts_29 : decode cX4_firsts 29 = .ok (.goto (-24), 3) := by decide +kernel
theorem dX4_firsts_32 : decode cX4_firsts 32 = .ok (.lload_n 2, 1) := by decide +kernel
theorem dX4_firsts_33 : decode cX4_firsts 33 = .ok (.lreturn, 1) := by decide +kernel
def f_X4_firsts_5s (F P : Nat) (S : xSt) (rec_5 : Nat → Nat → Int64 → Int32 → xDt → Option (Int64 × xDt)) (v0 : Nat) (v1 : Nat) (v2 : Int64) (v4 : Int32) (D : xDt) : Option (Int64 × xDt) :=
  if (D.1 v1 0) ≤ v4 then (some (v2, D)) else (xgrd (xin v4 (xl S (xr S v0 0))) (xlet (v2 ||| (jlshl 1 (D.1 (xr S v0 0) (v4).toNatClampNeg))) fun v2_2 => xlet (v4 + 1) fun v4_3 => rec_5 v0 v1 v2_2 v4_3 D))
def f_X4_firsts_5 (F P : Nat) (S : xSt) : Nat → Nat → Nat → Int64 → Int32 → xDt → Option (Int64 × xDt)
  | 0 => fun _ _ _ _ _ => none
  | n + 1 => f_X4_firsts_5s F P S (f_X4_firsts_5 F P S n)
set_option maxHeartbeats 4000000 in
theorem t_X4_firsts_5s {F P : Nat} {S : xSt} (hS : xWF S) {rec_5 : Nat → Nat → Int64 → Int32 → xDt → Option (Int64 × xDt)} (hrec_5 : ∀ {v0 : Nat} {v1 : Nat} {v2 : Int64} {v4 : Int32} {D : xDt} {r : Int64 × xDt}, xK S v0 4 → xK S v1 10 → rec_5 v0 v1 v2 v4 D = some r → yEx md_X4_firsts 0 5 [(0, .ref v0), (1, .ref v1), (2, .long v2), (4, .int v4)] [] S D (xQl S r)) {v0 : Nat} {v1 : Nat} {v2 : Int64} {v4 : Int32} {D : xDt} {r : Int64 × xDt} (k0 : xK S v0 4) (k1 : xK S v1 10) (h : f_X4_firsts_5s F P S rec_5 v0 v1 v2 v4 D = some r) : yEx md_X4_firsts 0 5 [(0, .ref v0), (1, .ref v1), (2, .long v2), (4, .int v4)] [] S D (xQl S r) := by
  unfold f_X4_firsts_5s at h
  refine x_iload dX4_firsts_5 3 rfl ?_
  refine x_aload_n dX4_firsts_7 1 rfl ?_
  refine y_geti fl_RX4_33 dX4_firsts_8 rfl k1 ?_
  refine x_icmp_ge 32 dX4_firsts_11 (by decide) (fun c => ?_) (fun c => ?_)
  · rw [if_pos c] at h
    refine x_lload_n dX4_firsts_32 2 rfl ?_
    obtain rfl := Option.some.inj h
    exact y_lret rfl dX4_firsts_33
  · rw [if_neg c] at h
    refine x_lload_n dX4_firsts_14 2 rfl ?_
    refine x_lconst 1 dX4_firsts_15 (by decide) ?_
    refine x_aload_n dX4_firsts_16 0 rfl ?_
    refine y_getr (kd := 100) hS fl_RX4_9 dX4_firsts_17 rfl k0 ?_
    refine x_iload dX4_firsts_20 3 rfl ?_
    refine xgrd_e h (fun g1 h => ?_)
    refine y_iald dX4_firsts_22 ((hS.f k0 0 100 rfl).2) g1 ?_
    refine x_lshl dX4_firsts_23 ?_
    refine x_lor dX4_firsts_24 ?_
    refine xlet_e h (fun v2_2 ev2_2 h => ?_)
    refine y_lstore_n v2_2 ev2_2 [(2, .long v2_2), (0, .ref v0), (1, .ref v1), (4, .int v4)] dX4_firsts_25 (by show _ < 5; decide) rfl ?_
    refine xlet_e h (fun v4_3 ev4_3 h => ?_)
    refine y_iinc v4_3 ev4_3 (by decide) [(4, .int v4_3), (2, .long v2_2), (0, .ref v0), (1, .ref v1)] dX4_firsts_26 3 rfl (by show _ < 5; decide) rfl ?_
    refine x_goto 5 dX4_firsts_29 (by decide) ?_
    refine x_lv (lv' := [(0, .ref v0), (1, .ref v1), (2, .long v2_2), (4, .int v4_3)]) [2, 3, 1, 0] rfl ?_
    exact hrec_5 k0 k1 h
theorem t_X4_firsts_5 {F P : Nat} {S : xSt} (hS : xWF S) : ∀ (n : Nat) {v0 : Nat} {v1 : Nat} {v2 : Int64} {v4 : Int32} {D : xDt} {r : Int64 × xDt}, xK S v0 4 → xK S v1 10 → f_X4_firsts_5 F P S n v0 v1 v2 v4 D = some r → yEx md_X4_firsts 0 5 [(0, .ref v0), (1, .ref v1), (2, .long v2), (4, .int v4)] [] S D (xQl S r) := by
  intro n
  induction n with
  | zero => intros; rename_i h; cases h
  | succ n ih =>
    intro v0 v1 v2 v4 D r k0 k1 h
    exact t_X4_firsts_5s hS (fun k0 k1 h => ih k0 k1 h) k0 k1 h

def f_X4_firsts (F P : Nat) (S : xSt) (v0 : Nat) (v1 : Nat) (D : xDt) : Option (Int64 × xDt) :=
  f_X4_firsts_5 F P S F v0 v1 0 0 D
set_option maxHeartbeats 4000000 in
theorem S_X4_firsts {F P : Nat} {S : xSt} (hS : xWF S) {v0 : Nat} {v1 : Nat} {D : xDt} {r : Int64 × xDt} (k0 : xK S v0 4) (k1 : xK S v1 10) (h : f_X4_firsts F P S v0 v1 D = some r) : xSp md_X4_firsts (0, 0, 0) [.ref v0, .ref v1] (S, D) (xQl S r) := by
  unfold f_X4_firsts at h
  refine xEntry (by decide) (Nat.le_of_ble_eq_true rfl) ?_
  refine x_lv (lv' := [(0, .ref v0), (1, .ref v1)]) [0, 1] rfl ?_
  refine x_lconst 0 dX4_firsts_0 (by decide) ?_
  refine y_lstore_n 0 rfl [(2, .long 0), (0, .ref v0), (1, .ref v1)] dX4_firsts_1 (by show _ < 5; decide) rfl ?_
  refine x_iconst 0 dX4_firsts_2 (by decide) ?_
  refine y_istore 0 rfl [(4, .int 0), (2, .long 0), (0, .ref v0), (1, .ref v1)] dX4_firsts_3 (by show _ < 5; decide) rfl ?_
  refine x_lv (lv' := [(0, .ref v0), (1, .ref v1), (2, .long 0), (4, .int 0)]) [2, 3, 1, 0] rfl ?_
  exact t_X4_firsts_5 hS F k0 k1 h

theorem dX10_copy_0 : decode cX10_copy 0 = .ok (.aload_n 0, 1) := by decide +kernel
theorem dX10_copy_1 : decode cX10_copy 1 = .ok (.aload_n 1, 1) := by decide +kernel
theorem dX10_copy_2 : decode cX10_copy 2 = .ok (.getfield 18, 3) := by decide +kernel
theorem dX10_copy_5 : decode cX10_copy 5 = .ok (.putfield 18, 3) := by decide +kernel
theorem dX10_copy_8 : decode cX10_copy 8 = .ok (.aload_n 1, 1) := by decide +kernel
theorem dX10_copy_9 : decode cX10_copy 9 = .ok (.getfield 9, 3) := by decide +kernel
theorem dX10_copy_12 : decode cX10_copy 12 = .ok (.iconst 0, 1) := by decide +kernel
theorem dX10_copy_13 : decode cX10_copy 13 = .ok (.aload_n 0, 1) := by decide +kernel
theorem dX10_copy_14 : decode cX10_copy 14 = .ok (.getfield 9, 3) := by decide +kernel
theorem dX10_copy_17 : decode cX10_copy 17 = .ok (.iconst 0, 1) := by decide +kernel
theorem dX10_copy_18 : decode cX10_copy 18 = .ok (.bipush 8, 2) := by decide +kernel
theorem dX10_copy_20 : decode cX10_copy 20 = .ok (.invokestatic 42, 3) := by decide +kernel
theorem dX10_copy_23 : decode cX10_copy 23 = .ok (.aload_n 1, 1) := by decide +kernel
theorem dX10_copy_24 : decode cX10_copy 24 = .ok (.getfield 15, 3) := by decide +kernel
theorem dX10_copy_27 : decode cX10_copy 27 = .ok (.iconst 0, 1) := by decide +kernel
theorem dX10_copy_28 : decode cX10_copy 28 = .ok (.aload_n 0, 1) := by decide +kernel
theorem dX10_copy_29 : decode cX10_copy 29 = .ok (.getfield 15, 3) := by decide +kernel
theorem dX10_copy_32 : decode cX10_copy 32 = .ok (.iconst 0, 1) := by decide +kernel
theorem dX10_copy_33 : decode cX10_copy 33 = .ok (.aload_n 0, 1) := by decide +kernel
theorem dX10_copy_34 : decode cX10_copy 34 = .ok (.getfield 15, 3) := by decide +kernel
theorem dX10_copy_37 : decode cX10_copy 37 = .ok (.arraylength, 1) := by decide +kernel
theorem dX10_copy_38 : decode cX10_copy 38 = .ok (.invokestatic 42, 3) := by decide +kernel
theorem dX10_copy_41 : decode cX10_copy 41 = .ok (.return_, 1) := by decide +kernel
def f_X10_copy (F P : Nat) (S : xSt) (v0 : Nat) (v1 : Nat) (D : xDt) : Option (xDt) :=
  xlet (xup D.1 v0 0 (D.1 v1 0), D.2) fun D1 => xgrd (xcpin 0 0 8 (xl S (xr S v1 1)) (xl S (xr S v0 1))) (xlet (D1.1, xcp D1.2 (xr S v1 1) (xr S v0 1) (0 : Int32).toNatClampNeg (0 : Int32).toNatClampNeg (8 : Int32).toNatClampNeg) fun D3 => xgrd (xcpin 0 0 (Int32.ofNat (xl S (xr S v0 2))) (xl S (xr S v1 2)) (xl S (xr S v0 2))) (xlet (D3.1, xcp D3.2 (xr S v1 2) (xr S v0 2) (0 : Int32).toNatClampNeg (0 : Int32).toNatClampNeg (Int32.ofNat (xl S (xr S v0 2))).toNatClampNeg) fun D5 => some D5))
set_option maxHeartbeats 4000000 in
theorem S_X10_copy {F P : Nat} {S : xSt} (hS : xWF S) {v0 : Nat} {v1 : Nat} {D : xDt} {r : xDt} (k0 : xK S v0 10) (k1 : xK S v1 10) (h : f_X10_copy F P S v0 v1 D = some r) : xSp md_X10_copy (1, 0, 0) [.ref v0, .ref v1] (S, D) (xQv S r) := by
  unfold f_X10_copy at h
  refine xEntry (by decide) (Nat.le_of_ble_eq_true rfl) ?_
  refine x_lv (lv' := [(0, .ref v0), (1, .ref v1)]) [0, 1] rfl ?_
  refine x_aload_n dX10_copy_0 0 rfl ?_
  refine x_aload_n dX10_copy_1 1 rfl ?_
  refine y_geti fl_RX10_18 dX10_copy_2 rfl k1 ?_
  refine xlet_e h (fun D1 eD1 h => ?_)
  refine y_puti fp_RX10_18 dX10_copy_5 rfl k0 eD1 ?_
  refine x_aload_n dX10_copy_8 1 rfl ?_
  refine y_getr (kd := 101) hS fl_RX10_9 dX10_copy_9 rfl k1 ?_
  refine x_iconst 0 dX10_copy_12 (by decide) ?_
  refine x_aload_n dX10_copy_13 0 rfl ?_
  refine y_getr (kd := 101) hS fl_RX10_9 dX10_copy_14 rfl k0 ?_
  refine x_iconst 0 dX10_copy_17 (by decide) ?_
  refine x_bipush 8 dX10_copy_18 (by decide) ?_
  refine xgrd_e h (fun g2 h => ?_)
  refine xlet_e h (fun D3 eD3 h => ?_)
  refine y_copyl cp_RX10_42 dX10_copy_20 ((hS.f k1 1 101 rfl).2) ((hS.f k0 1 101 rfl).2) g2 (Nat.le_of_ble_eq_true rfl) (by omega) eD3 ?_
  refine x_aload_n dX10_copy_23 1 rfl ?_
  refine y_getr (kd := 101) hS fl_RX10_15 dX10_copy_24 rfl k1 ?_
  refine x_iconst 0 dX10_copy_27 (by decide) ?_
  refine x_aload_n dX10_copy_28 0 rfl ?_
  refine y_getr (kd := 101) hS fl_RX10_15 dX10_copy_29 rfl k0 ?_
  refine x_iconst 0 dX10_copy_32 (by decide) ?_
  refine x_aload_n dX10_copy_33 0 rfl ?_
  refine y_getr (kd := 101) hS fl_RX10_15 dX10_copy_34 rfl k0 ?_
  refine y_alen dX10_copy_37 ((hS.f k0 2 101 rfl).2) (by decide) ?_
  refine xgrd_e h (fun g4 h => ?_)
  refine xlet_e h (fun D5 eD5 h => ?_)
  refine y_copyl cp_RX10_42 dX10_copy_38 ((hS.f k1 2 101 rfl).2) ((hS.f k0 2 101 rfl).2) g4 (Nat.le_of_ble_eq_true rfl) (by omega) eD5 ?_
  obtain rfl := Option.some.inj h
  exact y_vret rfl dX10_copy_41

theorem dX5_keep_0 : decode cX5_keep 0 = .ok (.aload_n 0, 1) := by decide +kernel
theorem dX5_keep_1 : decode cX5_keep 1 = .ok (.getfield 11, 3) := by decide +kernel
theorem dX5_keep_4 : decode cX5_keep 4 = .ok (.aload_n 0, 1) := by decide +kernel
theorem dX5_keep_5 : decode cX5_keep 5 = .ok (.getfield 18, 3) := by decide +kernel
theorem dX5_keep_8 : decode cX5_keep 8 = .ok (.aaload, 1) := by decide +kernel
theorem dX5_keep_9 : decode cX5_keep 9 = .ok (.astore_n 2, 1) := by decide +kernel
theorem dX5_keep_10 : decode cX5_keep 10 = .ok (.aload_n 2, 1) := by decide +kernel
theorem dX5_keep_11 : decode cX5_keep 11 = .ok (.aload_n 1, 1) := by decide +kernel
theorem dX5_keep_12 : decode cX5_keep 12 = .ok (.invokevirtual 22, 3) := by decide +kernel
theorem dX5_keep_15 : decode cX5_keep 15 = .ok (.aload_n 0, 1) := by decide +kernel
theorem dX5_keep_16 : decode cX5_keep 16 = .ok (.aload_n 0, 1) := by decide +kernel
theorem dX5_keep_17 : decode cX5_keep 17 = .ok (.getfield 18, 3) := by decide +kernel
theorem dX5_keep_20 : decode cX5_keep 20 = .ok (.iconst 1, 1) := by decide +kernel
theorem dX5_keep_21 : decode cX5_keep 21 = .ok (.iadd, 1) := by decide +kernel
theorem dX5_keep_22 : decode cX5_keep 22 = .ok (.bipush 12, 2) := by decide +kernel
theorem dX5_keep_24 : decode cX5_keep 24 = .ok (.if_icmp .ge 12, 3) := by decide +kernel
theorem dX5_keep_27 : decode cX5_keep 27 = .ok (.aload_n 0, 1) := by decide +kernel
theorem dX5_keep_28 : decode cX5_keep 28 = .ok (.getfield 18, 3) := by decide +kernel
theorem dX5_keep_31 : decode cX5_keep 31 = .ok (.iconst 1, 1) := by decide +kernel
theorem dX5_keep_32 : decode cX5_keep 32 = .ok (.iadd, 1) := by decide +kernel
theorem dX5_keep_33 : decode cX5_keep 33 = .ok (.goto 4, 3) := by decide +kernel
theorem dX5_keep_36 : decode cX5_keep 36 = .ok (.iconst 0, 1) := by decide +kernel
theorem dX5_keep_37 : decode cX5_keep 37 = .ok (.putfield 18, 3) := by decide +kernel
theorem dX5_keep_40 : decode cX5_keep 40 = .ok (.aload_n 0, 1) := by decide +kernel
theorem dX5_keep_41 : decode cX5_keep 41 = .ok (.aload_n 0, 1) := by decide +kernel
theorem dX5_keep_42 : decode cX5_keep 42 = .ok (.getfield 26, 3) := by decide +kernel
theorem dX5_keep_45 : decode cX5_keep 45 = .ok (.iconst 1, 1) := by decide +kernel
theorem dX5_keep_46 : decode cX5_keep 46 = .ok (.iadd, 1) := by decide +kernel
theorem dX5_keep_47 : decode cX5_keep 47 = .ok (.bipush 12, 2) := by decide +kernel
theorem dX5_keep_49 : decode cX5_keep 49 = .ok (.invokestatic 29, 3) := by decide +kernel
theorem dX5_keep_52 : decode cX5_keep 52 = .ok (.putfield 26, 3) := by decide +kernel
theorem dX5_keep_55 : decode cX5_keep 55 = .ok (.aload_n 2, 1) := by decide +kernel
theorem dX5_keep_56 : decode cX5_keep 56 = .ok (.areturn, 1) := by decide +kernel
def f_X5_keep_37 (F P : Nat) (S : xSt) (v0 : Nat) (v2 : Nat) (s0 : Int32) (s1 : Nat) (D : xDt) : Option (Nat × xDt) :=
  xlet (xup D.1 s1 1 s0, D.2) fun D1 => xlet (xup D1.1 v0 2 (jmin ((D1.1 v0 2) + 1) 12), D1.2) fun D2 => some (v2, D2)
set_option maxHeartbeats 4000000 in
theorem t_X5_keep_37 {F P : Nat} {S : xSt} (hS : xWF S) {v0 : Nat} {v2 : Nat} {s0 : Int32} {s1 : Nat} {D : xDt} {r : Nat × xDt} (k0 : xK S v0 5) (k2 : xK S v2 10) (ks1 : xK S s1 5) (h : f_X5_keep_37 F P S v0 v2 s0 s1 D = some r) : yEx md_X5_keep 2 37 [(0, .ref v0), (2, .ref v2)] [.int s0, .ref s1] S D (xQr S r) := by
  unfold f_X5_keep_37 at h
  refine xlet_e h (fun D1 eD1 h => ?_)
  refine y_puti fp_RX5_18 dX5_keep_37 rfl ks1 eD1 ?_
  refine x_aload_n dX5_keep_40 0 rfl ?_
  refine x_aload_n dX5_keep_41 0 rfl ?_
  refine y_geti fl_RX5_26 dX5_keep_42 rfl k0 ?_
  refine x_iconst 1 dX5_keep_45 (by decide) ?_
  refine x_iadd dX5_keep_46 ?_
  refine x_bipush 12 dX5_keep_47 (by decide) ?_
  refine y_min mm_RX5_29 dX5_keep_49 (Nat.le_of_ble_eq_true rfl) (by omega) ?_
  refine xlet_e h (fun D2 eD2 h => ?_)
  refine y_puti fp_RX5_26 dX5_keep_52 rfl k0 eD2 ?_
  refine x_aload_n dX5_keep_55 1 rfl ?_
  obtain rfl := Option.some.inj h
  exact y_aret rfl dX5_keep_56

def f_X5_keep (F P : Nat) (S : xSt) (v0 : Nat) (v1 : Nat) (D : xDt) : Option (Nat × xDt) :=
  xgrd (xin (D.1 v0 1) (xl S (xr S v0 0))) ((f_X10_copy F P S (xr S (xr S v0 0) (D.1 v0 1).toNatClampNeg) v1 D).bind fun q2 => if 12 ≤ ((q2.1 v0 1) + 1) then (f_X5_keep_37 F P S v0 (xr S (xr S v0 0) (D.1 v0 1).toNatClampNeg) 0 v0 q2) else (f_X5_keep_37 F P S v0 (xr S (xr S v0 0) (D.1 v0 1).toNatClampNeg) ((q2.1 v0 1) + 1) v0 q2))
set_option maxHeartbeats 4000000 in
theorem S_X5_keep {F P : Nat} {S : xSt} (hS : xWF S) {v0 : Nat} {v1 : Nat} {D : xDt} {r : Nat × xDt} (k0 : xK S v0 5) (k1 : xK S v1 10) (h : f_X5_keep F P S v0 v1 D = some r) : xSp md_X5_keep (2, 0, 0) [.ref v0, .ref v1] (S, D) (xQr S r) := by
  unfold f_X5_keep at h
  refine xEntry (by decide) (Nat.le_of_ble_eq_true rfl) ?_
  refine x_lv (lv' := [(0, .ref v0), (1, .ref v1)]) [0, 1] rfl ?_
  refine x_aload_n dX5_keep_0 0 rfl ?_
  refine y_getr (kd := 210) hS fl_RX5_11 dX5_keep_1 rfl k0 ?_
  refine x_aload_n dX5_keep_4 0 rfl ?_
  refine y_geti fl_RX5_18 dX5_keep_5 rfl k0 ?_
  refine xgrd_e h (fun g1 h => ?_)
  refine y_aald hS dX5_keep_8 ((hS.f k0 0 210 rfl).2) (by decide) g1 ?_
  refine x_astore_n [(2, .ref (xr S (xr S v0 0) (D.1 v0 1).toNatClampNeg)), (0, .ref v0), (1, .ref v1)] dX5_keep_9 (by show _ < 3; decide) rfl ?_
  refine x_aload_n dX5_keep_10 0 rfl ?_
  refine x_aload_n dX5_keep_11 2 rfl ?_
  refine xbnd_e h (fun q2 e2 h => ?_)
  refine y_callVv (As := [.ref v1]) (q := q2) cv_RX5_22 dX5_keep_12 ((hS.e ((hS.f k0 0 210 rfl).2) (by decide) (xin_lt g1)).2) rfl (Nat.le_of_ble_eq_true rfl) (by omega) (S_X10_copy hS ((hS.e ((hS.f k0 0 210 rfl).2) (by decide) (xin_lt g1)).2) k1 e2) ?_
  refine x_aload_n dX5_keep_15 1 rfl ?_
  refine x_aload_n dX5_keep_16 1 rfl ?_
  refine y_geti fl_RX5_18 dX5_keep_17 rfl k0 ?_
  refine x_iconst 1 dX5_keep_20 (by decide) ?_
  refine x_iadd dX5_keep_21 ?_
  refine x_bipush 12 dX5_keep_22 (by decide) ?_
  refine x_icmp_ge 36 dX5_keep_24 (by decide) (fun c => ?_) (fun c => ?_)
  · rw [if_pos c] at h
    refine x_iconst 0 dX5_keep_36 (by decide) ?_
    refine x_lv (lv' := [(0, .ref v0), (2, .ref (xr S (xr S v0 0) (D.1 v0 1).toNatClampNeg))]) [1, 0] rfl ?_
    exact t_X5_keep_37 hS k0 ((hS.e ((hS.f k0 0 210 rfl).2) (by decide) (xin_lt g1)).2) k0 h
  · rw [if_neg c] at h
    refine x_aload_n dX5_keep_27 1 rfl ?_
    refine y_geti fl_RX5_18 dX5_keep_28 rfl k0 ?_
    refine x_iconst 1 dX5_keep_31 (by decide) ?_
    refine x_iadd dX5_keep_32 ?_
    refine x_goto 37 dX5_keep_33 (by decide) ?_
    refine x_lv (lv' := [(0, .ref v0), (2, .ref (xr S (xr S v0 0) (D.1 v0 1).toNatClampNeg))]) [1, 0] rfl ?_
    exact t_X5_keep_37 hS k0 ((hS.e ((hS.f k0 0 210 rfl).2) (by decide) (xin_lt g1)).2) k0 h

theorem dX5_restore_0 : decode cX5_restore 0 = .ok (.aload_n 0, 1) := by decide +kernel
theorem dX5_restore_1 : decode cX5_restore 1 = .ok (.aload_n 0, 1) := by decide +kernel
theorem dX5_restore_2 : decode cX5_restore 2 = .ok (.getfield 18, 3) := by decide +kernel
theorem dX5_restore_5 : decode cX5_restore 5 = .ok (.ifCond .le 12, 3) := by decide +kernel
theorem dX5_restore_8 : decode cX5_restore 8 = .ok (.aload_n 0, 1) := by decide +kernel
theorem dX5_restore_9 : decode cX5_restore 9 = .ok (.getfield 18, 3) := by decide +kernel
theorem dX5_restore_12 : decode cX5_restore 12 = .ok (.iconst 1, 1) := by decide +kernel
theorem dX5_restore_13 : decode cX5_restore 13 = .ok (.isub, 1) := by decide +kernel
theorem dX5_restore_14 : decode cX5_restore 14 = .ok (.goto 5, 3) := by decide +kernel
theorem dX5_restore_17 : decode cX5_restore 17 = .ok (.bipush 11, 2) := by decide +kernel
theorem dX5_restore_19 : decode cX5_restore 19 = .ok (.putfield 18, 3) := by decide +kernel
theorem dX5_restore_22 : decode cX5_restore 22 = .ok (.aload_n 0, 1) := by decide +kernel
theorem dX5_restore_23 : decode cX5_restore 23 = .ok (.dup, 1) := by decide +kernel
theorem dX5_restore_24 : decode cX5_restore 24 = .ok (.getfield 26, 3) := by decide +kernel
theorem dX5_restore_27 : decode cX5_restore 27 = .ok (.iconst 1, 1) := by decide +kernel
theorem dX5_restore_28 : decode cX5_restore 28 = .ok (.isub, 1) := by decide +kernel
theorem dX5_restore_29 : decode cX5_restore 29 = .ok (.putfield 26, 3) := by decide +kernel
theorem dX5_restore_32 : decode cX5_restore 32 = .ok (.aload_n 1, 1) := by decide +kernel
theorem dX5_restore_33 : decode cX5_restore 33 = .ok (.aload_n 0, 1) := by decide +kernel
theorem dX5_restore_34 : decode cX5_restore 34 = .ok (.getfield 11, 3) := by decide +kernel
theorem dX5_restore_37 : decode cX5_restore 37 = .ok (.aload_n 0, 1) := by decide +kernel
theorem dX5_restore_38 : decode cX5_restore 38 = .ok (.getfield 18, 3) := by decide +kernel
theorem dX5_restore_41 : decode cX5_restore 41 = .ok (.aaload, 1) := by decide +kernel
theorem dX5_restore_42 : decode cX5_restore 42 = .ok (.invokevirtual 22, 3) := by decide +kernel
theorem dX5_restore_45 : decode cX5_restore 45 = .ok (.return_, 1) := by decide +kernel
def f_X5_restore_19 (F P : Nat) (S : xSt) (v0 : Nat) (v1 : Nat) (s0 : Int32) (s1 : Nat) (D : xDt) : Option (xDt) :=
  xlet (xup D.1 s1 1 s0, D.2) fun D1 => xlet (xup D1.1 v0 2 ((D1.1 v0 2) - 1), D1.2) fun D2 => xgrd (xin (D2.1 v0 1) (xl S (xr S v0 0))) ((f_X10_copy F P S v1 (xr S (xr S v0 0) (D2.1 v0 1).toNatClampNeg) D2).bind fun q4 => some q4)
set_option maxHeartbeats 4000000 in
theorem t_X5_restore_19 {F P : Nat} {S : xSt} (hS : xWF S) {v0 : Nat} {v1 : Nat} {s0 : Int32} {s1 : Nat} {D : xDt} {r : xDt} (k0 : xK S v0 5) (k1 : xK S v1 10) (ks1 : xK S s1 5) (h : f_X5_restore_19 F P S v0 v1 s0 s1 D = some r) : yEx md_X5_restore 2 19 [(0, .ref v0), (1, .ref v1)] [.int s0, .ref s1] S D (xQv S r) := by
  unfold f_X5_restore_19 at h
  refine xlet_e h (fun D1 eD1 h => ?_)
  refine y_puti fp_RX5_18 dX5_restore_19 rfl ks1 eD1 ?_
  refine x_aload_n dX5_restore_22 0 rfl ?_
  refine x_dup dX5_restore_23 rfl ?_
  refine y_geti fl_RX5_26 dX5_restore_24 rfl k0 ?_
  refine x_iconst 1 dX5_restore_27 (by decide) ?_
  refine x_isub dX5_restore_28 ?_
  refine xlet_e h (fun D2 eD2 h => ?_)
  refine y_puti fp_RX5_26 dX5_restore_29 rfl k0 eD2 ?_
  refine x_aload_n dX5_restore_32 1 rfl ?_
  refine x_aload_n dX5_restore_33 0 rfl ?_
  refine y_getr (kd := 210) hS fl_RX5_11 dX5_restore_34 rfl k0 ?_
  refine x_aload_n dX5_restore_37 0 rfl ?_
  refine y_geti fl_RX5_18 dX5_restore_38 rfl k0 ?_
  refine xgrd_e h (fun g3 h => ?_)
  refine y_aald hS dX5_restore_41 ((hS.f k0 0 210 rfl).2) (by decide) g3 ?_
  refine xbnd_e h (fun q4 e4 h => ?_)
  refine y_callVv (As := [.ref (xr S (xr S v0 0) (D2.1 v0 1).toNatClampNeg)]) (q := q4) cv_RX5_22 dX5_restore_42 k1 rfl (Nat.le_of_ble_eq_true rfl) (by omega) (S_X10_copy hS k1 ((hS.e ((hS.f k0 0 210 rfl).2) (by decide) (xin_lt g3)).2) e4) ?_
  obtain rfl := Option.some.inj h
  exact y_vret rfl dX5_restore_45

def f_X5_restore (F P : Nat) (S : xSt) (v0 : Nat) (v1 : Nat) (D : xDt) : Option (xDt) :=
  if (D.1 v0 1) ≤ 0 then (f_X5_restore_19 F P S v0 v1 11 v0 D) else (f_X5_restore_19 F P S v0 v1 ((D.1 v0 1) - 1) v0 D)
set_option maxHeartbeats 4000000 in
theorem S_X5_restore {F P : Nat} {S : xSt} (hS : xWF S) {v0 : Nat} {v1 : Nat} {D : xDt} {r : xDt} (k0 : xK S v0 5) (k1 : xK S v1 10) (h : f_X5_restore F P S v0 v1 D = some r) : xSp md_X5_restore (2, 0, 0) [.ref v0, .ref v1] (S, D) (xQv S r) := by
  unfold f_X5_restore at h
  refine xEntry (by decide) (Nat.le_of_ble_eq_true rfl) ?_
  refine x_lv (lv' := [(0, .ref v0), (1, .ref v1)]) [0, 1] rfl ?_
  refine x_aload_n dX5_restore_0 0 rfl ?_
  refine x_aload_n dX5_restore_1 0 rfl ?_
  refine y_geti fl_RX5_18 dX5_restore_2 rfl k0 ?_
  refine x_if_le 17 dX5_restore_5 (by decide) (fun c => ?_) (fun c => ?_)
  · rw [if_pos c] at h
    refine x_bipush 11 dX5_restore_17 (by decide) ?_
    exact t_X5_restore_19 hS k0 k1 k0 h
  · rw [if_neg c] at h
    refine x_aload_n dX5_restore_8 0 rfl ?_
    refine y_geti fl_RX5_18 dX5_restore_9 rfl k0 ?_
    refine x_iconst 1 dX5_restore_12 (by decide) ?_
    refine x_isub dX5_restore_13 ?_
    refine x_goto 19 dX5_restore_14 (by decide) ?_
    exact t_X5_restore_19 hS k0 k1 k0 h

theorem dX6_isSign_0 : decode cX6_isSign 0 = .ok (.iload_n 0, 1) := by decide +kernel
theorem dX6_isSign_1 : decode cX6_isSign 1 = .ok (.bipush 32, 2) := by decide +kernel
theorem dX6_isSign_3 : decode cX6_isSign 3 = .ok (.if_icmp .lt 13, 3) := by decide +kernel
theorem dX6_isSign_6 : decode cX6_isSign 6 = .ok (.iload_n 0, 1) := by decide +kernel
theorem dX6_isSign_7 : decode cX6_isSign 7 = .ok (.bipush 126, 2) := by decide +kernel
theorem dX6_isSign_9 : decode cX6_isSign 9 = .ok (.if_icmp .gt 7, 3) := by decide +kernel
theorem dX6_isSign_12 : decode cX6_isSign 12 = .ok (.iconst 1, 1) := by decide +kernel
theorem dX6_isSign_13 : decode cX6_isSign 13 = .ok (.goto 4, 3) := by decide +kernel
theorem dX6_isSign_16 : decode cX6_isSign 16 = .ok (.iconst 0, 1) := by decide +kernel
theorem dX6_isSign_17 : decode cX6_isSign 17 = .ok (.ireturn, 1) := by decide +kernel
def f_X6_isSign_16 (F P : Nat) (S : xSt) (D : xDt) : Option (Int32 × xDt) :=
  some (0, D)
set_option maxHeartbeats 4000000 in
theorem t_X6_isSign_16 {F P : Nat} {S : xSt} (hS : xWF S) {D : xDt} {r : Int32 × xDt} (h : f_X6_isSign_16 F P S D = some r) : yEx md_X6_isSign 0 16 [] [] S D (xQi S r) := by
  unfold f_X6_isSign_16 at h
  refine x_iconst 0 dX6_isSign_16 (by decide) ?_
  obtain rfl := Option.some.inj h
  exact y_zret rfl rfl dX6_isSign_17

def f_X6_isSign (F P : Nat) (S : xSt) (v0 : Int32) (D : xDt) : Option (Int32 × xDt) :=
  if v0 < 32 then (f_X6_isSign_16 F P S D) else (if 126 < v0 then (f_X6_isSign_16 F P S D) else (some (1, D)))
set_option maxHeartbeats 4000000 in
theorem S_X6_isSign {F P : Nat} {S : xSt} (hS : xWF S) {v0 : Int32} {D : xDt} {r : Int32 × xDt} (h : f_X6_isSign F P S v0 D = some r) : xSp md_X6_isSign (0, 0, 0) [.int v0] (S, D) (xQi S r) := by
  unfold f_X6_isSign at h
  refine xEntry (by decide) (Nat.le_of_ble_eq_true rfl) ?_
  refine x_lv (lv' := [(0, .int v0)]) [0] rfl ?_
  refine x_iload_n dX6_isSign_0 0 rfl ?_
  refine x_bipush 32 dX6_isSign_1 (by decide) ?_
  refine x_icmp_lt 16 dX6_isSign_3 (by decide) (fun c => ?_) (fun c => ?_)
  · rw [if_pos c] at h
    refine x_lv (lv' := []) [] rfl ?_
    exact t_X6_isSign_16 hS h
  · rw [if_neg c] at h
    refine x_iload_n dX6_isSign_6 0 rfl ?_
    refine x_bipush 126 dX6_isSign_7 (by decide) ?_
    refine x_icmp_gt 16 dX6_isSign_9 (by decide) (fun c => ?_) (fun c => ?_)
    · rw [if_pos c] at h
      refine x_lv (lv' := []) [] rfl ?_
      exact t_X6_isSign_16 hS h
    · rw [if_neg c] at h
      refine x_iconst 1 dX6_isSign_12 (by decide) ?_
      refine x_goto 17 dX6_isSign_13 (by decide) ?_
      obtain rfl := Option.some.inj h
      exact y_zret rfl rfl dX6_isSign_17

theorem dX6_collect_0 : decode cX6_collect 0 = .ok (.iload_n 1, 1) := by decide +kernel
theorem dX6_collect_1 : decode cX6_collect 1 = .ok (.invokestatic 44, 3) := by decide +kernel
theorem dX6_collect_4 : decode cX6_collect 4 = .ok (.ifCond .eq 13, 3) := by decide +kernel
theorem dX6_collect_7 : decode cX6_collect 7 = .ok (.aload_n 0, 1) := by decide +kernel
theorem dX6_collect_8 : decode cX6_collect 8 = .ok (.getfield 48, 3) := by decide +kernel
theorem dX6_collect_11 : decode cX6_collect 11 = .ok (.sipush 200, 3) := by decide +kernel
theorem dX6_collect_14 : decode cX6_collect 14 = .ok (.if_icmp .lt 5, 3) := by decide +kernel
theorem dX6_collect_17 : decode cX6_collect 17 = .ok (.iconst (-1), 1) := by decide +kernel
theorem dX6_collect_18 : decode cX6_collect 18 = .ok (.ireturn, 1) := by decide +kernel
theorem dX6_collect_19 : decode cX6_collect 19 = .ok (.aload_n 0, 1) := by decide +kernel
theorem dX6_collect_20 : decode cX6_collect 20 = .ok (.getfield 9, 3) := by decide +kernel
theorem dX6_collect_23 : decode cX6_collect 23 = .ok (.aload_n 0, 1) := by decide +kernel
theorem dX6_collect_24 : decode cX6_collect 24 = .ok (.dup, 1) := by decide +kernel
theorem dX6_collect_25 : decode cX6_collect 25 = .ok (.getfield 48, 3) := by decide +kernel
theorem dX6_collect_28 : decode cX6_collect 28 = .ok (.dup_x1, 1) := by decide +kernel
theorem dX6_collect_29 : decode cX6_collect 29 = .ok (.iconst 1, 1) := by decide +kernel
theorem dX6_collect_30 : decode cX6_collect 30 = .ok (.iadd, 1) := by decide +kernel
theorem dX6_collect_31 : decode cX6_collect 31 = .ok (.putfield 48, 3) := by decide +kernel
theorem dX6_collect_34 : decode cX6_collect 34 = .ok (.iload_n 1, 1) := by decide +kernel
theorem dX6_collect_35 : decode cX6_collect 35 = .ok (.i2c, 1) := by decide +kernel
theorem dX6_collect_36 : decode cX6_collect 36 = .ok (.castore, 1) := by decide +kernel
theorem dX6_collect_37 : decode cX6_collect 37 = .ok (.aload_n 0, 1) := by decide +kernel
theorem dX6_collect_38 : decode cX6_collect 38 = .ok (.getfield 48, 3) := by decide +kernel
theorem dX6_collect_41 : decode cX6_collect 41 = .ok (.ireturn, 1) := by decide +kernel
def f_X6_collect (F P : Nat) (S : xSt) (v0 : Nat) (v1 : Int32) (D : xDt) : Option (Int32 × xDt) :=
  (f_X6_isSign F P S v1 D).bind fun q1 => if q1.1 = 0 then (some ((-1), q1.2)) else (if (q1.2.1 v0 1) < 200 then (xlet (xup q1.2.1 v0 1 ((q1.2.1 v0 1) + 1), q1.2.2) fun D2 => xgrd (xin (q1.2.1 v0 1) (xl S (xr S v0 0))) (xlet (xup D2.1 (xr S v0 0) (q1.2.1 v0 1).toNatClampNeg (ji2c (ji2c v1)), D2.2) fun D4 => some (D4.1 v0 1, D4))) else (some ((-1), q1.2)))
set_option maxHeartbeats 4000000 in
theorem S_X6_collect {F P : Nat} {S : xSt} (hS : xWF S) {v0 : Nat} {v1 : Int32} {D : xDt} {r : Int32 × xDt} (k0 : xK S v0 6) (h : f_X6_collect F P S v0 v1 D = some r) : xSp md_X6_collect (1, 0, 0) [.ref v0, .int v1] (S, D) (xQi S r) := by
  unfold f_X6_collect at h
  refine xEntry (by decide) (Nat.le_of_ble_eq_true rfl) ?_
  refine x_lv (lv' := [(0, .ref v0), (1, .int v1)]) [0, 1] rfl ?_
  refine x_iload_n dX6_collect_0 1 rfl ?_
  refine xbnd_e h (fun q1 e1 h => ?_)
  refine y_callSi (As := [.int v1]) (q := q1) cs_RX6_44 dX6_collect_1 rfl (Nat.le_of_ble_eq_true rfl) (by omega) (S_X6_isSign hS e1) ?_
  refine x_if_eq 17 dX6_collect_4 (by decide) (fun c => ?_) (fun c => ?_)
  · rw [if_pos c] at h
    refine x_iconst (-1) dX6_collect_17 (by decide) ?_
    obtain rfl := Option.some.inj h
    exact y_iret rfl dX6_collect_18
  · rw [if_neg c] at h
    refine x_aload_n dX6_collect_7 0 rfl ?_
    refine y_geti fl_RX6_48 dX6_collect_8 rfl k0 ?_
    refine x_sipush 200 dX6_collect_11 (by decide) ?_
    refine x_icmp_lt 19 dX6_collect_14 (by decide) (fun c => ?_) (fun c => ?_)
    · rw [if_pos c] at h
      refine x_aload_n dX6_collect_19 0 rfl ?_
      refine y_getr (kd := 102) hS fl_RX6_9 dX6_collect_20 rfl k0 ?_
      refine x_aload_n dX6_collect_23 0 rfl ?_
      refine x_dup dX6_collect_24 rfl ?_
      refine y_geti fl_RX6_48 dX6_collect_25 rfl k0 ?_
      refine x_dup_x1 dX6_collect_28 rfl rfl ?_
      refine x_iconst 1 dX6_collect_29 (by decide) ?_
      refine x_iadd dX6_collect_30 ?_
      refine xlet_e h (fun D2 eD2 h => ?_)
      refine y_puti fp_RX6_48 dX6_collect_31 rfl k0 eD2 ?_
      refine x_iload_n dX6_collect_34 1 rfl ?_
      refine x_i2c dX6_collect_35 ?_
      refine xgrd_e h (fun g3 h => ?_)
      refine xlet_e h (fun D4 eD4 h => ?_)
      refine y_cast dX6_collect_36 ((hS.f k0 0 102 rfl).2) g3 eD4 ?_
      refine x_aload_n dX6_collect_37 0 rfl ?_
      refine y_geti fl_RX6_48 dX6_collect_38 rfl k0 ?_
      obtain rfl := Option.some.inj h
      exact y_iret rfl dX6_collect_41
    · rw [if_neg c] at h
      refine x_iconst (-1) dX6_collect_17 (by decide) ?_
      obtain rfl := Option.some.inj h
      exact y_iret rfl dX6_collect_18

theorem dX6_collectFour_0 : decode cX6_collectFour 0 = .ok (.iconst 0, 1) := by decide +kernel
theorem dX6_collectFour_1 : decode cX6_collectFour 1 = .ok (.istore_n 2, 1) := by decide +kernel
theorem dX6_collectFour_2 : decode cX6_collectFour 2 = .ok (.bipush 24, 2) := by decide +kernel
theorem dX6_collectFour_4 : decode cX6_collectFour 4 = .ok (.istore_n 3, 1) := by decide +kernel
theorem dX6_collectFour_5 : decode cX6_collectFour 5 = .ok (.iload_n 3, 1) := by decide +kernel
theorem dX6_collectFour_6 : decode cX6_collectFour 6 = .ok (.ifCond .lt 46, 3) := by decide +kernel
theorem dX6_collectFour_9 : decode cX6_collectFour 9 = .ok (.iload_n 1, 1) := by decide +kernel
theorem dX6_collectFour_10 : decode cX6_collectFour 10 = .ok (.iload_n 3, 1) := by decide +kernel
theorem dX6_collectFour_11 : decode cX6_collectFour 11 = .ok (.iushr, 1) := by decide +kernel
theorem dX6_collectFour_12 : decode cX6_collectFour 12 = .ok (.sipush 255, 3) := by decide +kernel
theorem dX6_collectFour_15 : decode cX6_collectFour 15 = .ok (.iand, 1) := by decide +kernel
theorem dX6_collectFour_16 : decode cX6_collectFour 16 = .ok (.istore 4, 2) := by decide +kernel
theorem dX6_collectFour_18 : decode cX6_collectFour 18 = .ok (.iload 4, 2) := by decide +kernel
theorem dX6_collectFour_20 : decode cX6_collectFour 20 = .ok (.ifCond .eq 13, 3) := by decide +kernel
theorem dX6_collectFour_23 : decode cX6_collectFour 23 = .ok (.iload 4, 2) := by decide +kernel
theorem dX6_collectFour_25 : decode cX6_collectFour 25 = .ok (.invokestatic 44, 3) := by decide +kernel
theorem dX6_collectFour_28 : decode cX6_collectFour 28 = .ok (.ifCond .ne 5, 3) := by decide +kernel
theorem dX6_collectFour_31 : decode cX6_collectFour 31 = .ok (.iconst (-1), 1) := by decide +kernel
theorem dX6_collectFour_32 : decode cX6_collectFour 32 = .ok (.ireturn, 1) := by decide +kernel
theorem dX6_collectFour_33 : decode cX6_collectFour 33 = .ok (.iload_n 2, 1) := by decide +kernel
theorem dX6_collectFour_34 : decode cX6_collectFour 34 = .ok (.iload 4, 2) := by decide +kernel
theorem dX6_collectFour_36 : decode cX6_collectFour 36 = .ok (.ifCond .eq 7, 3) := by decide +kernel
theorem dX6_collectFour_39 : decode cX6_collectFour 39 = .ok (.iconst 1, 1) := by decide +kernel
theorem dX6_collectFour_40 : decode cX6_collectFour 40 = .ok (.goto 4, 3) := by decide +kernel
theorem dX6_collectFour_43 : decode cX6_collectFour 43 = .ok (.iconst 0, 1) := by decide +kernel
theorem dX6_collectFour_44 : decode cX6_collectFour 44 = .ok (.iadd, 1) := by decide +kernel
theorem dX6_collectFour_45 : decode cX6_collectFour 45 = .ok (.istore_n 2, 1) := by decide +kernel
theorem dX6_collectFour_46 : decode cX6_collectFour 46 = .ok (.iinc 3 (-8), 3) := by decide +kernel
theorem dX6_collectFour_49 : decode cX6_collectFour 49 = .ok (.goto (-44), 3) := by decide +kernel
theorem dX6_collectFour_52 : decode cX6_collectFour 52 = .ok (.iload_n 2, 1) := by decide +kernel
theorem dX6_collectFour_53 : decode cX6_collectFour 53 = .ok (.sipush 200, 3) := by decide +kernel
theorem dX6_collectFour_56 : decode cX6_collectFour 56 = .ok (.aload_n 0, 1) := by decide +kernel
theorem dX6_collectFour_57 : decode cX6_collectFour 57 = .ok (.getfield 48, 3) := by decide +kernel
theorem dX6_collectFour_60 : decode cX6_collectFour 60 = .ok (.isub, 1) := by decide +kernel
theorem dX6_collectFour_61 : decode cX6_collectFour 61 = .ok (.if_icmp .le 5, 3) := by decide +kernel
theorem dX6_collectFour_64 : decode cX6_collectFour 64 = .ok (.iconst (-1), 1) := by decide +kernel
theorem dX6_collectFour_65 : decode cX6_collectFour 65 = .ok (.ireturn, 1) := by decide +kernel
theorem dX6_collectFour_66 : decode cX6_collectFour 66 = .ok (.bipush 24, 2) := by decide +kernel
theorem dX6_collectFour_68 : decode cX6_collectFour 68 = .ok (.istore_n 3, 1) := by decide +kernel
theorem dX6_collectFour_69 : decode cX6_collectFour 69 = .ok (.iload_n 3, 1) := by decide +kernel
theorem dX6_collectFour_70 : decode cX6_collectFour 70 = .ok (.ifCond .lt 30, 3) := by decide +kernel
theorem dX6_collectFour_73 : decode cX6_collectFour 73 = .ok (.iload_n 1, 1) := by decide +kernel
theorem dX6_collectFour_74 : decode cX6_collectFour 74 = .ok (.iload_n 3, 1) := by decide +kernel
theorem dX6_collectFour_75 : decode cX6_collectFour 75 = .ok (.iushr, 1) := by decide +kernel
theorem dX6_collectFour_76 : decode cX6_collectFour 76 = .ok (.sipush 255, 3) := by decide +kernel
theorem dX6_collectFour_79 : decode cX6_collectFour 79 = .ok (.iand, 1) := by decide +kernel
theorem dX6_collectFour_80 : decode cX6_collectFour 80 = .ok (.istore 4, 2) := by decide +kernel
theorem dX6_collectFour_82 : decode cX6_collectFour 82 = .ok (.iload 4, 2) := by decide +kernel
theorem dX6_collectFour_84 : decode cX6_collectFour 84 = .ok (.ifCond .eq 10, 3) := by decide +kernel
theorem dX6_collectFour_87 : decode cX6_collectFour 87 = .ok (.aload_n 0, 1) := by decide +kernel
theorem dX6_collectFour_88 : decode cX6_collectFour 88 = .ok (.iload 4, 2) := by decide +kernel
theorem dX6_collectFour_90 : decode cX6_collectFour 90 = .ok (.invokevirtual 52, 3) := by decide +kernel
theorem dX6_collectFour_93 : decode cX6_collectFour 93 = .ok (.pop, 1) := by decide +kernel
theorem dX6_collectFour_94 : decode cX6_collectFour 94 = .ok (.iinc 3 (-8), 3) := by decide +kernel
theorem dX6_collectFour_97 : decode cX6_collectFour 97 = .ok (.goto (-28), 3) := by decide +kernel
theorem dX6_collectFour_100 : decode cX6_collectFour 100 = .ok (.aload_n 0, 1) := by decide +kernel
theorem dX6_collectFour_101 : decode cX6_collectFour 101 = .ok (.getfield 48, 3) := by decide +kernel
theorem dX6_collectFour_104 : decode cX6_collectFour 104 = .ok (.ireturn, 1) := by decide +kernel
def f_X6_collectFour_44 (F P : Nat) (S : xSt) (rec_5 : Nat → Int32 → Int32 → Int32 → xDt → Option (Int32 × xDt)) (v0 : Nat) (v1 : Int32) (v3 : Int32) (s0 : Int32) (s1 : Int32) (D : xDt) : Option (Int32 × xDt) :=
  xlet (s1 + s0) fun v2_1 => xlet (v3 + (-8)) fun v3_2 => rec_5 v0 v1 v2_1 v3_2 D
set_option maxHeartbeats 4000000 in
theorem t_X6_collectFour_44 {F P : Nat} {S : xSt} (hS : xWF S) {rec_5 : Nat → Int32 → Int32 → Int32 → xDt → Option (Int32 × xDt)} (hrec_5 : ∀ {v0 : Nat} {v1 : Int32} {v2 : Int32} {v3 : Int32} {D : xDt} {r : Int32 × xDt}, xK S v0 6 → rec_5 v0 v1 v2 v3 D = some r → yEx md_X6_collectFour 2 5 [(0, .ref v0), (1, .int v1), (2, .int v2), (3, .int v3)] [] S D (xQi S r)) {v0 : Nat} {v1 : Int32} {v3 : Int32} {s0 : Int32} {s1 : Int32} {D : xDt} {r : Int32 × xDt} (k0 : xK S v0 6) (h : f_X6_collectFour_44 F P S rec_5 v0 v1 v3 s0 s1 D = some r) : yEx md_X6_collectFour 2 44 [(0, .ref v0), (1, .int v1), (3, .int v3)] [.int s0, .int s1] S D (xQi S r) := by
  unfold f_X6_collectFour_44 at h
  refine x_iadd dX6_collectFour_44 ?_
  refine xlet_e h (fun v2_1 ev2_1 h => ?_)
  refine y_istore_n v2_1 ev2_1 [(2, .int v2_1), (0, .ref v0), (1, .int v1), (3, .int v3)] dX6_collectFour_45 (by show _ < 5; decide) rfl ?_
  refine xlet_e h (fun v3_2 ev3_2 h => ?_)
  refine y_iinc v3_2 ev3_2 (by decide) [(3, .int v3_2), (2, .int v2_1), (0, .ref v0), (1, .int v1)] dX6_collectFour_46 3 rfl (by show _ < 5; decide) rfl ?_
  refine x_goto 5 dX6_collectFour_49 (by decide) ?_
  refine x_lv (lv' := [(0, .ref v0), (1, .int v1), (2, .int v2_1), (3, .int v3_2)]) [2, 3, 1, 0] rfl ?_
  exact hrec_5 k0 h

def f_X6_collectFour_33 (F P : Nat) (S : xSt) (rec_5 : Nat → Int32 → Int32 → Int32 → xDt → Option (Int32 × xDt)) (v0 : Nat) (v1 : Int32) (v2 : Int32) (v3 : Int32) (v4 : Int32) (D : xDt) : Option (Int32 × xDt) :=
  if v4 = 0 then (f_X6_collectFour_44 F P S rec_5 v0 v1 v3 0 v2 D) else (f_X6_collectFour_44 F P S rec_5 v0 v1 v3 1 v2 D)
set_option maxHeartbeats 4000000 in
theorem t_X6_collectFour_33 {F P : Nat} {S : xSt} (hS : xWF S) {rec_5 : Nat → Int32 → Int32 → Int32 → xDt → Option (Int32 × xDt)} (hrec_5 : ∀ {v0 : Nat} {v1 : Int32} {v2 : Int32} {v3 : Int32} {D : xDt} {r : Int32 × xDt}, xK S v0 6 → rec_5 v0 v1 v2 v3 D = some r → yEx md_X6_collectFour 2 5 [(0, .ref v0), (1, .int v1), (2, .int v2), (3, .int v3)] [] S D (xQi S r)) {v0 : Nat} {v1 : Int32} {v2 : Int32} {v3 : Int32} {v4 : Int32} {D : xDt} {r : Int32 × xDt} (k0 : xK S v0 6) (h : f_X6_collectFour_33 F P S rec_5 v0 v1 v2 v3 v4 D = some r) : yEx md_X6_collectFour 2 33 [(0, .ref v0), (1, .int v1), (2, .int v2), (3, .int v3), (4, .int v4)] [] S D (xQi S r) := by
  unfold f_X6_collectFour_33 at h
  refine x_iload_n dX6_collectFour_33 2 rfl ?_
  refine x_iload dX6_collectFour_34 4 rfl ?_
  refine x_if_eq 43 dX6_collectFour_36 (by decide) (fun c => ?_) (fun c => ?_)
  · rw [if_pos c] at h
    refine x_iconst 0 dX6_collectFour_43 (by decide) ?_
    refine x_lv (lv' := [(0, .ref v0), (1, .int v1), (3, .int v3)]) [0, 1, 3] rfl ?_
    exact t_X6_collectFour_44 hS hrec_5 k0 h
  · rw [if_neg c] at h
    refine x_iconst 1 dX6_collectFour_39 (by decide) ?_
    refine x_goto 44 dX6_collectFour_40 (by decide) ?_
    refine x_lv (lv' := [(0, .ref v0), (1, .int v1), (3, .int v3)]) [0, 1, 3] rfl ?_
    exact t_X6_collectFour_44 hS hrec_5 k0 h

def f_X6_collectFour_94 (F P : Nat) (S : xSt) (rec_69 : Nat → Int32 → Int32 → xDt → Option (Int32 × xDt)) (v0 : Nat) (v1 : Int32) (v3 : Int32) (D : xDt) : Option (Int32 × xDt) :=
  xlet (v3 + (-8)) fun v3_1 => rec_69 v0 v1 v3_1 D
set_option maxHeartbeats 4000000 in
theorem t_X6_collectFour_94 {F P : Nat} {S : xSt} (hS : xWF S) {rec_69 : Nat → Int32 → Int32 → xDt → Option (Int32 × xDt)} (hrec_69 : ∀ {v0 : Nat} {v1 : Int32} {v3 : Int32} {D : xDt} {r : Int32 × xDt}, xK S v0 6 → rec_69 v0 v1 v3 D = some r → yEx md_X6_collectFour 2 69 [(0, .ref v0), (1, .int v1), (3, .int v3)] [] S D (xQi S r)) {v0 : Nat} {v1 : Int32} {v3 : Int32} {D : xDt} {r : Int32 × xDt} (k0 : xK S v0 6) (h : f_X6_collectFour_94 F P S rec_69 v0 v1 v3 D = some r) : yEx md_X6_collectFour 2 94 [(0, .ref v0), (1, .int v1), (3, .int v3)] [] S D (xQi S r) := by
  unfold f_X6_collectFour_94 at h
  refine xlet_e h (fun v3_1 ev3_1 h => ?_)
  refine y_iinc v3_1 ev3_1 (by decide) [(3, .int v3_1), (0, .ref v0), (1, .int v1)] dX6_collectFour_94 2 rfl (by show _ < 5; decide) rfl ?_
  refine x_goto 69 dX6_collectFour_97 (by decide) ?_
  refine x_lv (lv' := [(0, .ref v0), (1, .int v1), (3, .int v3_1)]) [1, 2, 0] rfl ?_
  exact hrec_69 k0 h

def f_X6_collectFour_69s (F P : Nat) (S : xSt) (rec_69 : Nat → Int32 → Int32 → xDt → Option (Int32 × xDt)) (v0 : Nat) (v1 : Int32) (v3 : Int32) (D : xDt) : Option (Int32 × xDt) :=
  if v3 < 0 then (some (D.1 v0 1, D)) else (xlet ((jiushr v1 v3) &&& 255) fun v4_1 => if v4_1 = 0 then (f_X6_collectFour_94 F P S rec_69 v0 v1 v3 D) else ((f_X6_collect F P S v0 v4_1 D).bind fun q2 => f_X6_collectFour_94 F P S rec_69 v0 v1 v3 q2.2))
def f_X6_collectFour_69 (F P : Nat) (S : xSt) : Nat → Nat → Int32 → Int32 → xDt → Option (Int32 × xDt)
  | 0 => fun _ _ _ _ => none
  | n + 1 => f_X6_collectFour_69s F P S (f_X6_collectFour_69 F P S n)
set_option maxHeartbeats 4000000 in
theorem t_X6_collectFour_69s {F P : Nat} {S : xSt} (hS : xWF S) {rec_69 : Nat → Int32 → Int32 → xDt → Option (Int32 × xDt)} (hrec_69 : ∀ {v0 : Nat} {v1 : Int32} {v3 : Int32} {D : xDt} {r : Int32 × xDt}, xK S v0 6 → rec_69 v0 v1 v3 D = some r → yEx md_X6_collectFour 2 69 [(0, .ref v0), (1, .int v1), (3, .int v3)] [] S D (xQi S r)) {v0 : Nat} {v1 : Int32} {v3 : Int32} {D : xDt} {r : Int32 × xDt} (k0 : xK S v0 6) (h : f_X6_collectFour_69s F P S rec_69 v0 v1 v3 D = some r) : yEx md_X6_collectFour 2 69 [(0, .ref v0), (1, .int v1), (3, .int v3)] [] S D (xQi S r) := by
  unfold f_X6_collectFour_69s at h
  refine x_iload_n dX6_collectFour_69 2 rfl ?_
  refine x_if_lt 100 dX6_collectFour_70 (by decide) (fun c => ?_) (fun c => ?_)
  · rw [if_pos c] at h
    refine x_aload_n dX6_collectFour_100 0 rfl ?_
    refine y_geti fl_RX6_48 dX6_collectFour_101 rfl k0 ?_
    obtain rfl := Option.some.inj h
    exact y_iret rfl dX6_collectFour_104
  · rw [if_neg c] at h
    refine x_iload_n dX6_collectFour_73 1 rfl ?_
    refine x_iload_n dX6_collectFour_74 2 rfl ?_
    refine x_iushr dX6_collectFour_75 ?_
    refine x_sipush 255 dX6_collectFour_76 (by decide) ?_
    refine x_iand dX6_collectFour_79 ?_
    refine xlet_e h (fun v4_1 ev4_1 h => ?_)
    refine y_istore v4_1 ev4_1 [(4, .int v4_1), (0, .ref v0), (1, .int v1), (3, .int v3)] dX6_collectFour_80 (by show _ < 5; decide) rfl ?_
    refine x_iload dX6_collectFour_82 0 rfl ?_
    refine x_if_eq 94 dX6_collectFour_84 (by decide) (fun c => ?_) (fun c => ?_)
    · rw [if_pos c] at h
      refine x_lv (lv' := [(0, .ref v0), (1, .int v1), (3, .int v3)]) [1, 2, 3] rfl ?_
      exact t_X6_collectFour_94 hS hrec_69 k0 h
    · rw [if_neg c] at h
      refine x_aload_n dX6_collectFour_87 1 rfl ?_
      refine x_iload dX6_collectFour_88 0 rfl ?_
      refine xbnd_e h (fun q2 e2 h => ?_)
      refine y_callVi (As := [.int v4_1]) (q := q2) cv_RX6_52 dX6_collectFour_90 k0 rfl (Nat.le_of_ble_eq_true rfl) (by omega) (S_X6_collect hS k0 e2) ?_
      refine x_pop dX6_collectFour_93 rfl ?_
      refine x_lv (lv' := [(0, .ref v0), (1, .int v1), (3, .int v3)]) [1, 2, 3] rfl ?_
      exact t_X6_collectFour_94 hS hrec_69 k0 h
theorem t_X6_collectFour_69 {F P : Nat} {S : xSt} (hS : xWF S) : ∀ (n : Nat) {v0 : Nat} {v1 : Int32} {v3 : Int32} {D : xDt} {r : Int32 × xDt}, xK S v0 6 → f_X6_collectFour_69 F P S n v0 v1 v3 D = some r → yEx md_X6_collectFour 2 69 [(0, .ref v0), (1, .int v1), (3, .int v3)] [] S D (xQi S r) := by
  intro n
  induction n with
  | zero => intros; rename_i h; cases h
  | succ n ih =>
    intro v0 v1 v3 D r k0 h
    exact t_X6_collectFour_69s hS (fun k0 h => ih k0 h) k0 h

def f_X6_collectFour_5s (F P : Nat) (S : xSt) (rec_5 : Nat → Int32 → Int32 → Int32 → xDt → Option (Int32 × xDt)) (v0 : Nat) (v1 : Int32) (v2 : Int32) (v3 : Int32) (D : xDt) : Option (Int32 × xDt) :=
  if v3 < 0 then (if v2 ≤ (200 - (D.1 v0 1)) then (f_X6_collectFour_69 F P S F v0 v1 24 D) else (some ((-1), D))) else (xlet ((jiushr v1 v3) &&& 255) fun v4_1 => if v4_1 = 0 then (f_X6_collectFour_33 F P S rec_5 v0 v1 v2 v3 v4_1 D) else ((f_X6_isSign F P S v4_1 D).bind fun q2 => if q2.1 = 0 then (some ((-1), q2.2)) else (f_X6_collectFour_33 F P S rec_5 v0 v1 v2 v3 v4_1 q2.2)))
def f_X6_collectFour_5 (F P : Nat) (S : xSt) : Nat → Nat → Int32 → Int32 → Int32 → xDt → Option (Int32 × xDt)
  | 0 => fun _ _ _ _ _ => none
  | n + 1 => f_X6_collectFour_5s F P S (f_X6_collectFour_5 F P S n)
set_option maxHeartbeats 4000000 in
theorem t_X6_collectFour_5s {F P : Nat} {S : xSt} (hS : xWF S) {rec_5 : Nat → Int32 → Int32 → Int32 → xDt → Option (Int32 × xDt)} (hrec_5 : ∀ {v0 : Nat} {v1 : Int32} {v2 : Int32} {v3 : Int32} {D : xDt} {r : Int32 × xDt}, xK S v0 6 → rec_5 v0 v1 v2 v3 D = some r → yEx md_X6_collectFour 2 5 [(0, .ref v0), (1, .int v1), (2, .int v2), (3, .int v3)] [] S D (xQi S r)) {v0 : Nat} {v1 : Int32} {v2 : Int32} {v3 : Int32} {D : xDt} {r : Int32 × xDt} (k0 : xK S v0 6) (h : f_X6_collectFour_5s F P S rec_5 v0 v1 v2 v3 D = some r) : yEx md_X6_collectFour 2 5 [(0, .ref v0), (1, .int v1), (2, .int v2), (3, .int v3)] [] S D (xQi S r) := by
  unfold f_X6_collectFour_5s at h
  refine x_iload_n dX6_collectFour_5 3 rfl ?_
  refine x_if_lt 52 dX6_collectFour_6 (by decide) (fun c => ?_) (fun c => ?_)
  · rw [if_pos c] at h
    refine x_iload_n dX6_collectFour_52 2 rfl ?_
    refine x_sipush 200 dX6_collectFour_53 (by decide) ?_
    refine x_aload_n dX6_collectFour_56 0 rfl ?_
    refine y_geti fl_RX6_48 dX6_collectFour_57 rfl k0 ?_
    refine x_isub dX6_collectFour_60 ?_
    refine x_icmp_le 66 dX6_collectFour_61 (by decide) (fun c => ?_) (fun c => ?_)
    · rw [if_pos c] at h
      refine x_bipush 24 dX6_collectFour_66 (by decide) ?_
      refine y_istore_n 24 rfl [(3, .int 24), (0, .ref v0), (1, .int v1), (2, .int v2)] dX6_collectFour_68 (by show _ < 5; decide) rfl ?_
      refine x_lv (lv' := [(0, .ref v0), (1, .int v1), (3, .int 24)]) [1, 2, 0] rfl ?_
      exact t_X6_collectFour_69 hS F k0 h
    · rw [if_neg c] at h
      refine x_iconst (-1) dX6_collectFour_64 (by decide) ?_
      obtain rfl := Option.some.inj h
      exact y_iret rfl dX6_collectFour_65
  · rw [if_neg c] at h
    refine x_iload_n dX6_collectFour_9 1 rfl ?_
    refine x_iload_n dX6_collectFour_10 3 rfl ?_
    refine x_iushr dX6_collectFour_11 ?_
    refine x_sipush 255 dX6_collectFour_12 (by decide) ?_
    refine x_iand dX6_collectFour_15 ?_
    refine xlet_e h (fun v4_1 ev4_1 h => ?_)
    refine y_istore v4_1 ev4_1 [(4, .int v4_1), (0, .ref v0), (1, .int v1), (2, .int v2), (3, .int v3)] dX6_collectFour_16 (by show _ < 5; decide) rfl ?_
    refine x_iload dX6_collectFour_18 0 rfl ?_
    refine x_if_eq 33 dX6_collectFour_20 (by decide) (fun c => ?_) (fun c => ?_)
    · rw [if_pos c] at h
      refine x_lv (lv' := [(0, .ref v0), (1, .int v1), (2, .int v2), (3, .int v3), (4, .int v4_1)]) [1, 2, 3, 4, 0] rfl ?_
      exact t_X6_collectFour_33 hS hrec_5 k0 h
    · rw [if_neg c] at h
      refine x_iload dX6_collectFour_23 0 rfl ?_
      refine xbnd_e h (fun q2 e2 h => ?_)
      refine y_callSi (As := [.int v4_1]) (q := q2) cs_RX6_44 dX6_collectFour_25 rfl (Nat.le_of_ble_eq_true rfl) (by omega) (S_X6_isSign hS e2) ?_
      refine x_if_ne 33 dX6_collectFour_28 (by decide) (fun c => ?_) (fun c => ?_)
      · rw [if_neg c] at h
        refine x_lv (lv' := [(0, .ref v0), (1, .int v1), (2, .int v2), (3, .int v3), (4, .int v4_1)]) [1, 2, 3, 4, 0] rfl ?_
        exact t_X6_collectFour_33 hS hrec_5 k0 h
      · rw [if_pos c] at h
        refine x_iconst (-1) dX6_collectFour_31 (by decide) ?_
        obtain rfl := Option.some.inj h
        exact y_iret rfl dX6_collectFour_32
theorem t_X6_collectFour_5 {F P : Nat} {S : xSt} (hS : xWF S) : ∀ (n : Nat) {v0 : Nat} {v1 : Int32} {v2 : Int32} {v3 : Int32} {D : xDt} {r : Int32 × xDt}, xK S v0 6 → f_X6_collectFour_5 F P S n v0 v1 v2 v3 D = some r → yEx md_X6_collectFour 2 5 [(0, .ref v0), (1, .int v1), (2, .int v2), (3, .int v3)] [] S D (xQi S r) := by
  intro n
  induction n with
  | zero => intros; rename_i h; cases h
  | succ n ih =>
    intro v0 v1 v2 v3 D r k0 h
    exact t_X6_collectFour_5s hS (fun k0 h => ih k0 h) k0 h

def f_X6_collectFour (F P : Nat) (S : xSt) (v0 : Nat) (v1 : Int32) (D : xDt) : Option (Int32 × xDt) :=
  f_X6_collectFour_5 F P S F v0 v1 0 24 D
set_option maxHeartbeats 4000000 in
theorem S_X6_collectFour {F P : Nat} {S : xSt} (hS : xWF S) {v0 : Nat} {v1 : Int32} {D : xDt} {r : Int32 × xDt} (k0 : xK S v0 6) (h : f_X6_collectFour F P S v0 v1 D = some r) : xSp md_X6_collectFour (2, 0, 0) [.ref v0, .int v1] (S, D) (xQi S r) := by
  unfold f_X6_collectFour at h
  refine xEntry (by decide) (Nat.le_of_ble_eq_true rfl) ?_
  refine x_lv (lv' := [(0, .ref v0), (1, .int v1)]) [0, 1] rfl ?_
  refine x_iconst 0 dX6_collectFour_0 (by decide) ?_
  refine y_istore_n 0 rfl [(2, .int 0), (0, .ref v0), (1, .int v1)] dX6_collectFour_1 (by show _ < 5; decide) rfl ?_
  refine x_bipush 24 dX6_collectFour_2 (by decide) ?_
  refine y_istore_n 24 rfl [(3, .int 24), (2, .int 0), (0, .ref v0), (1, .int v1)] dX6_collectFour_4 (by show _ < 5; decide) rfl ?_
  refine x_lv (lv' := [(0, .ref v0), (1, .int v1), (2, .int 0), (3, .int 24)]) [2, 3, 1, 0] rfl ?_
  exact t_X6_collectFour_5 hS F k0 h

theorem dX6_wantFirstOne_0 : decode cX6_wantFirstOne 0 = .ok (.aload_n 0, 1) := by decide +kernel
theorem dX6_wantFirstOne_1 : decode cX6_wantFirstOne 1 = .ok (.iconst 0, 1) := by decide +kernel
theorem dX6_wantFirstOne_2 : decode cX6_wantFirstOne 2 = .ok (.putfield 89, 3) := by decide +kernel
theorem dX6_wantFirstOne_5 : decode cX6_wantFirstOne 5 = .ok (.aload_n 0, 1) := by decide +kernel
theorem dX6_wantFirstOne_6 : decode cX6_wantFirstOne 6 = .ok (.iconst 1, 1) := by decide +kernel
theorem dX6_wantFirstOne_7 : decode cX6_wantFirstOne 7 = .ok (.putfield 78, 3) := by decide +kernel
theorem dX6_wantFirstOne_10 : decode cX6_wantFirstOne 10 = .ok (.return_, 1) := by decide +kernel
def f_X6_wantFirstOne (F P : Nat) (S : xSt) (v0 : Nat) (D : xDt) : Option (xDt) :=
  xlet (xup D.1 v0 10 0, D.2) fun D1 => xlet (xup D1.1 v0 11 1, D1.2) fun D2 => some D2
set_option maxHeartbeats 4000000 in
theorem S_X6_wantFirstOne {F P : Nat} {S : xSt} (hS : xWF S) {v0 : Nat} {D : xDt} {r : xDt} (k0 : xK S v0 6) (h : f_X6_wantFirstOne F P S v0 D = some r) : xSp md_X6_wantFirstOne (0, 0, 0) [.ref v0] (S, D) (xQv S r) := by
  unfold f_X6_wantFirstOne at h
  refine xEntry (by decide) (Nat.le_of_ble_eq_true rfl) ?_
  refine x_lv (lv' := [(0, .ref v0)]) [0] rfl ?_
  refine x_aload_n dX6_wantFirstOne_0 0 rfl ?_
  refine x_iconst 0 dX6_wantFirstOne_1 (by decide) ?_
  refine xlet_e h (fun D1 eD1 h => ?_)
  refine y_puti fp_RX6_89 dX6_wantFirstOne_2 rfl k0 eD1 ?_
  refine x_aload_n dX6_wantFirstOne_5 0 rfl ?_
  refine x_iconst 1 dX6_wantFirstOne_6 (by decide) ?_
  refine xlet_e h (fun D2 eD2 h => ?_)
  refine y_putz rfl fp_RX6_78 dX6_wantFirstOne_7 rfl k0 eD2 ?_
  obtain rfl := Option.some.inj h
  exact y_vret rfl dX6_wantFirstOne_10

