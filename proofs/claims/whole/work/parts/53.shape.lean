theorem xnw_zero {α : Type} (a : Nat) (v : α) : xnw (fun _ _ => v) a v = (fun _ _ => v) := by
  funext x y
  simp only [xnw]
  split <;> rfl
theorem c_X5_loop_d (rg : Nat) : ∀ (n i : Nat) (M : xMem), M.2 = xD0 → (c_X5_loop rg n i M).2 = xD0 := by
  intro n
  induction n with
  | zero => intro i M h; exact h
  | succ n ih =>
    intro i M h
    refine ih (i + 1) _ ?_
    simp [c_X5_it, c_X10, xnew, h, xD0, xnw_zero]
theorem c_X1_loop_d (rg : Nat) : ∀ (n i : Nat) (M : xMem), M.2 = xD0 → (c_X1_loop rg n i M).2 = xD0 := by
  intro n
  induction n with
  | zero => intro i M h; exact h
  | succ n ih =>
    intro i M h
    refine ih (i + 1) _ ?_
    simp [c_X1_it, c_X2, xnew, h, xD0, xnw_zero]
theorem xnew_d {M : xMem} (h : M.2 = xD0) (kd n : Nat) : (xnew M kd n).2 = xD0 := by simp [xnew, h, xD0, xnw_zero]

theorem c_X10_d {a : Nat} {M : xMem} (h : M.2 = xD0) : (c_X10 a M).2 = xD0 := by simp [c_X10, xnew, h, xD0, xnw_zero]
theorem c_X3_d {a : Nat} {M : xMem} (h : M.2 = xD0) : (c_X3 a M).2 = xD0 := by simp [c_X3, xnew, h, xD0, xnw_zero]
theorem c_X4_d {a : Nat} {M : xMem} (h : M.2 = xD0) : (c_X4 a M).2 = xD0 := by simp [c_X4, xnew, h, xD0, xnw_zero]
theorem c_X8_d {a : Nat} {M : xMem} (h : M.2 = xD0) : (c_X8 a M).2 = xD0 := by simp [c_X8, xnew, h, xD0, xnw_zero]
theorem c_X9_d {a : Nat} {M : xMem} (h : M.2 = xD0) : (c_X9 a M).2 = xD0 := by simp [c_X9, xnew, h, xD0, xnw_zero]
theorem c_X2_d {a N : Nat} {M : xMem} (h : M.2 = xD0) : (c_X2 a M N).2 = xD0 := by simp [c_X2, xnew, h, xD0, xnw_zero]
theorem c_X7_d {a : Nat} {M : xMem} (h : M.2 = xD0) : (c_X7 a M).2 = xD0 := by simp [c_X7, c_X2, xnew, h, xD0, xnw_zero]
theorem c_X6_d {a : Nat} {M : xMem} (h : M.2 = xD0) : (c_X6 a M).2 = xD0 := by simp [c_X6, c_X2, xnew, h, xD0, xnw_zero]
theorem c_X0_d {a : Nat} {M : xMem} (h : M.2 = xD0) : (c_X0 a M).2 = xD0 := by simp [c_X0, c_X8, xnew, h, xD0, xnw_zero]
theorem c_X5_d {a : Nat} {M : xMem} (h : M.2 = xD0) : (c_X5 a M).2 = xD0 := c_X5_loop_d _ _ _ _ (xnew_d h 210 12)
theorem c_X1_d {a : Nat} {M : xMem} (h : M.2 = xD0) : (c_X1 a M).2 = xD0 := c_X1_loop_d _ _ _ _ (by simp [c_X1_0, xnew, h, xD0, xnw_zero])
def c_X11_1 (a : Nat) (M : xMem) : xMem := xnew M 10 3
theorem c_X11_1_at {a : Nat} {M : xMem} {b : Nat} {q : Nat × Nat} (h : M.1.1[b]? = some q) : (c_X11_1 a M).1.1[b]? = some q := by
  unfold c_X11_1
  exact xnew_at h
theorem c_X11_1_d {a : Nat} {M : xMem} (h0 : M.2 = xD0) : (c_X11_1 a M).2 = xD0 := by
  unfold c_X11_1
  exact xnew_d h0 _ _
def c_X11_2 (a : Nat) (M : xMem) : xMem := c_X10 (M.1.1.length) (c_X11_1 a M)
theorem c_X11_2_at {a : Nat} {M : xMem} {b : Nat} {q : Nat × Nat} (h : M.1.1[b]? = some q) : (c_X11_2 a M).1.1[b]? = some q := by
  unfold c_X11_2
  exact c_X10_at (c_X11_1_at h)
theorem c_X11_2_d {a : Nat} {M : xMem} (h0 : M.2 = xD0) : (c_X11_2 a M).2 = xD0 := by
  unfold c_X11_2
  exact c_X10_d (c_X11_1_d h0)
def c_X11_3 (a : Nat) (M : xMem) : xMem := (((c_X11_2 a M).1.1, xup (c_X11_2 a M).1.2 a 0 (some (M.1.1.length))), (c_X11_2 a M).2)
theorem c_X11_3_at {a : Nat} {M : xMem} {b : Nat} {q : Nat × Nat} (h : M.1.1[b]? = some q) : (c_X11_3 a M).1.1[b]? = some q := by
  unfold c_X11_3
  dsimp only
  exact (c_X11_2_at h)
theorem c_X11_3_d {a : Nat} {M : xMem} (h0 : M.2 = xD0) : (c_X11_3 a M).2 = xD0 := by
  unfold c_X11_3
  dsimp only
  exact (c_X11_2_d h0)
def c_X11_4 (a : Nat) (M : xMem) : xMem := xnew (c_X11_3 a M) 5 3
theorem c_X11_4_at {a : Nat} {M : xMem} {b : Nat} {q : Nat × Nat} (h : M.1.1[b]? = some q) : (c_X11_4 a M).1.1[b]? = some q := by
  unfold c_X11_4
  exact xnew_at (c_X11_3_at h)
theorem c_X11_4_d {a : Nat} {M : xMem} (h0 : M.2 = xD0) : (c_X11_4 a M).2 = xD0 := by
  unfold c_X11_4
  exact xnew_d (c_X11_3_d h0) _ _
def c_X11_5 (a : Nat) (M : xMem) : xMem := c_X5 ((c_X11_3 a M).1.1.length) (c_X11_4 a M)
theorem c_X11_5_at {a : Nat} {M : xMem} {b : Nat} {q : Nat × Nat} (h : M.1.1[b]? = some q) : (c_X11_5 a M).1.1[b]? = some q := by
  unfold c_X11_5
  exact c_X5_at (c_X11_4_at h)
theorem c_X11_5_d {a : Nat} {M : xMem} (h0 : M.2 = xD0) : (c_X11_5 a M).2 = xD0 := by
  unfold c_X11_5
  exact c_X5_d (c_X11_4_d h0)
def c_X11_6 (a : Nat) (M : xMem) : xMem := (((c_X11_5 a M).1.1, xup (c_X11_5 a M).1.2 a 1 (some ((c_X11_3 a M).1.1.length))), (c_X11_5 a M).2)
theorem c_X11_6_at {a : Nat} {M : xMem} {b : Nat} {q : Nat × Nat} (h : M.1.1[b]? = some q) : (c_X11_6 a M).1.1[b]? = some q := by
  unfold c_X11_6
  dsimp only
  exact (c_X11_5_at h)
theorem c_X11_6_d {a : Nat} {M : xMem} (h0 : M.2 = xD0) : (c_X11_6 a M).2 = xD0 := by
  unfold c_X11_6
  dsimp only
  exact (c_X11_5_d h0)
def c_X11_7 (a : Nat) (M : xMem) : xMem := xnew (c_X11_6 a M) 1 6
theorem c_X11_7_at {a : Nat} {M : xMem} {b : Nat} {q : Nat × Nat} (h : M.1.1[b]? = some q) : (c_X11_7 a M).1.1[b]? = some q := by
  unfold c_X11_7
  exact xnew_at (c_X11_6_at h)
theorem c_X11_7_d {a : Nat} {M : xMem} (h0 : M.2 = xD0) : (c_X11_7 a M).2 = xD0 := by
  unfold c_X11_7
  exact xnew_d (c_X11_6_d h0) _ _
def c_X11_8 (a : Nat) (M : xMem) : xMem := c_X1 ((c_X11_6 a M).1.1.length) (c_X11_7 a M)
theorem c_X11_8_at {a : Nat} {M : xMem} {b : Nat} {q : Nat × Nat} (h : M.1.1[b]? = some q) : (c_X11_8 a M).1.1[b]? = some q := by
  unfold c_X11_8
  exact c_X1_at (c_X11_7_at h)
theorem c_X11_8_d {a : Nat} {M : xMem} (h0 : M.2 = xD0) : (c_X11_8 a M).2 = xD0 := by
  unfold c_X11_8
  exact c_X1_d (c_X11_7_d h0)
def c_X11_9 (a : Nat) (M : xMem) : xMem := (((c_X11_8 a M).1.1, xup (c_X11_8 a M).1.2 a 2 (some ((c_X11_6 a M).1.1.length))), (c_X11_8 a M).2)
theorem c_X11_9_at {a : Nat} {M : xMem} {b : Nat} {q : Nat × Nat} (h : M.1.1[b]? = some q) : (c_X11_9 a M).1.1[b]? = some q := by
  unfold c_X11_9
  dsimp only
  exact (c_X11_8_at h)
theorem c_X11_9_d {a : Nat} {M : xMem} (h0 : M.2 = xD0) : (c_X11_9 a M).2 = xD0 := by
  unfold c_X11_9
  dsimp only
  exact (c_X11_8_d h0)
def c_X11_10 (a : Nat) (M : xMem) : xMem := xnew (c_X11_9 a M) 6 13
theorem c_X11_10_at {a : Nat} {M : xMem} {b : Nat} {q : Nat × Nat} (h : M.1.1[b]? = some q) : (c_X11_10 a M).1.1[b]? = some q := by
  unfold c_X11_10
  exact xnew_at (c_X11_9_at h)
theorem c_X11_10_d {a : Nat} {M : xMem} (h0 : M.2 = xD0) : (c_X11_10 a M).2 = xD0 := by
  unfold c_X11_10
  exact xnew_d (c_X11_9_d h0) _ _
def c_X11_11 (a : Nat) (M : xMem) : xMem := c_X6 ((c_X11_9 a M).1.1.length) (c_X11_10 a M)
theorem c_X11_11_at {a : Nat} {M : xMem} {b : Nat} {q : Nat × Nat} (h : M.1.1[b]? = some q) : (c_X11_11 a M).1.1[b]? = some q := by
  unfold c_X11_11
  exact c_X6_at (c_X11_10_at h)
theorem c_X11_11_d {a : Nat} {M : xMem} (h0 : M.2 = xD0) : (c_X11_11 a M).2 = xD0 := by
  unfold c_X11_11
  exact c_X6_d (c_X11_10_d h0)
def c_X11_12 (a : Nat) (M : xMem) : xMem := (((c_X11_11 a M).1.1, xup (c_X11_11 a M).1.2 a 3 (some ((c_X11_9 a M).1.1.length))), (c_X11_11 a M).2)
theorem c_X11_12_at {a : Nat} {M : xMem} {b : Nat} {q : Nat × Nat} (h : M.1.1[b]? = some q) : (c_X11_12 a M).1.1[b]? = some q := by
  unfold c_X11_12
  dsimp only
  exact (c_X11_11_at h)
theorem c_X11_12_d {a : Nat} {M : xMem} (h0 : M.2 = xD0) : (c_X11_12 a M).2 = xD0 := by
  unfold c_X11_12
  dsimp only
  exact (c_X11_11_d h0)
def c_X11_13 (a : Nat) (M : xMem) : xMem := xnew (c_X11_12 a M) 2 2
theorem c_X11_13_at {a : Nat} {M : xMem} {b : Nat} {q : Nat × Nat} (h : M.1.1[b]? = some q) : (c_X11_13 a M).1.1[b]? = some q := by
  unfold c_X11_13
  exact xnew_at (c_X11_12_at h)
theorem c_X11_13_d {a : Nat} {M : xMem} (h0 : M.2 = xD0) : (c_X11_13 a M).2 = xD0 := by
  unfold c_X11_13
  exact xnew_d (c_X11_12_d h0) _ _
def c_X11_14 (a : Nat) (M : xMem) : xMem := c_X2 ((c_X11_12 a M).1.1.length) (c_X11_13 a M) 2000
theorem c_X11_14_at {a : Nat} {M : xMem} {b : Nat} {q : Nat × Nat} (h : M.1.1[b]? = some q) : (c_X11_14 a M).1.1[b]? = some q := by
  unfold c_X11_14
  exact c_X2_at (c_X11_13_at h)
theorem c_X11_14_d {a : Nat} {M : xMem} (h0 : M.2 = xD0) : (c_X11_14 a M).2 = xD0 := by
  unfold c_X11_14
  exact c_X2_d (c_X11_13_d h0)
def c_X11_15 (a : Nat) (M : xMem) : xMem := (((c_X11_14 a M).1.1, xup (c_X11_14 a M).1.2 a 4 (some ((c_X11_12 a M).1.1.length))), (c_X11_14 a M).2)
theorem c_X11_15_at {a : Nat} {M : xMem} {b : Nat} {q : Nat × Nat} (h : M.1.1[b]? = some q) : (c_X11_15 a M).1.1[b]? = some q := by
  unfold c_X11_15
  dsimp only
  exact (c_X11_14_at h)
theorem c_X11_15_d {a : Nat} {M : xMem} (h0 : M.2 = xD0) : (c_X11_15 a M).2 = xD0 := by
  unfold c_X11_15
  dsimp only
  exact (c_X11_14_d h0)
def c_X11_16 (a : Nat) (M : xMem) : xMem := xnew (c_X11_15 a M) 9 4
theorem c_X11_16_at {a : Nat} {M : xMem} {b : Nat} {q : Nat × Nat} (h : M.1.1[b]? = some q) : (c_X11_16 a M).1.1[b]? = some q := by
  unfold c_X11_16
  exact xnew_at (c_X11_15_at h)
theorem c_X11_16_d {a : Nat} {M : xMem} (h0 : M.2 = xD0) : (c_X11_16 a M).2 = xD0 := by
  unfold c_X11_16
  exact xnew_d (c_X11_15_d h0) _ _
def c_X11_17 (a : Nat) (M : xMem) : xMem := c_X9 ((c_X11_15 a M).1.1.length) (c_X11_16 a M)
theorem c_X11_17_at {a : Nat} {M : xMem} {b : Nat} {q : Nat × Nat} (h : M.1.1[b]? = some q) : (c_X11_17 a M).1.1[b]? = some q := by
  unfold c_X11_17
  exact c_X9_at (c_X11_16_at h)
theorem c_X11_17_d {a : Nat} {M : xMem} (h0 : M.2 = xD0) : (c_X11_17 a M).2 = xD0 := by
  unfold c_X11_17
  exact c_X9_d (c_X11_16_d h0)
def c_X11_18 (a : Nat) (M : xMem) : xMem := (((c_X11_17 a M).1.1, xup (c_X11_17 a M).1.2 a 5 (some ((c_X11_15 a M).1.1.length))), (c_X11_17 a M).2)
theorem c_X11_18_at {a : Nat} {M : xMem} {b : Nat} {q : Nat × Nat} (h : M.1.1[b]? = some q) : (c_X11_18 a M).1.1[b]? = some q := by
  unfold c_X11_18
  dsimp only
  exact (c_X11_17_at h)
theorem c_X11_18_d {a : Nat} {M : xMem} (h0 : M.2 = xD0) : (c_X11_18 a M).2 = xD0 := by
  unfold c_X11_18
  dsimp only
  exact (c_X11_17_d h0)
def c_X11_19 (a : Nat) (M : xMem) : xMem := xnew (c_X11_18 a M) 3 6
theorem c_X11_19_at {a : Nat} {M : xMem} {b : Nat} {q : Nat × Nat} (h : M.1.1[b]? = some q) : (c_X11_19 a M).1.1[b]? = some q := by
  unfold c_X11_19
  exact xnew_at (c_X11_18_at h)
theorem c_X11_19_d {a : Nat} {M : xMem} (h0 : M.2 = xD0) : (c_X11_19 a M).2 = xD0 := by
  unfold c_X11_19
  exact xnew_d (c_X11_18_d h0) _ _
def c_X11_20 (a : Nat) (M : xMem) : xMem := c_X3 ((c_X11_18 a M).1.1.length) (c_X11_19 a M)
theorem c_X11_20_at {a : Nat} {M : xMem} {b : Nat} {q : Nat × Nat} (h : M.1.1[b]? = some q) : (c_X11_20 a M).1.1[b]? = some q := by
  unfold c_X11_20
  exact c_X3_at (c_X11_19_at h)
theorem c_X11_20_d {a : Nat} {M : xMem} (h0 : M.2 = xD0) : (c_X11_20 a M).2 = xD0 := by
  unfold c_X11_20
  exact c_X3_d (c_X11_19_d h0)
def c_X11_21 (a : Nat) (M : xMem) : xMem := (((c_X11_20 a M).1.1, xup (c_X11_20 a M).1.2 a 6 (some ((c_X11_18 a M).1.1.length))), (c_X11_20 a M).2)
theorem c_X11_21_at {a : Nat} {M : xMem} {b : Nat} {q : Nat × Nat} (h : M.1.1[b]? = some q) : (c_X11_21 a M).1.1[b]? = some q := by
  unfold c_X11_21
  dsimp only
  exact (c_X11_20_at h)
theorem c_X11_21_d {a : Nat} {M : xMem} (h0 : M.2 = xD0) : (c_X11_21 a M).2 = xD0 := by
  unfold c_X11_21
  dsimp only
  exact (c_X11_20_d h0)
def c_X11_22 (a : Nat) (M : xMem) : xMem := xnew (c_X11_21 a M) 4 4
theorem c_X11_22_at {a : Nat} {M : xMem} {b : Nat} {q : Nat × Nat} (h : M.1.1[b]? = some q) : (c_X11_22 a M).1.1[b]? = some q := by
  unfold c_X11_22
  exact xnew_at (c_X11_21_at h)
theorem c_X11_22_d {a : Nat} {M : xMem} (h0 : M.2 = xD0) : (c_X11_22 a M).2 = xD0 := by
  unfold c_X11_22
  exact xnew_d (c_X11_21_d h0) _ _
def c_X11_23 (a : Nat) (M : xMem) : xMem := c_X4 ((c_X11_21 a M).1.1.length) (c_X11_22 a M)
theorem c_X11_23_at {a : Nat} {M : xMem} {b : Nat} {q : Nat × Nat} (h : M.1.1[b]? = some q) : (c_X11_23 a M).1.1[b]? = some q := by
  unfold c_X11_23
  exact c_X4_at (c_X11_22_at h)
theorem c_X11_23_d {a : Nat} {M : xMem} (h0 : M.2 = xD0) : (c_X11_23 a M).2 = xD0 := by
  unfold c_X11_23
  exact c_X4_d (c_X11_22_d h0)
def c_X11_24 (a : Nat) (M : xMem) : xMem := (((c_X11_23 a M).1.1, xup (c_X11_23 a M).1.2 a 7 (some ((c_X11_21 a M).1.1.length))), (c_X11_23 a M).2)
theorem c_X11_24_at {a : Nat} {M : xMem} {b : Nat} {q : Nat × Nat} (h : M.1.1[b]? = some q) : (c_X11_24 a M).1.1[b]? = some q := by
  unfold c_X11_24
  dsimp only
  exact (c_X11_23_at h)
theorem c_X11_24_d {a : Nat} {M : xMem} (h0 : M.2 = xD0) : (c_X11_24 a M).2 = xD0 := by
  unfold c_X11_24
  dsimp only
  exact (c_X11_23_d h0)
def c_X11_25 (a : Nat) (M : xMem) : xMem := xnew (c_X11_24 a M) 7 5
theorem c_X11_25_at {a : Nat} {M : xMem} {b : Nat} {q : Nat × Nat} (h : M.1.1[b]? = some q) : (c_X11_25 a M).1.1[b]? = some q := by
  unfold c_X11_25
  exact xnew_at (c_X11_24_at h)
theorem c_X11_25_d {a : Nat} {M : xMem} (h0 : M.2 = xD0) : (c_X11_25 a M).2 = xD0 := by
  unfold c_X11_25
  exact xnew_d (c_X11_24_d h0) _ _
def c_X11_26 (a : Nat) (M : xMem) : xMem := c_X7 ((c_X11_24 a M).1.1.length) (c_X11_25 a M)
theorem c_X11_26_at {a : Nat} {M : xMem} {b : Nat} {q : Nat × Nat} (h : M.1.1[b]? = some q) : (c_X11_26 a M).1.1[b]? = some q := by
  unfold c_X11_26
  exact c_X7_at (c_X11_25_at h)
theorem c_X11_26_d {a : Nat} {M : xMem} (h0 : M.2 = xD0) : (c_X11_26 a M).2 = xD0 := by
  unfold c_X11_26
  exact c_X7_d (c_X11_25_d h0)
def c_X11_27 (a : Nat) (M : xMem) : xMem := (((c_X11_26 a M).1.1, xup (c_X11_26 a M).1.2 a 8 (some ((c_X11_24 a M).1.1.length))), (c_X11_26 a M).2)
theorem c_X11_27_at {a : Nat} {M : xMem} {b : Nat} {q : Nat × Nat} (h : M.1.1[b]? = some q) : (c_X11_27 a M).1.1[b]? = some q := by
  unfold c_X11_27
  dsimp only
  exact (c_X11_26_at h)
theorem c_X11_27_d {a : Nat} {M : xMem} (h0 : M.2 = xD0) : (c_X11_27 a M).2 = xD0 := by
  unfold c_X11_27
  dsimp only
  exact (c_X11_26_d h0)
def c_X11_28 (a : Nat) (M : xMem) : xMem := xnew (c_X11_27 a M) 0 10
theorem c_X11_28_at {a : Nat} {M : xMem} {b : Nat} {q : Nat × Nat} (h : M.1.1[b]? = some q) : (c_X11_28 a M).1.1[b]? = some q := by
  unfold c_X11_28
  exact xnew_at (c_X11_27_at h)
theorem c_X11_28_d {a : Nat} {M : xMem} (h0 : M.2 = xD0) : (c_X11_28 a M).2 = xD0 := by
  unfold c_X11_28
  exact xnew_d (c_X11_27_d h0) _ _
def c_X11_29 (a : Nat) (M : xMem) : xMem := c_X0 ((c_X11_27 a M).1.1.length) (c_X11_28 a M)
theorem c_X11_29_at {a : Nat} {M : xMem} {b : Nat} {q : Nat × Nat} (h : M.1.1[b]? = some q) : (c_X11_29 a M).1.1[b]? = some q := by
  unfold c_X11_29
  exact c_X0_at (c_X11_28_at h)
theorem c_X11_29_d {a : Nat} {M : xMem} (h0 : M.2 = xD0) : (c_X11_29 a M).2 = xD0 := by
  unfold c_X11_29
  exact c_X0_d (c_X11_28_d h0)
def c_X11_30 (a : Nat) (M : xMem) : xMem := (((c_X11_29 a M).1.1, xup (c_X11_29 a M).1.2 a 9 (some ((c_X11_27 a M).1.1.length))), (c_X11_29 a M).2)
theorem c_X11_30_at {a : Nat} {M : xMem} {b : Nat} {q : Nat × Nat} (h : M.1.1[b]? = some q) : (c_X11_30 a M).1.1[b]? = some q := by
  unfold c_X11_30
  dsimp only
  exact (c_X11_29_at h)
theorem c_X11_30_d {a : Nat} {M : xMem} (h0 : M.2 = xD0) : (c_X11_30 a M).2 = xD0 := by
  unfold c_X11_30
  dsimp only
  exact (c_X11_29_d h0)
def c_X11_31 (a : Nat) (M : xMem) : xMem := xnew (c_X11_30 a M) 100 64
theorem c_X11_31_at {a : Nat} {M : xMem} {b : Nat} {q : Nat × Nat} (h : M.1.1[b]? = some q) : (c_X11_31 a M).1.1[b]? = some q := by
  unfold c_X11_31
  exact xnew_at (c_X11_30_at h)
theorem c_X11_31_d {a : Nat} {M : xMem} (h0 : M.2 = xD0) : (c_X11_31 a M).2 = xD0 := by
  unfold c_X11_31
  exact xnew_d (c_X11_30_d h0) _ _
def c_X11_32 (a : Nat) (M : xMem) : xMem := (((c_X11_31 a M).1.1, xup (c_X11_31 a M).1.2 a 10 (some ((c_X11_30 a M).1.1.length))), (c_X11_31 a M).2)
theorem c_X11_32_at {a : Nat} {M : xMem} {b : Nat} {q : Nat × Nat} (h : M.1.1[b]? = some q) : (c_X11_32 a M).1.1[b]? = some q := by
  unfold c_X11_32
  dsimp only
  exact (c_X11_31_at h)
theorem c_X11_32_d {a : Nat} {M : xMem} (h0 : M.2 = xD0) : (c_X11_32 a M).2 = xD0 := by
  unfold c_X11_32
  dsimp only
  exact (c_X11_31_d h0)
def c_X11_33 (a : Nat) (M : xMem) : xMem := xnew (c_X11_32 a M) 100 2000
theorem c_X11_33_at {a : Nat} {M : xMem} {b : Nat} {q : Nat × Nat} (h : M.1.1[b]? = some q) : (c_X11_33 a M).1.1[b]? = some q := by
  unfold c_X11_33
  exact xnew_at (c_X11_32_at h)
theorem c_X11_33_d {a : Nat} {M : xMem} (h0 : M.2 = xD0) : (c_X11_33 a M).2 = xD0 := by
  unfold c_X11_33
  exact xnew_d (c_X11_32_d h0) _ _
def c_X11_34 (a : Nat) (M : xMem) : xMem := (((c_X11_33 a M).1.1, xup (c_X11_33 a M).1.2 a 11 (some ((c_X11_32 a M).1.1.length))), (c_X11_33 a M).2)
theorem c_X11_34_at {a : Nat} {M : xMem} {b : Nat} {q : Nat × Nat} (h : M.1.1[b]? = some q) : (c_X11_34 a M).1.1[b]? = some q := by
  unfold c_X11_34
  dsimp only
  exact (c_X11_33_at h)
theorem c_X11_34_d {a : Nat} {M : xMem} (h0 : M.2 = xD0) : (c_X11_34 a M).2 = xD0 := by
  unfold c_X11_34
  dsimp only
  exact (c_X11_33_d h0)
def c_X11 (a : Nat) (M : xMem) : xMem := c_X11_34 a M
theorem c_X11_dd {a : Nat} {M : xMem} (h0 : M.2 = xD0) : (c_X11 a M).2 = xD0 := by
  unfold c_X11
  exact c_X11_34_d h0
theorem c_X11_d : (c_X11 0 xM0).2 = xD0 := c_X11_dd (xnew_d rfl 11 15)
