abbrev md_X12_init : xMd := (yX12_init, cX12_init, 1, none)
theorem wd_1144 : (Jvm.Cond.methodLink "KnowledgeRoomModel" (65 : Nat) ({ cls := "java/lang/Object", name := "<init>", desc := "()V" } : Jvm.MethodName)) ∈ xTG := xmem 1144 (by decide +kernel) (by decide +kernel)
theorem wd_964 : (Jvm.Cond.arrayClass Jvm.ClassFile.FieldType.byte) ∈ xTG := xmem 964 (by decide +kernel) (by decide +kernel)
/-- behind the cells all is 0 -/
def xcl (M : xMem) (D : xDt) : Prop := M.2 = D ∧ ∀ x, M.1.1.length ≤ x → D.1 x = (fun _ => 0) ∧ D.2 x = (fun _ => 0)
theorem xnw_id {α : Type} {f : Nat → Nat → α} {a : Nat} {v : α} (h : f a = fun _ => v) : xnw f a v = f := by
  funext x
  by_cases hx : x = a
  · subst hx; rw [xnw_eq, h]
  · rw [xnw_ne _ _ _ hx]
theorem xnew_cl {M : xMem} {D : xDt} (h : xcl M D) (kd n : Nat) : xcl (xnew M kd n) D := by
  obtain ⟨h1, h2⟩ := h
  subst h1
  refine ⟨?_, fun x hx => h2 x ?_⟩
  · have q := h2 M.1.1.length (Nat.le_refl _)
    show (xnw M.2.1 M.1.1.length 0, xnw M.2.2 M.1.1.length 0) = M.2
    rw [xnw_id q.1, xnw_id q.2]
  · rw [xnew_len] at hx; omega
def c_X12_1 (a : Nat) (M : xMem) : xMem := xnew M 100 64
theorem c_X12_1_at {a : Nat} {M : xMem} {b : Nat} {q : Nat × Nat} (h : M.1.1[b]? = some q) : (c_X12_1 a M).1.1[b]? = some q := by
  unfold c_X12_1
  exact xnew_at h
theorem c_X12_1_cl {a : Nat} {M : xMem} {D : xDt} (h0 : xcl M D) : xcl (c_X12_1 a M) D := by
  unfold c_X12_1
  exact xnew_cl h0 _ _
def c_X12_2 (a : Nat) (M : xMem) : xMem := (((c_X12_1 a M).1.1, xup (c_X12_1 a M).1.2 a 2 (some (M.1.1.length))), (c_X12_1 a M).2)
theorem c_X12_2_at {a : Nat} {M : xMem} {b : Nat} {q : Nat × Nat} (h : M.1.1[b]? = some q) : (c_X12_2 a M).1.1[b]? = some q := by
  unfold c_X12_2
  dsimp only
  exact (c_X12_1_at h)
theorem c_X12_2_cl {a : Nat} {M : xMem} {D : xDt} (h0 : xcl M D) : xcl (c_X12_2 a M) D := by
  unfold c_X12_2
  refine ⟨?_, ?_⟩
  · dsimp only; exact (c_X12_1_cl h0).1
  · dsimp only; exact (c_X12_1_cl h0).2
def c_X12_3 (a : Nat) (M : xMem) : xMem := xnew (c_X12_2 a M) 100 256
theorem c_X12_3_at {a : Nat} {M : xMem} {b : Nat} {q : Nat × Nat} (h : M.1.1[b]? = some q) : (c_X12_3 a M).1.1[b]? = some q := by
  unfold c_X12_3
  exact xnew_at (c_X12_2_at h)
theorem c_X12_3_cl {a : Nat} {M : xMem} {D : xDt} (h0 : xcl M D) : xcl (c_X12_3 a M) D := by
  unfold c_X12_3
  exact xnew_cl (c_X12_2_cl h0) _ _
def c_X12_4 (a : Nat) (M : xMem) : xMem := (((c_X12_3 a M).1.1, xup (c_X12_3 a M).1.2 a 3 (some ((c_X12_2 a M).1.1.length))), (c_X12_3 a M).2)
theorem c_X12_4_at {a : Nat} {M : xMem} {b : Nat} {q : Nat × Nat} (h : M.1.1[b]? = some q) : (c_X12_4 a M).1.1[b]? = some q := by
  unfold c_X12_4
  dsimp only
  exact (c_X12_3_at h)
theorem c_X12_4_cl {a : Nat} {M : xMem} {D : xDt} (h0 : xcl M D) : xcl (c_X12_4 a M) D := by
  unfold c_X12_4
  refine ⟨?_, ?_⟩
  · dsimp only; exact (c_X12_3_cl h0).1
  · dsimp only; exact (c_X12_3_cl h0).2
def c_X12_5 (a : Nat) (M : xMem) : xMem := xnew (c_X12_4 a M) 100 12
theorem c_X12_5_at {a : Nat} {M : xMem} {b : Nat} {q : Nat × Nat} (h : M.1.1[b]? = some q) : (c_X12_5 a M).1.1[b]? = some q := by
  unfold c_X12_5
  exact xnew_at (c_X12_4_at h)
theorem c_X12_5_cl {a : Nat} {M : xMem} {D : xDt} (h0 : xcl M D) : xcl (c_X12_5 a M) D := by
  unfold c_X12_5
  exact xnew_cl (c_X12_4_cl h0) _ _
def c_X12_6 (a : Nat) (M : xMem) : xMem := (((c_X12_5 a M).1.1, xup (c_X12_5 a M).1.2 a 4 (some ((c_X12_4 a M).1.1.length))), (c_X12_5 a M).2)
theorem c_X12_6_at {a : Nat} {M : xMem} {b : Nat} {q : Nat × Nat} (h : M.1.1[b]? = some q) : (c_X12_6 a M).1.1[b]? = some q := by
  unfold c_X12_6
  dsimp only
  exact (c_X12_5_at h)
theorem c_X12_6_cl {a : Nat} {M : xMem} {D : xDt} (h0 : xcl M D) : xcl (c_X12_6 a M) D := by
  unfold c_X12_6
  refine ⟨?_, ?_⟩
  · dsimp only; exact (c_X12_5_cl h0).1
  · dsimp only; exact (c_X12_5_cl h0).2
def c_X12_7 (a : Nat) (M : xMem) : xMem := xnew (c_X12_6 a M) 100 768
theorem c_X12_7_at {a : Nat} {M : xMem} {b : Nat} {q : Nat × Nat} (h : M.1.1[b]? = some q) : (c_X12_7 a M).1.1[b]? = some q := by
  unfold c_X12_7
  exact xnew_at (c_X12_6_at h)
theorem c_X12_7_cl {a : Nat} {M : xMem} {D : xDt} (h0 : xcl M D) : xcl (c_X12_7 a M) D := by
  unfold c_X12_7
  exact xnew_cl (c_X12_6_cl h0) _ _
def c_X12_8 (a : Nat) (M : xMem) : xMem := (((c_X12_7 a M).1.1, xup (c_X12_7 a M).1.2 a 5 (some ((c_X12_6 a M).1.1.length))), (c_X12_7 a M).2)
theorem c_X12_8_at {a : Nat} {M : xMem} {b : Nat} {q : Nat × Nat} (h : M.1.1[b]? = some q) : (c_X12_8 a M).1.1[b]? = some q := by
  unfold c_X12_8
  dsimp only
  exact (c_X12_7_at h)
theorem c_X12_8_cl {a : Nat} {M : xMem} {D : xDt} (h0 : xcl M D) : xcl (c_X12_8 a M) D := by
  unfold c_X12_8
  refine ⟨?_, ?_⟩
  · dsimp only; exact (c_X12_7_cl h0).1
  · dsimp only; exact (c_X12_7_cl h0).2
def c_X12_9 (a : Nat) (M : xMem) : xMem := xnew (c_X12_8 a M) 100 3072
theorem c_X12_9_at {a : Nat} {M : xMem} {b : Nat} {q : Nat × Nat} (h : M.1.1[b]? = some q) : (c_X12_9 a M).1.1[b]? = some q := by
  unfold c_X12_9
  exact xnew_at (c_X12_8_at h)
theorem c_X12_9_cl {a : Nat} {M : xMem} {D : xDt} (h0 : xcl M D) : xcl (c_X12_9 a M) D := by
  unfold c_X12_9
  exact xnew_cl (c_X12_8_cl h0) _ _
def c_X12_10 (a : Nat) (M : xMem) : xMem := (((c_X12_9 a M).1.1, xup (c_X12_9 a M).1.2 a 6 (some ((c_X12_8 a M).1.1.length))), (c_X12_9 a M).2)
theorem c_X12_10_at {a : Nat} {M : xMem} {b : Nat} {q : Nat × Nat} (h : M.1.1[b]? = some q) : (c_X12_10 a M).1.1[b]? = some q := by
  unfold c_X12_10
  dsimp only
  exact (c_X12_9_at h)
theorem c_X12_10_cl {a : Nat} {M : xMem} {D : xDt} (h0 : xcl M D) : xcl (c_X12_10 a M) D := by
  unfold c_X12_10
  refine ⟨?_, ?_⟩
  · dsimp only; exact (c_X12_9_cl h0).1
  · dsimp only; exact (c_X12_9_cl h0).2
def c_X12_11 (a : Nat) (M : xMem) : xMem := xnew (c_X12_10 a M) 100 92800
theorem c_X12_11_at {a : Nat} {M : xMem} {b : Nat} {q : Nat × Nat} (h : M.1.1[b]? = some q) : (c_X12_11 a M).1.1[b]? = some q := by
  unfold c_X12_11
  exact xnew_at (c_X12_10_at h)
theorem c_X12_11_cl {a : Nat} {M : xMem} {D : xDt} (h0 : xcl M D) : xcl (c_X12_11 a M) D := by
  unfold c_X12_11
  exact xnew_cl (c_X12_10_cl h0) _ _
def c_X12_12 (a : Nat) (M : xMem) : xMem := (((c_X12_11 a M).1.1, xup (c_X12_11 a M).1.2 a 8 (some ((c_X12_10 a M).1.1.length))), (c_X12_11 a M).2)
theorem c_X12_12_at {a : Nat} {M : xMem} {b : Nat} {q : Nat × Nat} (h : M.1.1[b]? = some q) : (c_X12_12 a M).1.1[b]? = some q := by
  unfold c_X12_12
  dsimp only
  exact (c_X12_11_at h)
theorem c_X12_12_cl {a : Nat} {M : xMem} {D : xDt} (h0 : xcl M D) : xcl (c_X12_12 a M) D := by
  unfold c_X12_12
  refine ⟨?_, ?_⟩
  · dsimp only; exact (c_X12_11_cl h0).1
  · dsimp only; exact (c_X12_11_cl h0).2
def c_X12_13 (a : Nat) (M : xMem) : xMem := xnew (c_X12_12 a M) 100 92800
theorem c_X12_13_at {a : Nat} {M : xMem} {b : Nat} {q : Nat × Nat} (h : M.1.1[b]? = some q) : (c_X12_13 a M).1.1[b]? = some q := by
  unfold c_X12_13
  exact xnew_at (c_X12_12_at h)
theorem c_X12_13_cl {a : Nat} {M : xMem} {D : xDt} (h0 : xcl M D) : xcl (c_X12_13 a M) D := by
  unfold c_X12_13
  exact xnew_cl (c_X12_12_cl h0) _ _
def c_X12_14 (a : Nat) (M : xMem) : xMem := (((c_X12_13 a M).1.1, xup (c_X12_13 a M).1.2 a 9 (some ((c_X12_12 a M).1.1.length))), (c_X12_13 a M).2)
theorem c_X12_14_at {a : Nat} {M : xMem} {b : Nat} {q : Nat × Nat} (h : M.1.1[b]? = some q) : (c_X12_14 a M).1.1[b]? = some q := by
  unfold c_X12_14
  dsimp only
  exact (c_X12_13_at h)
theorem c_X12_14_cl {a : Nat} {M : xMem} {D : xDt} (h0 : xcl M D) : xcl (c_X12_14 a M) D := by
  unfold c_X12_14
  refine ⟨?_, ?_⟩
  · dsimp only; exact (c_X12_13_cl h0).1
  · dsimp only; exact (c_X12_13_cl h0).2
def c_X12_15 (a : Nat) (M : xMem) : xMem := xnew (c_X12_14 a M) 100 92800
theorem c_X12_15_at {a : Nat} {M : xMem} {b : Nat} {q : Nat × Nat} (h : M.1.1[b]? = some q) : (c_X12_15 a M).1.1[b]? = some q := by
  unfold c_X12_15
  exact xnew_at (c_X12_14_at h)
theorem c_X12_15_cl {a : Nat} {M : xMem} {D : xDt} (h0 : xcl M D) : xcl (c_X12_15 a M) D := by
  unfold c_X12_15
  exact xnew_cl (c_X12_14_cl h0) _ _
def c_X12_16 (a : Nat) (M : xMem) : xMem := (((c_X12_15 a M).1.1, xup (c_X12_15 a M).1.2 a 10 (some ((c_X12_14 a M).1.1.length))), (c_X12_15 a M).2)
theorem c_X12_16_at {a : Nat} {M : xMem} {b : Nat} {q : Nat × Nat} (h : M.1.1[b]? = some q) : (c_X12_16 a M).1.1[b]? = some q := by
  unfold c_X12_16
  dsimp only
  exact (c_X12_15_at h)
theorem c_X12_16_cl {a : Nat} {M : xMem} {D : xDt} (h0 : xcl M D) : xcl (c_X12_16 a M) D := by
  unfold c_X12_16
  refine ⟨?_, ?_⟩
  · dsimp only; exact (c_X12_15_cl h0).1
  · dsimp only; exact (c_X12_15_cl h0).2
def c_X12_17 (a : Nat) (M : xMem) : xMem := xnew (c_X12_16 a M) 100 92800
theorem c_X12_17_at {a : Nat} {M : xMem} {b : Nat} {q : Nat × Nat} (h : M.1.1[b]? = some q) : (c_X12_17 a M).1.1[b]? = some q := by
  unfold c_X12_17
  exact xnew_at (c_X12_16_at h)
theorem c_X12_17_cl {a : Nat} {M : xMem} {D : xDt} (h0 : xcl M D) : xcl (c_X12_17 a M) D := by
  unfold c_X12_17
  exact xnew_cl (c_X12_16_cl h0) _ _
def c_X12_18 (a : Nat) (M : xMem) : xMem := (((c_X12_17 a M).1.1, xup (c_X12_17 a M).1.2 a 11 (some ((c_X12_16 a M).1.1.length))), (c_X12_17 a M).2)
theorem c_X12_18_at {a : Nat} {M : xMem} {b : Nat} {q : Nat × Nat} (h : M.1.1[b]? = some q) : (c_X12_18 a M).1.1[b]? = some q := by
  unfold c_X12_18
  dsimp only
  exact (c_X12_17_at h)
theorem c_X12_18_cl {a : Nat} {M : xMem} {D : xDt} (h0 : xcl M D) : xcl (c_X12_18 a M) D := by
  unfold c_X12_18
  refine ⟨?_, ?_⟩
  · dsimp only; exact (c_X12_17_cl h0).1
  · dsimp only; exact (c_X12_17_cl h0).2
def c_X12_19 (a : Nat) (M : xMem) : xMem := xnew (c_X12_18 a M) 100 92800
theorem c_X12_19_at {a : Nat} {M : xMem} {b : Nat} {q : Nat × Nat} (h : M.1.1[b]? = some q) : (c_X12_19 a M).1.1[b]? = some q := by
  unfold c_X12_19
  exact xnew_at (c_X12_18_at h)
theorem c_X12_19_cl {a : Nat} {M : xMem} {D : xDt} (h0 : xcl M D) : xcl (c_X12_19 a M) D := by
  unfold c_X12_19
  exact xnew_cl (c_X12_18_cl h0) _ _
def c_X12_20 (a : Nat) (M : xMem) : xMem := (((c_X12_19 a M).1.1, xup (c_X12_19 a M).1.2 a 12 (some ((c_X12_18 a M).1.1.length))), (c_X12_19 a M).2)
theorem c_X12_20_at {a : Nat} {M : xMem} {b : Nat} {q : Nat × Nat} (h : M.1.1[b]? = some q) : (c_X12_20 a M).1.1[b]? = some q := by
  unfold c_X12_20
  dsimp only
  exact (c_X12_19_at h)
theorem c_X12_20_cl {a : Nat} {M : xMem} {D : xDt} (h0 : xcl M D) : xcl (c_X12_20 a M) D := by
  unfold c_X12_20
  refine ⟨?_, ?_⟩
  · dsimp only; exact (c_X12_19_cl h0).1
  · dsimp only; exact (c_X12_19_cl h0).2
def c_X12_21 (a : Nat) (M : xMem) : xMem := xnew (c_X12_20 a M) 103 200
theorem c_X12_21_at {a : Nat} {M : xMem} {b : Nat} {q : Nat × Nat} (h : M.1.1[b]? = some q) : (c_X12_21 a M).1.1[b]? = some q := by
  unfold c_X12_21
  exact xnew_at (c_X12_20_at h)
theorem c_X12_21_cl {a : Nat} {M : xMem} {D : xDt} (h0 : xcl M D) : xcl (c_X12_21 a M) D := by
  unfold c_X12_21
  exact xnew_cl (c_X12_20_cl h0) _ _
def c_X12_22 (a : Nat) (M : xMem) : xMem := (((c_X12_21 a M).1.1, xup (c_X12_21 a M).1.2 a 15 (some ((c_X12_20 a M).1.1.length))), (c_X12_21 a M).2)
theorem c_X12_22_at {a : Nat} {M : xMem} {b : Nat} {q : Nat × Nat} (h : M.1.1[b]? = some q) : (c_X12_22 a M).1.1[b]? = some q := by
  unfold c_X12_22
  dsimp only
  exact (c_X12_21_at h)
theorem c_X12_22_cl {a : Nat} {M : xMem} {D : xDt} (h0 : xcl M D) : xcl (c_X12_22 a M) D := by
  unfold c_X12_22
  refine ⟨?_, ?_⟩
  · dsimp only; exact (c_X12_21_cl h0).1
  · dsimp only; exact (c_X12_21_cl h0).2
def c_X12_23 (a : Nat) (M : xMem) : xMem := xnew (c_X12_22 a M) 103 20000
theorem c_X12_23_at {a : Nat} {M : xMem} {b : Nat} {q : Nat × Nat} (h : M.1.1[b]? = some q) : (c_X12_23 a M).1.1[b]? = some q := by
  unfold c_X12_23
  exact xnew_at (c_X12_22_at h)
theorem c_X12_23_cl {a : Nat} {M : xMem} {D : xDt} (h0 : xcl M D) : xcl (c_X12_23 a M) D := by
  unfold c_X12_23
  exact xnew_cl (c_X12_22_cl h0) _ _
def c_X12_24 (a : Nat) (M : xMem) : xMem := (((c_X12_23 a M).1.1, xup (c_X12_23 a M).1.2 a 20 (some ((c_X12_22 a M).1.1.length))), (c_X12_23 a M).2)
theorem c_X12_24_at {a : Nat} {M : xMem} {b : Nat} {q : Nat × Nat} (h : M.1.1[b]? = some q) : (c_X12_24 a M).1.1[b]? = some q := by
  unfold c_X12_24
  dsimp only
  exact (c_X12_23_at h)
theorem c_X12_24_cl {a : Nat} {M : xMem} {D : xDt} (h0 : xcl M D) : xcl (c_X12_24 a M) D := by
  unfold c_X12_24
  refine ⟨?_, ?_⟩
  · dsimp only; exact (c_X12_23_cl h0).1
  · dsimp only; exact (c_X12_23_cl h0).2
def c_X12_25 (a : Nat) (M : xMem) : xMem := xnew (c_X12_24 a M) 100 64
theorem c_X12_25_at {a : Nat} {M : xMem} {b : Nat} {q : Nat × Nat} (h : M.1.1[b]? = some q) : (c_X12_25 a M).1.1[b]? = some q := by
  unfold c_X12_25
  exact xnew_at (c_X12_24_at h)
theorem c_X12_25_cl {a : Nat} {M : xMem} {D : xDt} (h0 : xcl M D) : xcl (c_X12_25 a M) D := by
  unfold c_X12_25
  exact xnew_cl (c_X12_24_cl h0) _ _
def c_X12_26 (a : Nat) (M : xMem) : xMem := (((c_X12_25 a M).1.1, xup (c_X12_25 a M).1.2 a 22 (some ((c_X12_24 a M).1.1.length))), (c_X12_25 a M).2)
theorem c_X12_26_at {a : Nat} {M : xMem} {b : Nat} {q : Nat × Nat} (h : M.1.1[b]? = some q) : (c_X12_26 a M).1.1[b]? = some q := by
  unfold c_X12_26
  dsimp only
  exact (c_X12_25_at h)
theorem c_X12_26_cl {a : Nat} {M : xMem} {D : xDt} (h0 : xcl M D) : xcl (c_X12_26 a M) D := by
  unfold c_X12_26
  refine ⟨?_, ?_⟩
  · dsimp only; exact (c_X12_25_cl h0).1
  · dsimp only; exact (c_X12_25_cl h0).2
def c_X12_27 (a : Nat) (M : xMem) : xMem := xnew (c_X12_26 a M) 100 64
theorem c_X12_27_at {a : Nat} {M : xMem} {b : Nat} {q : Nat × Nat} (h : M.1.1[b]? = some q) : (c_X12_27 a M).1.1[b]? = some q := by
  unfold c_X12_27
  exact xnew_at (c_X12_26_at h)
theorem c_X12_27_cl {a : Nat} {M : xMem} {D : xDt} (h0 : xcl M D) : xcl (c_X12_27 a M) D := by
  unfold c_X12_27
  exact xnew_cl (c_X12_26_cl h0) _ _
def c_X12_28 (a : Nat) (M : xMem) : xMem := (((c_X12_27 a M).1.1, xup (c_X12_27 a M).1.2 a 23 (some ((c_X12_26 a M).1.1.length))), (c_X12_27 a M).2)
theorem c_X12_28_at {a : Nat} {M : xMem} {b : Nat} {q : Nat × Nat} (h : M.1.1[b]? = some q) : (c_X12_28 a M).1.1[b]? = some q := by
  unfold c_X12_28
  dsimp only
  exact (c_X12_27_at h)
theorem c_X12_28_cl {a : Nat} {M : xMem} {D : xDt} (h0 : xcl M D) : xcl (c_X12_28 a M) D := by
  unfold c_X12_28
  refine ⟨?_, ?_⟩
  · dsimp only; exact (c_X12_27_cl h0).1
  · dsimp only; exact (c_X12_27_cl h0).2
def c_X12_29 (a : Nat) (M : xMem) : xMem := xnew (c_X12_28 a M) 100 256
theorem c_X12_29_at {a : Nat} {M : xMem} {b : Nat} {q : Nat × Nat} (h : M.1.1[b]? = some q) : (c_X12_29 a M).1.1[b]? = some q := by
  unfold c_X12_29
  exact xnew_at (c_X12_28_at h)
theorem c_X12_29_cl {a : Nat} {M : xMem} {D : xDt} (h0 : xcl M D) : xcl (c_X12_29 a M) D := by
  unfold c_X12_29
  exact xnew_cl (c_X12_28_cl h0) _ _
def c_X12_30 (a : Nat) (M : xMem) : xMem := (((c_X12_29 a M).1.1, xup (c_X12_29 a M).1.2 a 24 (some ((c_X12_28 a M).1.1.length))), (c_X12_29 a M).2)
theorem c_X12_30_at {a : Nat} {M : xMem} {b : Nat} {q : Nat × Nat} (h : M.1.1[b]? = some q) : (c_X12_30 a M).1.1[b]? = some q := by
  unfold c_X12_30
  dsimp only
  exact (c_X12_29_at h)
theorem c_X12_30_cl {a : Nat} {M : xMem} {D : xDt} (h0 : xcl M D) : xcl (c_X12_30 a M) D := by
  unfold c_X12_30
  refine ⟨?_, ?_⟩
  · dsimp only; exact (c_X12_29_cl h0).1
  · dsimp only; exact (c_X12_29_cl h0).2
def c_X12_31 (a : Nat) (M : xMem) : xMem := xnew (c_X12_30 a M) 100 8
theorem c_X12_31_at {a : Nat} {M : xMem} {b : Nat} {q : Nat × Nat} (h : M.1.1[b]? = some q) : (c_X12_31 a M).1.1[b]? = some q := by
  unfold c_X12_31
  exact xnew_at (c_X12_30_at h)
theorem c_X12_31_cl {a : Nat} {M : xMem} {D : xDt} (h0 : xcl M D) : xcl (c_X12_31 a M) D := by
  unfold c_X12_31
  exact xnew_cl (c_X12_30_cl h0) _ _
def c_X12_32 (a : Nat) (M : xMem) : xMem := (((c_X12_31 a M).1.1, xup (c_X12_31 a M).1.2 a 26 (some ((c_X12_30 a M).1.1.length))), (c_X12_31 a M).2)
theorem c_X12_32_at {a : Nat} {M : xMem} {b : Nat} {q : Nat × Nat} (h : M.1.1[b]? = some q) : (c_X12_32 a M).1.1[b]? = some q := by
  unfold c_X12_32
  dsimp only
  exact (c_X12_31_at h)
theorem c_X12_32_cl {a : Nat} {M : xMem} {D : xDt} (h0 : xcl M D) : xcl (c_X12_32 a M) D := by
  unfold c_X12_32
  refine ⟨?_, ?_⟩
  · dsimp only; exact (c_X12_31_cl h0).1
  · dsimp only; exact (c_X12_31_cl h0).2
def c_X12_33 (a : Nat) (M : xMem) : xMem := xnew (c_X12_32 a M) 100 64
theorem c_X12_33_at {a : Nat} {M : xMem} {b : Nat} {q : Nat × Nat} (h : M.1.1[b]? = some q) : (c_X12_33 a M).1.1[b]? = some q := by
  unfold c_X12_33
  exact xnew_at (c_X12_32_at h)
theorem c_X12_33_cl {a : Nat} {M : xMem} {D : xDt} (h0 : xcl M D) : xcl (c_X12_33 a M) D := by
  unfold c_X12_33
  exact xnew_cl (c_X12_32_cl h0) _ _
def c_X12_34 (a : Nat) (M : xMem) : xMem := (((c_X12_33 a M).1.1, xup (c_X12_33 a M).1.2 a 27 (some ((c_X12_32 a M).1.1.length))), (c_X12_33 a M).2)
theorem c_X12_34_at {a : Nat} {M : xMem} {b : Nat} {q : Nat × Nat} (h : M.1.1[b]? = some q) : (c_X12_34 a M).1.1[b]? = some q := by
  unfold c_X12_34
  dsimp only
  exact (c_X12_33_at h)
theorem c_X12_34_cl {a : Nat} {M : xMem} {D : xDt} (h0 : xcl M D) : xcl (c_X12_34 a M) D := by
  unfold c_X12_34
  refine ⟨?_, ?_⟩
  · dsimp only; exact (c_X12_33_cl h0).1
  · dsimp only; exact (c_X12_33_cl h0).2
def c_X12_35 (a : Nat) (M : xMem) : xMem := xnew (c_X12_34 a M) 100 32
theorem c_X12_35_at {a : Nat} {M : xMem} {b : Nat} {q : Nat × Nat} (h : M.1.1[b]? = some q) : (c_X12_35 a M).1.1[b]? = some q := by
  unfold c_X12_35
  exact xnew_at (c_X12_34_at h)
theorem c_X12_35_cl {a : Nat} {M : xMem} {D : xDt} (h0 : xcl M D) : xcl (c_X12_35 a M) D := by
  unfold c_X12_35
  exact xnew_cl (c_X12_34_cl h0) _ _
def c_X12_36 (a : Nat) (M : xMem) : xMem := (((c_X12_35 a M).1.1, xup (c_X12_35 a M).1.2 a 28 (some ((c_X12_34 a M).1.1.length))), (c_X12_35 a M).2)
theorem c_X12_36_at {a : Nat} {M : xMem} {b : Nat} {q : Nat × Nat} (h : M.1.1[b]? = some q) : (c_X12_36 a M).1.1[b]? = some q := by
  unfold c_X12_36
  dsimp only
  exact (c_X12_35_at h)
theorem c_X12_36_cl {a : Nat} {M : xMem} {D : xDt} (h0 : xcl M D) : xcl (c_X12_36 a M) D := by
  unfold c_X12_36
  refine ⟨?_, ?_⟩
  · dsimp only; exact (c_X12_35_cl h0).1
  · dsimp only; exact (c_X12_35_cl h0).2
def c_X12_37 (a : Nat) (M : xMem) : xMem := xnew (c_X12_36 a M) 101 8
theorem c_X12_37_at {a : Nat} {M : xMem} {b : Nat} {q : Nat × Nat} (h : M.1.1[b]? = some q) : (c_X12_37 a M).1.1[b]? = some q := by
  unfold c_X12_37
  exact xnew_at (c_X12_36_at h)
theorem c_X12_37_cl {a : Nat} {M : xMem} {D : xDt} (h0 : xcl M D) : xcl (c_X12_37 a M) D := by
  unfold c_X12_37
  exact xnew_cl (c_X12_36_cl h0) _ _
def c_X12_38 (a : Nat) (M : xMem) : xMem := (((c_X12_37 a M).1.1, xup (c_X12_37 a M).1.2 a 29 (some ((c_X12_36 a M).1.1.length))), (c_X12_37 a M).2)
theorem c_X12_38_at {a : Nat} {M : xMem} {b : Nat} {q : Nat × Nat} (h : M.1.1[b]? = some q) : (c_X12_38 a M).1.1[b]? = some q := by
  unfold c_X12_38
  dsimp only
  exact (c_X12_37_at h)
theorem c_X12_38_cl {a : Nat} {M : xMem} {D : xDt} (h0 : xcl M D) : xcl (c_X12_38 a M) D := by
  unfold c_X12_38
  refine ⟨?_, ?_⟩
  · dsimp only; exact (c_X12_37_cl h0).1
  · dsimp only; exact (c_X12_37_cl h0).2
def c_X12_39 (a : Nat) (M : xMem) : xMem := xnew (c_X12_38 a M) 101 64
theorem c_X12_39_at {a : Nat} {M : xMem} {b : Nat} {q : Nat × Nat} (h : M.1.1[b]? = some q) : (c_X12_39 a M).1.1[b]? = some q := by
  unfold c_X12_39
  exact xnew_at (c_X12_38_at h)
theorem c_X12_39_cl {a : Nat} {M : xMem} {D : xDt} (h0 : xcl M D) : xcl (c_X12_39 a M) D := by
  unfold c_X12_39
  exact xnew_cl (c_X12_38_cl h0) _ _
def c_X12_40 (a : Nat) (M : xMem) : xMem := (((c_X12_39 a M).1.1, xup (c_X12_39 a M).1.2 a 30 (some ((c_X12_38 a M).1.1.length))), (c_X12_39 a M).2)
theorem c_X12_40_at {a : Nat} {M : xMem} {b : Nat} {q : Nat × Nat} (h : M.1.1[b]? = some q) : (c_X12_40 a M).1.1[b]? = some q := by
  unfold c_X12_40
  dsimp only
  exact (c_X12_39_at h)
theorem c_X12_40_cl {a : Nat} {M : xMem} {D : xDt} (h0 : xcl M D) : xcl (c_X12_40 a M) D := by
  unfold c_X12_40
  refine ⟨?_, ?_⟩
  · dsimp only; exact (c_X12_39_cl h0).1
  · dsimp only; exact (c_X12_39_cl h0).2
def c_X12_41 (a : Nat) (M : xMem) : xMem := xnew (c_X12_40 a M) 100 64
theorem c_X12_41_at {a : Nat} {M : xMem} {b : Nat} {q : Nat × Nat} (h : M.1.1[b]? = some q) : (c_X12_41 a M).1.1[b]? = some q := by
  unfold c_X12_41
  exact xnew_at (c_X12_40_at h)
theorem c_X12_41_cl {a : Nat} {M : xMem} {D : xDt} (h0 : xcl M D) : xcl (c_X12_41 a M) D := by
  unfold c_X12_41
  exact xnew_cl (c_X12_40_cl h0) _ _
def c_X12_42 (a : Nat) (M : xMem) : xMem := (((c_X12_41 a M).1.1, xup (c_X12_41 a M).1.2 a 31 (some ((c_X12_40 a M).1.1.length))), (c_X12_41 a M).2)
theorem c_X12_42_at {a : Nat} {M : xMem} {b : Nat} {q : Nat × Nat} (h : M.1.1[b]? = some q) : (c_X12_42 a M).1.1[b]? = some q := by
  unfold c_X12_42
  dsimp only
  exact (c_X12_41_at h)
theorem c_X12_42_cl {a : Nat} {M : xMem} {D : xDt} (h0 : xcl M D) : xcl (c_X12_42 a M) D := by
  unfold c_X12_42
  refine ⟨?_, ?_⟩
  · dsimp only; exact (c_X12_41_cl h0).1
  · dsimp only; exact (c_X12_41_cl h0).2
def c_X12_43 (a : Nat) (M : xMem) : xMem := xnew (c_X12_42 a M) 100 64
theorem c_X12_43_at {a : Nat} {M : xMem} {b : Nat} {q : Nat × Nat} (h : M.1.1[b]? = some q) : (c_X12_43 a M).1.1[b]? = some q := by
  unfold c_X12_43
  exact xnew_at (c_X12_42_at h)
theorem c_X12_43_cl {a : Nat} {M : xMem} {D : xDt} (h0 : xcl M D) : xcl (c_X12_43 a M) D := by
  unfold c_X12_43
  exact xnew_cl (c_X12_42_cl h0) _ _
def c_X12_44 (a : Nat) (M : xMem) : xMem := (((c_X12_43 a M).1.1, xup (c_X12_43 a M).1.2 a 32 (some ((c_X12_42 a M).1.1.length))), (c_X12_43 a M).2)
theorem c_X12_44_at {a : Nat} {M : xMem} {b : Nat} {q : Nat × Nat} (h : M.1.1[b]? = some q) : (c_X12_44 a M).1.1[b]? = some q := by
  unfold c_X12_44
  dsimp only
  exact (c_X12_43_at h)
theorem c_X12_44_cl {a : Nat} {M : xMem} {D : xDt} (h0 : xcl M D) : xcl (c_X12_44 a M) D := by
  unfold c_X12_44
  refine ⟨?_, ?_⟩
  · dsimp only; exact (c_X12_43_cl h0).1
  · dsimp only; exact (c_X12_43_cl h0).2
def c_X12_45 (a : Nat) (M : xMem) : xMem := xnew (c_X12_44 a M) 100 64
theorem c_X12_45_at {a : Nat} {M : xMem} {b : Nat} {q : Nat × Nat} (h : M.1.1[b]? = some q) : (c_X12_45 a M).1.1[b]? = some q := by
  unfold c_X12_45
  exact xnew_at (c_X12_44_at h)
theorem c_X12_45_cl {a : Nat} {M : xMem} {D : xDt} (h0 : xcl M D) : xcl (c_X12_45 a M) D := by
  unfold c_X12_45
  exact xnew_cl (c_X12_44_cl h0) _ _
def c_X12_46 (a : Nat) (M : xMem) : xMem := (((c_X12_45 a M).1.1, xup (c_X12_45 a M).1.2 a 33 (some ((c_X12_44 a M).1.1.length))), (c_X12_45 a M).2)
theorem c_X12_46_at {a : Nat} {M : xMem} {b : Nat} {q : Nat × Nat} (h : M.1.1[b]? = some q) : (c_X12_46 a M).1.1[b]? = some q := by
  unfold c_X12_46
  dsimp only
  exact (c_X12_45_at h)
theorem c_X12_46_cl {a : Nat} {M : xMem} {D : xDt} (h0 : xcl M D) : xcl (c_X12_46 a M) D := by
  unfold c_X12_46
  refine ⟨?_, ?_⟩
  · dsimp only; exact (c_X12_45_cl h0).1
  · dsimp only; exact (c_X12_45_cl h0).2
def c_X12_47 (a : Nat) (M : xMem) : xMem := xnew (c_X12_46 a M) 100 64
theorem c_X12_47_at {a : Nat} {M : xMem} {b : Nat} {q : Nat × Nat} (h : M.1.1[b]? = some q) : (c_X12_47 a M).1.1[b]? = some q := by
  unfold c_X12_47
  exact xnew_at (c_X12_46_at h)
theorem c_X12_47_cl {a : Nat} {M : xMem} {D : xDt} (h0 : xcl M D) : xcl (c_X12_47 a M) D := by
  unfold c_X12_47
  exact xnew_cl (c_X12_46_cl h0) _ _
def c_X12_48 (a : Nat) (M : xMem) : xMem := (((c_X12_47 a M).1.1, xup (c_X12_47 a M).1.2 a 34 (some ((c_X12_46 a M).1.1.length))), (c_X12_47 a M).2)
theorem c_X12_48_at {a : Nat} {M : xMem} {b : Nat} {q : Nat × Nat} (h : M.1.1[b]? = some q) : (c_X12_48 a M).1.1[b]? = some q := by
  unfold c_X12_48
  dsimp only
  exact (c_X12_47_at h)
theorem c_X12_48_cl {a : Nat} {M : xMem} {D : xDt} (h0 : xcl M D) : xcl (c_X12_48 a M) D := by
  unfold c_X12_48
  refine ⟨?_, ?_⟩
  · dsimp only; exact (c_X12_47_cl h0).1
  · dsimp only; exact (c_X12_47_cl h0).2
def c_X12_49 (a : Nat) (M : xMem) : xMem := xnew (c_X12_48 a M) 100 64
theorem c_X12_49_at {a : Nat} {M : xMem} {b : Nat} {q : Nat × Nat} (h : M.1.1[b]? = some q) : (c_X12_49 a M).1.1[b]? = some q := by
  unfold c_X12_49
  exact xnew_at (c_X12_48_at h)
theorem c_X12_49_cl {a : Nat} {M : xMem} {D : xDt} (h0 : xcl M D) : xcl (c_X12_49 a M) D := by
  unfold c_X12_49
  exact xnew_cl (c_X12_48_cl h0) _ _
def c_X12_50 (a : Nat) (M : xMem) : xMem := (((c_X12_49 a M).1.1, xup (c_X12_49 a M).1.2 a 35 (some ((c_X12_48 a M).1.1.length))), (c_X12_49 a M).2)
theorem c_X12_50_at {a : Nat} {M : xMem} {b : Nat} {q : Nat × Nat} (h : M.1.1[b]? = some q) : (c_X12_50 a M).1.1[b]? = some q := by
  unfold c_X12_50
  dsimp only
  exact (c_X12_49_at h)
theorem c_X12_50_cl {a : Nat} {M : xMem} {D : xDt} (h0 : xcl M D) : xcl (c_X12_50 a M) D := by
  unfold c_X12_50
  refine ⟨?_, ?_⟩
  · dsimp only; exact (c_X12_49_cl h0).1
  · dsimp only; exact (c_X12_49_cl h0).2
def c_X12_51 (a : Nat) (M : xMem) : xMem := xnew (c_X12_50 a M) 100 2100
theorem c_X12_51_at {a : Nat} {M : xMem} {b : Nat} {q : Nat × Nat} (h : M.1.1[b]? = some q) : (c_X12_51 a M).1.1[b]? = some q := by
  unfold c_X12_51
  exact xnew_at (c_X12_50_at h)
theorem c_X12_51_cl {a : Nat} {M : xMem} {D : xDt} (h0 : xcl M D) : xcl (c_X12_51 a M) D := by
  unfold c_X12_51
  exact xnew_cl (c_X12_50_cl h0) _ _
def c_X12_52 (a : Nat) (M : xMem) : xMem := (((c_X12_51 a M).1.1, xup (c_X12_51 a M).1.2 a 37 (some ((c_X12_50 a M).1.1.length))), (c_X12_51 a M).2)
theorem c_X12_52_at {a : Nat} {M : xMem} {b : Nat} {q : Nat × Nat} (h : M.1.1[b]? = some q) : (c_X12_52 a M).1.1[b]? = some q := by
  unfold c_X12_52
  dsimp only
  exact (c_X12_51_at h)
theorem c_X12_52_cl {a : Nat} {M : xMem} {D : xDt} (h0 : xcl M D) : xcl (c_X12_52 a M) D := by
  unfold c_X12_52
  refine ⟨?_, ?_⟩
  · dsimp only; exact (c_X12_51_cl h0).1
  · dsimp only; exact (c_X12_51_cl h0).2
def c_X12_53 (a : Nat) (M : xMem) : xMem := xnew (c_X12_52 a M) 104 8192
theorem c_X12_53_at {a : Nat} {M : xMem} {b : Nat} {q : Nat × Nat} (h : M.1.1[b]? = some q) : (c_X12_53 a M).1.1[b]? = some q := by
  unfold c_X12_53
  exact xnew_at (c_X12_52_at h)
theorem c_X12_53_cl {a : Nat} {M : xMem} {D : xDt} (h0 : xcl M D) : xcl (c_X12_53 a M) D := by
  unfold c_X12_53
  exact xnew_cl (c_X12_52_cl h0) _ _
def c_X12_54 (a : Nat) (M : xMem) : xMem := (((c_X12_53 a M).1.1, xup (c_X12_53 a M).1.2 a 39 (some ((c_X12_52 a M).1.1.length))), (c_X12_53 a M).2)
theorem c_X12_54_at {a : Nat} {M : xMem} {b : Nat} {q : Nat × Nat} (h : M.1.1[b]? = some q) : (c_X12_54 a M).1.1[b]? = some q := by
  unfold c_X12_54
  dsimp only
  exact (c_X12_53_at h)
theorem c_X12_54_cl {a : Nat} {M : xMem} {D : xDt} (h0 : xcl M D) : xcl (c_X12_54 a M) D := by
  unfold c_X12_54
  refine ⟨?_, ?_⟩
  · dsimp only; exact (c_X12_53_cl h0).1
  · dsimp only; exact (c_X12_53_cl h0).2
def c_X12_55 (a : Nat) (M : xMem) : xMem := xnew (c_X12_54 a M) 100 8192
theorem c_X12_55_at {a : Nat} {M : xMem} {b : Nat} {q : Nat × Nat} (h : M.1.1[b]? = some q) : (c_X12_55 a M).1.1[b]? = some q := by
  unfold c_X12_55
  exact xnew_at (c_X12_54_at h)
theorem c_X12_55_cl {a : Nat} {M : xMem} {D : xDt} (h0 : xcl M D) : xcl (c_X12_55 a M) D := by
  unfold c_X12_55
  exact xnew_cl (c_X12_54_cl h0) _ _
def c_X12_56 (a : Nat) (M : xMem) : xMem := (((c_X12_55 a M).1.1, xup (c_X12_55 a M).1.2 a 40 (some ((c_X12_54 a M).1.1.length))), (c_X12_55 a M).2)
theorem c_X12_56_at {a : Nat} {M : xMem} {b : Nat} {q : Nat × Nat} (h : M.1.1[b]? = some q) : (c_X12_56 a M).1.1[b]? = some q := by
  unfold c_X12_56
  dsimp only
  exact (c_X12_55_at h)
theorem c_X12_56_cl {a : Nat} {M : xMem} {D : xDt} (h0 : xcl M D) : xcl (c_X12_56 a M) D := by
  unfold c_X12_56
  refine ⟨?_, ?_⟩
  · dsimp only; exact (c_X12_55_cl h0).1
  · dsimp only; exact (c_X12_55_cl h0).2
def c_X12_57 (a : Nat) (M : xMem) : xMem := xnew (c_X12_56 a M) 100 8192
theorem c_X12_57_at {a : Nat} {M : xMem} {b : Nat} {q : Nat × Nat} (h : M.1.1[b]? = some q) : (c_X12_57 a M).1.1[b]? = some q := by
  unfold c_X12_57
  exact xnew_at (c_X12_56_at h)
theorem c_X12_57_cl {a : Nat} {M : xMem} {D : xDt} (h0 : xcl M D) : xcl (c_X12_57 a M) D := by
  unfold c_X12_57
  exact xnew_cl (c_X12_56_cl h0) _ _
def c_X12_58 (a : Nat) (M : xMem) : xMem := (((c_X12_57 a M).1.1, xup (c_X12_57 a M).1.2 a 41 (some ((c_X12_56 a M).1.1.length))), (c_X12_57 a M).2)
theorem c_X12_58_at {a : Nat} {M : xMem} {b : Nat} {q : Nat × Nat} (h : M.1.1[b]? = some q) : (c_X12_58 a M).1.1[b]? = some q := by
  unfold c_X12_58
  dsimp only
  exact (c_X12_57_at h)
theorem c_X12_58_cl {a : Nat} {M : xMem} {D : xDt} (h0 : xcl M D) : xcl (c_X12_58 a M) D := by
  unfold c_X12_58
  refine ⟨?_, ?_⟩
  · dsimp only; exact (c_X12_57_cl h0).1
  · dsimp only; exact (c_X12_57_cl h0).2
def c_X12_59 (a : Nat) (M : xMem) : xMem := xnew (c_X12_58 a M) 100 8192
theorem c_X12_59_at {a : Nat} {M : xMem} {b : Nat} {q : Nat × Nat} (h : M.1.1[b]? = some q) : (c_X12_59 a M).1.1[b]? = some q := by
  unfold c_X12_59
  exact xnew_at (c_X12_58_at h)
theorem c_X12_59_cl {a : Nat} {M : xMem} {D : xDt} (h0 : xcl M D) : xcl (c_X12_59 a M) D := by
  unfold c_X12_59
  exact xnew_cl (c_X12_58_cl h0) _ _
def c_X12_60 (a : Nat) (M : xMem) : xMem := (((c_X12_59 a M).1.1, xup (c_X12_59 a M).1.2 a 42 (some ((c_X12_58 a M).1.1.length))), (c_X12_59 a M).2)
theorem c_X12_60_at {a : Nat} {M : xMem} {b : Nat} {q : Nat × Nat} (h : M.1.1[b]? = some q) : (c_X12_60 a M).1.1[b]? = some q := by
  unfold c_X12_60
  dsimp only
  exact (c_X12_59_at h)
theorem c_X12_60_cl {a : Nat} {M : xMem} {D : xDt} (h0 : xcl M D) : xcl (c_X12_60 a M) D := by
  unfold c_X12_60
  refine ⟨?_, ?_⟩
  · dsimp only; exact (c_X12_59_cl h0).1
  · dsimp only; exact (c_X12_59_cl h0).2
def c_X12_61 (a : Nat) (M : xMem) : xMem := xnew (c_X12_60 a M) 104 8000
theorem c_X12_61_at {a : Nat} {M : xMem} {b : Nat} {q : Nat × Nat} (h : M.1.1[b]? = some q) : (c_X12_61 a M).1.1[b]? = some q := by
  unfold c_X12_61
  exact xnew_at (c_X12_60_at h)
theorem c_X12_61_cl {a : Nat} {M : xMem} {D : xDt} (h0 : xcl M D) : xcl (c_X12_61 a M) D := by
  unfold c_X12_61
  exact xnew_cl (c_X12_60_cl h0) _ _
def c_X12_62 (a : Nat) (M : xMem) : xMem := (((c_X12_61 a M).1.1, xup (c_X12_61 a M).1.2 a 43 (some ((c_X12_60 a M).1.1.length))), (c_X12_61 a M).2)
theorem c_X12_62_at {a : Nat} {M : xMem} {b : Nat} {q : Nat × Nat} (h : M.1.1[b]? = some q) : (c_X12_62 a M).1.1[b]? = some q := by
  unfold c_X12_62
  dsimp only
  exact (c_X12_61_at h)
theorem c_X12_62_cl {a : Nat} {M : xMem} {D : xDt} (h0 : xcl M D) : xcl (c_X12_62 a M) D := by
  unfold c_X12_62
  refine ⟨?_, ?_⟩
  · dsimp only; exact (c_X12_61_cl h0).1
  · dsimp only; exact (c_X12_61_cl h0).2
def c_X12_63 (a : Nat) (M : xMem) : xMem := ((c_X12_62 a M).1, (xup (c_X12_62 a M).2.1 a 13 0, (c_X12_62 a M).2.2))
theorem c_X12_63_at {a : Nat} {M : xMem} {b : Nat} {q : Nat × Nat} (h : M.1.1[b]? = some q) : (c_X12_63 a M).1.1[b]? = some q := by
  unfold c_X12_63
  dsimp only
  exact (c_X12_62_at h)
def xM2 : xMem := xnew (xS1, xD1) 12 44
theorem xcl1 : xcl (xS1, xD1) xD1 := by
  refine ⟨rfl, fun x hx => ?_⟩
  have hx : 241 ≤ x := by
    have : (xSh0.take 241).length = 241 := by decide +kernel
    exact this ▸ hx
  refine ⟨?_, rfl⟩
  show xup (xup xD0.1 202 1 1) 203 0 49 x = _
  rw [xup_ne _ _ _ _ (by omega), xup_ne _ _ _ _ (by omega)]
  rfl
def xD2 : xDt := (xup xD1.1 241 13 0, xD1.2)
theorem c_X12_dd {a : Nat} {M : xMem} {D : xDt} (h0 : xcl M D) : (c_X12_63 a M).2 = (xup D.1 a 13 0, D.2) := by
  have h := (c_X12_62_cl (a := a) h0).1
  unfold c_X12_63
  dsimp only
  rw [h]
theorem c_X12_d : (c_X12_63 241 xM2).2 = xD2 := c_X12_dd (xnew_cl xcl1 12 44)
