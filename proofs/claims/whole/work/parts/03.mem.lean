/-! THE MEMORY as plain functions, and what it means of the machine's heap. Shapes: (kind, length); kind below 100: an object of that row of vwCl; 100 int[], 101 long[], 102 char[], 103 byte[], 104 boolean[], 200 + c: an array of references to row c. -/
abbrev xSh : Type := List (Nat × Nat)
abbrev xRf : Type := Nat → Nat → Option Nat
abbrev xDt : Type := (Nat → Nat → Int32) × (Nat → Nat → Int64)
abbrev xSt : Type := xSh × xRf
abbrev xMem : Type := xSt × xDt
/-- where the memory begins; special cells; the numbers of vwCl; of the arrays -/
abbrev xG : Type := Nat × (UInt32 → Nat) × va_G × (Nat → ClassId)
def xtr (G : xG) : Value → Value
  | .ref a => .ref (G.1 + a)
  | .float c => .ref (G.2.1 c)
  | .retAddr _ => if G.2.1 41 = 0 then .null else .ref (G.2.1 40)
  | v => v
theorem xtr_cat (G : xG) (v : Value) : (xtr G v).category = v.category := by cases v <;> first | rfl | (simp only [xtr]; split <;> rfl)
def xup {α : Type} (f : Nat → Nat → α) (a k : Nat) (v : α) : Nat → Nat → α := fun x => if x = a then (fun j => if j = k then v else f a j) else f x
def xftL : List (List Nat) := [[2, 2, 2, 2, 2, 2, 2, 2, 2, 0], [0, 2, 2, 2, 2, 2], [2, 0], [2, 2, 2, 2, 0, 1], [2, 2, 2, 2], [2, 0, 0], [2, 0, 2, 2, 2, 2, 2, 2, 2, 0, 0, 0, 0], [2, 2, 2, 0, 0], [2, 2, 2, 2, 2, 2, 2, 0, 0, 0], [2, 0, 2, 0], [0, 2, 2], [2, 2, 2, 2, 2, 2, 2, 2, 2, 2, 2, 2, 1, 0, 0], [0, 0, 2, 2, 2, 2, 2, 0, 2, 2, 2, 2, 2, 0, 0, 2, 0, 0, 0, 0, 2, 0, 2, 2, 2, 0, 2, 2, 2, 2, 2, 2, 2, 2, 2, 2, 0, 2, 0, 2, 2, 2, 2, 2]]
def xft (ci k : Nat) : Nat := (xftL.getD ci []).getD k 0
def xfv (G : xG) (M : xMem) (a ci j : Nat) : Value := match xft ci j with
  | 0 => .int (M.2.1 a j)
  | 1 => .long (M.2.2 a j)
  | _ => va_rf ((M.1.2 a j).map (fun r => G.1 + r))
def xent (G : xG) (M : xMem) (k : Nat) (q : Nat × Nat) : Nat × va_E := (G.1 + k, if q.1 < 100 then .inr (q.1, (List.range q.2).map (xfv G M k q.1)) else if q.1 = 101 then .inl (G.2.2.2 101, q.2, .inr (.inl (M.2.2 k))) else if q.1 < 200 then .inl (G.2.2.2 q.1, q.2, .inl (M.2.1 k)) else .inl (G.2.2.2 q.1, q.2, .inr (.inr (.inr (.inr (fun i => (M.1.2 k i).map (fun r => G.1 + r)))))))
def xW (G : xG) (M : xMem) : va_W := M.1.1.mapIdx (xent G M)
theorem xW_get (G : xG) (M : xMem) (a : Nat) : (xW G M)[a]? = (M.1.1[a]?).map (xent G M a) := by
  unfold xW; rw [List.getElem?_mapIdx]
theorem xW_at {G : xG} {M : xMem} {a : Nat} {q : Nat × Nat} (h : M.1.1[a]? = some q) : (xW G M)[a]? = some (xent G M a q) := by rw [xW_get, h]; rfl
theorem xW_obj {G : xG} {M : xMem} {a ci N : Nat} (h : M.1.1[a]? = some (ci, N)) (hc : ci < 100) : (xW G M)[a]? = some (G.1 + a, .inr (ci, (List.range N).map (xfv G M a ci))) := by
  rw [xW_at h]; simp [xent, hc]
theorem xW_long {G : xG} {M : xMem} {a N : Nat} (h : M.1.1[a]? = some (101, N)) : (xW G M)[a]? = some (G.1 + a, .inl (G.2.2.2 101, N, .inr (.inl (M.2.2 a)))) := by
  rw [xW_at h]; simp [xent]
theorem xW_int {G : xG} {M : xMem} {a t N : Nat} (h : M.1.1[a]? = some (t, N)) (h1 : ¬ t < 100) (h2 : ¬ t = 101) (h3 : t < 200) : (xW G M)[a]? = some (G.1 + a, .inl (G.2.2.2 t, N, .inl (M.2.1 a))) := by
  rw [xW_at h]; simp [xent, h1, h2, h3]
theorem xW_refs {G : xG} {M : xMem} {a t N : Nat} (h : M.1.1[a]? = some (t, N)) (h3 : ¬ t < 200) : (xW G M)[a]? = some (G.1 + a, .inl (G.2.2.2 t, N, .inr (.inr (.inr (.inr (fun i => (M.1.2 a i).map (fun r => G.1 + r))))))) := by
  rw [xW_at h]
  have h1 : ¬ t < 100 := by omega
  have h2 : ¬ t = 101 := by omega
  simp [xent, h1, h2, h3]
theorem xW_upd {G : xG} {M M' : xMem} {a : Nat} {q : Nat × Nat} (hs : M'.1.1 = M.1.1) (h : M.1.1[a]? = some q) (ho : ∀ (k : Nat) (q' : Nat × Nat), k ≠ a → xent G M' k q' = xent G M k q') : xW G M' = (xW G M).set a (xent G M' a q) := by
  apply List.ext_getElem?
  intro i
  rw [xW_get, hs, List.getElem?_set]
  by_cases hi : a = i
  · subst hi
    have hl : a < (xW G M).length := (List.getElem?_eq_some_iff.mp (xW_at (G := G) h)).1
    simp [h, hl]
  · rw [if_neg hi, xW_get]
    cases M.1.1[i]? with
    | none => rfl
    | some q' => simp [ho i q' (fun e => hi e.symm)]
theorem xup_ne {α : Type} (f : Nat → Nat → α) (a k : Nat) (v : α) {x : Nat} (h : x ≠ a) : xup f a k v x = f x := by simp [xup, h]
theorem xup_eq {α : Type} (f : Nat → Nat → α) (a k : Nat) (v : α) : xup f a k v a = (fun j => if j = k then v else f a j) := by simp [xup]
theorem xent_i {G : xG} {M : xMem} (a k : Nat) (v : Int32) (x : Nat) (q : Nat × Nat) (h : x ≠ a) : xent G (M.1, (xup M.2.1 a k v, M.2.2)) x q = xent G M x q := by
  have : xfv G (M.1, (xup M.2.1 a k v, M.2.2)) x q.1 = xfv G M x q.1 := by funext j; simp [xfv, xup_ne _ _ _ _ h]
  simp [xent, this, xup_ne _ _ _ _ h]
theorem xent_l {G : xG} {M : xMem} (a k : Nat) (v : Int64) (x : Nat) (q : Nat × Nat) (h : x ≠ a) : xent G (M.1, (M.2.1, xup M.2.2 a k v)) x q = xent G M x q := by
  have : xfv G (M.1, (M.2.1, xup M.2.2 a k v)) x q.1 = xfv G M x q.1 := by funext j; simp [xfv, xup_ne _ _ _ _ h]
  simp [xent, this, xup_ne _ _ _ _ h]
theorem xent_r {G : xG} {M : xMem} (a k : Nat) (v : Option Nat) (x : Nat) (q : Nat × Nat) (h : x ≠ a) : xent G ((M.1.1, xup M.1.2 a k v), M.2) x q = xent G M x q := by
  have : xfv G ((M.1.1, xup M.1.2 a k v), M.2) x q.1 = xfv G M x q.1 := by funext j; simp [xfv, xup_ne _ _ _ _ h]
  simp [xent, this, xup_ne _ _ _ _ h]
theorem xrange_set {N k : Nat} {f g : Nat → Value} {v : Value} (hk : k < N) (h1 : g k = v) (h2 : ∀ j, j ≠ k → g j = f j) : (List.range N).map g = ((List.range N).map f).set k v := by
  apply List.ext_getElem?
  intro i
  rw [List.getElem?_set]
  by_cases hi : k = i
  · subst hi
    simp [hk, h1]
  · rw [if_neg hi]
    by_cases hN : i < N
    · simp [hN, h2 i (fun e => hi e.symm)]
    · simp [hN]
/-- an int field is written -/
theorem xW_puti {G : xG} {M : xMem} {a ci N k : Nat} {v : Int32} (h : M.1.1[a]? = some (ci, N)) (hc : ci < 100) (hk : k < N) (ht : xft ci k = 0) : xW G (M.1, (xup M.2.1 a k v, M.2.2)) = (xW G M).set a (G.1 + a, .inr (ci, ((List.range N).map (xfv G M a ci)).set k (.int v))) := by
  rw [xW_upd (M := M) (M' := (M.1, (xup M.2.1 a k v, M.2.2))) (a := a) rfl h (fun x q hx => xent_i a k v x q hx)]
  congr 1
  simp only [xent, hc, if_true]
  rw [xrange_set (f := xfv G M a ci) (v := .int v) hk (by simp [xfv, ht, xup_eq]) (fun j hj => by simp [xfv, xup_eq, hj])]
/-- a long field is written -/
theorem xW_putl {G : xG} {M : xMem} {a ci N k : Nat} {v : Int64} (h : M.1.1[a]? = some (ci, N)) (hc : ci < 100) (hk : k < N) (ht : xft ci k = 1) : xW G (M.1, (M.2.1, xup M.2.2 a k v)) = (xW G M).set a (G.1 + a, .inr (ci, ((List.range N).map (xfv G M a ci)).set k (.long v))) := by
  rw [xW_upd (M := M) (M' := (M.1, (M.2.1, xup M.2.2 a k v))) (a := a) rfl h (fun x q hx => xent_l a k v x q hx)]
  congr 1
  simp only [xent, hc, if_true]
  rw [xrange_set (f := xfv G M a ci) (v := .long v) hk (by simp [xfv, ht, xup_eq]) (fun j hj => by simp [xfv, xup_eq, hj])]
/-- a reference field is written -/
theorem xW_putr {G : xG} {M : xMem} {a ci N k : Nat} {v : Nat} (h : M.1.1[a]? = some (ci, N)) (hc : ci < 100) (hk : k < N) (ht : xft ci k = 2) : xW G ((M.1.1, xup M.1.2 a k (some v)), M.2) = (xW G M).set a (G.1 + a, .inr (ci, ((List.range N).map (xfv G M a ci)).set k (.ref (G.1 + v)))) := by
  rw [xW_upd (M := M) (M' := ((M.1.1, xup M.1.2 a k (some v)), M.2)) (a := a) rfl h (fun x q hx => xent_r a k (some v) x q hx)]
  congr 1
  simp only [xent, hc, if_true]
  rw [xrange_set (f := xfv G M a ci) (v := .ref (G.1 + v)) hk (by simp [xfv, ht, xup_eq, va_rf]) (fun j hj => by simp [xfv, xup_eq, hj])]
/-- an int-like array's place is written -/
theorem xW_sti {G : xG} {M : xMem} {a t N k : Nat} {v : Int32} (h : M.1.1[a]? = some (t, N)) (h1 : ¬ t < 100) (h2 : ¬ t = 101) (h3 : t < 200) : xW G (M.1, (xup M.2.1 a k v, M.2.2)) = (xW G M).set a (G.1 + a, .inl (G.2.2.2 t, N, .inl (upd (M.2.1 a) k v))) := by
  rw [xW_upd (M := M) (M' := (M.1, (xup M.2.1 a k v, M.2.2))) (a := a) rfl h (fun x q hx => xent_i a k v x q hx)]
  congr 1
  simp [xent, h1, h2, h3, xup_eq]
  rfl
theorem xW_stl {G : xG} {M : xMem} {a N k : Nat} {v : Int64} (h : M.1.1[a]? = some (101, N)) : xW G (M.1, (M.2.1, xup M.2.2 a k v)) = (xW G M).set a (G.1 + a, .inl (G.2.2.2 101, N, .inr (.inl (vp_updL (M.2.2 a) k v)))) := by
  rw [xW_upd (M := M) (M' := (M.1, (M.2.1, xup M.2.2 a k v))) (a := a) rfl h (fun x q hx => xent_l a k v x q hx)]
  congr 1
  simp [xent, xup_eq]
  rfl
theorem xW_str {G : xG} {M : xMem} {a t N k : Nat} {v : Nat} (h : M.1.1[a]? = some (t, N)) (h3 : ¬ t < 200) : xW G ((M.1.1, xup M.1.2 a k (some v)), M.2) = (xW G M).set a (G.1 + a, .inl (G.2.2.2 t, N, .inr (.inr (.inr (.inr (va_up (fun i => (M.1.2 a i).map (fun r => G.1 + r)) k (some (G.1 + v)))))))) := by
  rw [xW_upd (M := M) (M' := ((M.1.1, xup M.1.2 a k (some v)), M.2)) (a := a) rfl h (fun x q hx => xent_r a k (some v) x q hx)]
  have h1 : ¬ t < 100 := by omega
  have h2 : ¬ t = 101 := by omega
  congr 1
  simp only [xent, h1, h2, h3, if_false, xup_eq]
  congr 8
  funext i
  by_cases hi : i = k
  · simp [va_up, hi]
  · simp [va_up, hi]
