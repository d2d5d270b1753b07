/-! formulas as trees: sort, mark, parts -/
abbrev T : Type := Std.DTreeMap.Internal.Impl Nat (fun _ => Unit)
abbrev nil : T := Std.DTreeMap.Internal.Impl.leaf
abbrev bn (s m : Nat) (l r : T) : T := Std.DTreeMap.Internal.Impl.inner s m () l r
def sz : T → Nat
  | .leaf => 0
  | .inner _ _ _ l r => 1 + sz l + sz r
def tk (s m : Nat) : Nat := if s = 1 then 97 + m else if s = 2 then 48 else if s = 3 then 49 else if s = 4 then 126 else if s = 5 then 75 + 256 * m else if s = 6 then 80 + 256 * m else if s = 7 then 69 + 256 * m else if s = 8 then 67 + 256 * m else if s = 9 then 68 + 256 * m else if s = 10 then 61 else if s = 11 then 62 else if s = 12 then 124 else if s = 13 then 38 else if s = 14 then 91 else 123
def tks : T → List Nat
  | .leaf => []
  | .inner s m _ l r => tk s m :: (tks l ++ tks r)
theorem tks_len : ∀ t : T, (tks t).length = sz t
  | .leaf => rfl
  | .inner s m _ l r => by
    rw [tks, sz, List.length_cons, List.length_append, tks_len l, tks_len r]; omega
/-- which marks belong to which sorts -/
def mOK (s m : Nat) : Prop := (s = 1 ∧ m < 8) ∨ ((s = 2 ∨ s = 3 ∨ s = 4 ∨ 10 ≤ s) ∧ m = 0) ∨ ((s = 5 ∨ s = 6) ∧ (m = 1 ∨ m = 2 ∨ m = 4 ∨ m = 8)) ∨ ((s = 7 ∨ s = 8 ∨ s = 9) ∧ 0 < m ∧ m < 16)
def wfT : T → Prop
  | .leaf => False
  | .inner s m _ l r => 1 ≤ s ∧ s ≤ 15 ∧ mOK s m ∧ ((s ≤ 3 ∧ l = nil ∧ r = nil) ∨ (4 ≤ s ∧ s ≤ 9 ∧ wfT l ∧ r = nil) ∨ (10 ≤ s ∧ wfT l ∧ wfT r))
theorem sz_pos : ∀ {t : T}, wfT t → 1 ≤ sz t
  | .leaf, h => absurd h (by simp [wfT])
  | .inner s m _ l r, _ => by rw [sz]; omega
/-- how deep K, P, E, C, D stand -/
def dp : T → Nat
  | .leaf => 0
  | .inner s _ _ l r => if 5 ≤ s ∧ s ≤ 9 then max (dp l) (dp r) + 1 else max (dp l) (dp r)
theorem dp_le : ∀ t : T, dp t ≤ sz t
  | .leaf => Nat.le_refl _
  | .inner s m _ l r => by
    have h1 := dp_le l
    have h2 := dp_le r
    rw [dp, sz]
    split <;> omega
/-- without E, C, D, [ ], { } -/
def plT : T → Prop
  | .leaf => True
  | .inner s _ _ l r => (s ≤ 6 ∨ (10 ≤ s ∧ s ≤ 13)) ∧ plT l ∧ plT r
/-- a row of tokens holds a tree, from a place on -/
def tkAt (f : Nat → Int32) (at_ : Nat) (l : List Nat) : Prop := ∀ i, i < l.length → f (at_ + i) = nI (l.getD i 0)
theorem tkAt_cons {f : Nat → Int32} {p x : Nat} {l : List Nat} : tkAt f p (x :: l) ↔ f p = nI x ∧ tkAt f (p + 1) l := by
  constructor
  · intro h
    refine ⟨by simpa using h 0 (by simp), fun i hi => ?_⟩
    have := h (i + 1) (by simp; omega)
    rw [show p + 1 + i = p + (i + 1) by omega]
    simpa using this
  · rintro ⟨h1, h2⟩ i hi
    cases i with
    | zero => simpa using h1
    | succ i =>
      have := h2 i (by simpa using hi)
      rw [show p + (i + 1) = p + 1 + i by omega]
      simpa using this
theorem tkAt_app {f : Nat → Int32} : ∀ {l : List Nat} {p : Nat} {m : List Nat}, tkAt f p (l ++ m) ↔ tkAt f p l ∧ tkAt f (p + l.length) m
  | [], p, m => by
    simp only [List.nil_append, List.length_nil, Nat.add_zero]
    constructor
    · intro h
      exact ⟨fun i hi => absurd hi (by simp), h⟩
    · intro h; exact h.2
  | x :: l, p, m => by
    rw [List.cons_append, tkAt_cons, tkAt_app, tkAt_cons, List.length_cons, show p + (l.length + 1) = p + 1 + l.length by omega]
    constructor
    · rintro ⟨a, b, c⟩; exact ⟨⟨a, b⟩, c⟩
    · rintro ⟨⟨a, b⟩, c⟩; exact ⟨a, b, c⟩
theorem tkAt_congr {f g : Nat → Int32} {p : Nat} {l : List Nat} (h : ∀ i, i < l.length → g (p + i) = f (p + i)) (h2 : tkAt f p l) : tkAt g p l := fun i hi => by rw [h i hi]; exact h2 i hi
/-- the class's formula -/
def fmC (D : xDt) (a tc : Nat) (t : T) : Prop := D.1 a 1 = nI (sz t) ∧ tkAt (D.1 tc) 0 (tks t)
theorem fmC_congr {D D' : xDt} {a tc : Nat} {t : T} (h1 : D'.1 a 1 = D.1 a 1) (h2 : ∀ i, i < sz t → D'.1 tc i = D.1 tc i) (h : fmC D a tc t) : fmC D' a tc t := ⟨by rw [h1]; exact h.1, tkAt_congr (fun i hi => by rw [Nat.zero_add]; exact h2 i (by rw [tks_len] at hi; exact hi)) h.2⟩
/-- the reference's: the place of its NODE, its parts at lower places, none below lo -/
def nd (f : Nat → Nat → Int32) (lo : Nat) : T → Nat → Prop
  | .leaf, _ => False
  | .inner s m _ l r, i => lo ≤ i ∧ i < 92800 ∧ f 247 i = nI s ∧ f 250 i = nI m ∧ f 251 i = nI (1 + sz l + sz r) ∧ ((l = nil ∧ f 248 i = -2) ∨ ∃ j, j < i ∧ f 248 i = nI j ∧ nd f lo l j) ∧ ((r = nil ∧ f 249 i = -2) ∨ ∃ j, j < i ∧ f 249 i = nI j ∧ nd f lo r j)
theorem nd_congr {f g : Nat → Nat → Int32} {lo : Nat} : ∀ {t : T} {i : Nat}, (∀ a, 247 ≤ a → a ≤ 251 → ∀ j, lo ≤ j → j ≤ i → g a j = f a j) → nd f lo t i → nd g lo t i
  | .leaf, _, _, h => h
  | .inner s m _ l r, i, hh, h => by
    obtain ⟨h1, h2, h3, h4, h5, h6, h7⟩ := h
    refine ⟨h1, h2, ?_, ?_, ?_, ?_, ?_⟩
    · rw [hh 247 (by omega) (by omega) i h1 (by omega)]; exact h3
    · rw [hh 250 (by omega) (by omega) i h1 (by omega)]; exact h4
    · rw [hh 251 (by omega) (by omega) i h1 (by omega)]; exact h5
    · rcases h6 with ⟨e, h6⟩ | ⟨j, hj, e, h6⟩
      · exact Or.inl ⟨e, by rw [hh 248 (by omega) (by omega) i h1 (by omega)]; exact h6⟩
      · exact Or.inr ⟨j, hj, by rw [hh 248 (by omega) (by omega) i h1 (by omega)]; exact e, nd_congr (fun a ha hb k hk hk2 => hh a ha hb k hk (by omega)) h6⟩
    · rcases h7 with ⟨e, h6⟩ | ⟨j, hj, e, h6⟩
      · exact Or.inl ⟨e, by rw [hh 249 (by omega) (by omega) i h1 (by omega)]; exact h6⟩
      · exact Or.inr ⟨j, hj, by rw [hh 249 (by omega) (by omega) i h1 (by omega)]; exact e, nd_congr (fun a ha hb k hk hk2 => hh a ha hb k hk (by omega)) h6⟩
theorem nd_lo {f : Nat → Nat → Int32} {lo lo' : Nat} (hl : lo' ≤ lo) : ∀ {t : T} {i : Nat}, nd f lo t i → nd f lo' t i
  | .leaf, _, h => h
  | .inner s m _ l r, i, h => by
    obtain ⟨h1, h2, h3, h4, h5, h6, h7⟩ := h
    refine ⟨by omega, h2, h3, h4, h5, ?_, ?_⟩
    · rcases h6 with h6 | ⟨j, hj, e, h6⟩
      · exact Or.inl h6
      · exact Or.inr ⟨j, hj, e, nd_lo hl h6⟩
    · rcases h7 with h6 | ⟨j, hj, e, h6⟩
      · exact Or.inl h6
      · exact Or.inr ⟨j, hj, e, nd_lo hl h6⟩
theorem nd_ge {f : Nat → Nat → Int32} {lo : Nat} : ∀ {t : T} {i : Nat}, nd f lo t i → lo ≤ i ∧ i < 92800
  | .leaf, _, h => absurd h (by simp [nd])
  | .inner s m _ l r, i, h => ⟨h.1, h.2.1⟩
theorem nd_sz {f : Nat → Nat → Int32} {lo : Nat} : ∀ {t : T} {i : Nat}, nd f lo t i → f 251 i = nI (sz t)
  | .leaf, _, h => absurd h (by simp [nd])
  | .inner s m _ l r, i, h => h.2.2.2.2.1
