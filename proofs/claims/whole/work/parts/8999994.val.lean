/-! decide: what tells of the BASE, as functions of trees -/
def teq : T → T → Bool
  | .leaf, .leaf => true
  | .inner s m _ l r, .inner s' m' _ l' r' => decide (s = s') && decide (m = m') && teq l l' && teq r r'
  | .leaf, .inner _ _ _ _ _ => false
  | .inner _ _ _ _ _, .leaf => false
theorem teq_iff : ∀ {x y : T}, teq x y = true ↔ x = y
  | .leaf, .leaf => ⟨fun _ => rfl, fun _ => rfl⟩
  | .inner s m () l r, .inner s' m' () l' r' => by
    rw [teq]
    simp only [Bool.and_eq_true, decide_eq_true_eq, teq_iff (x := l), teq_iff (x := r)]
    constructor
    · rintro ⟨⟨⟨rfl, rfl⟩, rfl⟩, rfl⟩; rfl
    · intro h; injection h with h1 h2 h3 h4 h5; exact ⟨⟨⟨h1, h2⟩, h4⟩, h5⟩
  | .leaf, .inner _ _ _ _ _ => ⟨fun h => absurd h (by simp [teq]), fun h => nomatch h⟩
  | .inner _ _ _ _ _, .leaf => ⟨fun h => absurd h (by simp [teq]), fun h => nomatch h⟩
theorem teq_f {x y : T} : teq x y = false ↔ x ≠ y := by
  rw [← Bool.not_eq_true, teq_iff]
/-- what the type t tells by the BASE B -/
def val : List T → Nat → T → Bool
  | [], _, _ => false
  | y :: B, t, x => if teq x y = true then t.testBit 0 else val B (t / 2) x
theorem val_no : ∀ {B : List T} {t : Nat} {x : T}, x ∉ B → val B t x = false
  | [], _, _, _ => rfl
  | y :: B, t, x, h => by
    rw [List.mem_cons, not_or] at h
    rw [val, if_neg (fun c => h.1 (teq_iff.mp c)), val_no h.2]
theorem val_at : ∀ {B : List T} {t k : Nat} {x : T}, B.Nodup → B[k]? = some x → val B t x = t.testBit k
  | [], _, _, _, _, h => absurd h (by simp)
  | y :: B, t, 0, x, _, h => by
    simp only [List.getElem?_cons_zero, Option.some.injEq] at h
    rw [val, if_pos (teq_iff.mpr h.symm)]
  | y :: B, t, k + 1, x, hn, h => by
    rw [List.getElem?_cons_succ] at h
    rw [List.nodup_cons] at hn
    have hx : x ∈ B := List.mem_of_getElem? h
    rw [val, if_neg (fun c => hn.1 (by rw [← teq_iff.mp c]; exact hx)), val_at hn.2 h, Nat.testBit_succ]
theorem val_ex : ∀ (B : List T) (v : T → Bool), B.Nodup → ∃ t, t < 2 ^ B.length ∧ ∀ x, x ∈ B → val B t x = v x
  | [], v, _ => ⟨0, by simp, fun x hx => absurd hx (by simp)⟩
  | y :: B, v, hn => by
    rw [List.nodup_cons] at hn
    obtain ⟨t, ht, h⟩ := val_ex B v hn.2
    refine ⟨2 * t + (v y).toNat, ?_, fun x hx => ?_⟩
    · rw [List.length_cons, Nat.pow_succ]
      have : (v y).toNat ≤ 1 := by cases v y <;> simp
      omega
    · have hd : (2 * t + (v y).toNat) / 2 = t := by
        have : (v y).toNat ≤ 1 := by cases v y <;> simp
        omega
      rw [val]
      by_cases c : x = y
      · subst c
        rw [if_pos (teq_iff.mpr rfl)]
        cases v x <;> simp
      · rw [if_neg (fun q => c (teq_iff.mp q)), hd]
        rw [List.mem_cons] at hx
        exact h x (hx.resolve_left c)
theorem val_inj {B : List T} (hn : B.Nodup) {t u : Nat} (ht : t < 2 ^ B.length) (hu : u < 2 ^ B.length) (h : ∀ x, x ∈ B → val B t x = val B u x) : t = u := by
  apply Nat.eq_of_testBit_eq
  intro k
  by_cases hk : k < B.length
  · have e : B[k]? = some B[k] := List.getElem?_eq_getElem hk
    rw [← val_at hn e, ← val_at hn e]
    exact h _ (List.getElem_mem hk)
  · rw [Nat.testBit_lt_two_pow (Nat.lt_of_lt_of_le ht (Nat.pow_le_pow_right (by omega) (by omega))), Nat.testBit_lt_two_pow (Nat.lt_of_lt_of_le hu (Nat.pow_le_pow_right (by omega) (by omega)))]
/-! counting does not ask for the order -/
theorem cn_two (p : Nat → Bool) : ∀ k, cn p (2 * k) = cn (fun j => p (2 * j)) k + cn (fun j => p (2 * j + 1)) k
  | 0 => rfl
  | k + 1 => by
    rw [show 2 * (k + 1) = 2 * k + 1 + 1 by omega, cn, cn, cn_two p k, cn, cn]; omega
def tupd (v : T → Bool) (y : T) (b : Bool) : T → Bool := fun x => if teq x y = true then b else v x
def cnt : List T → ((T → Bool) → Bool) → Nat
  | [], p => (p (fun _ => false)).toNat
  | y :: B, p => cnt B (fun v => p (tupd v y false)) + cnt B (fun v => p (tupd v y true))
theorem cnt_val : ∀ (B : List T) (p : (T → Bool) → Bool), cn (fun t => p (val B t)) (2 ^ B.length) = cnt B p
  | [], p => by
    show cn (fun t => p (val [] t)) 1 = _
    rw [cn, cn, cnt, Nat.zero_add]
    rfl
  | y :: B, p => by
    rw [List.length_cons, Nat.pow_succ, Nat.mul_comm, cn_two, cnt, ← cnt_val B, ← cnt_val B]
    congr 1
    · refine cn_congr (fun j _ => ?_)
      congr 1
      funext x
      rw [val, tupd]
      simp
    · refine cn_congr (fun j _ => ?_)
      congr 1
      funext x
      rw [val, tupd, show (2 * j + 1) / 2 = j by omega]
      simp
theorem cnt_perm {B B' : List T} (h : B.Perm B') : ∀ p, cnt B p = cnt B' p := by
  induction h with
  | nil => intro p; rfl
  | cons x _ ih => intro p; rw [cnt, cnt, ih, ih]
  | swap x y l =>
    intro p
    simp only [cnt]
    by_cases c : x = y
    · subst c; omega
    · have e : ∀ (v : T → Bool) (b d : Bool), tupd (tupd v x b) y d = tupd (tupd v y d) x b := by
        intro v b d
        funext z
        simp only [tupd]
        by_cases c1 : teq z x = true
        · have : teq z y = false := teq_f.mpr (by rw [teq_iff.mp c1]; exact c)
          simp [c1, this]
        · simp [c1]
      simp only [e]
      omega
  | trans _ _ i1 i2 => intro p; rw [i1, i2]
theorem cn_set {B B' : List T} (h1 : B.Nodup) (h2 : B'.Nodup) (h : ∀ x, x ∈ B ↔ x ∈ B') (p : (T → Bool) → Bool) : cn (fun t => p (val B t)) (2 ^ B.length) = cn (fun t => p (val B' t)) (2 ^ B'.length) := by
  rw [cnt_val, cnt_val]
  exact cnt_perm ((List.perm_ext_iff_of_nodup h1 h2).mpr h) p
theorem sub_len : ∀ {L M : List T}, L.Nodup → (∀ x, x ∈ L → x ∈ M) → L.length ≤ M.length
  | [], _, _, _ => by simp
  | y :: L, M, hn, h => by
    rw [List.nodup_cons] at hn
    obtain ⟨a, b, rfl⟩ := List.append_of_mem (h y (by simp))
    have := sub_len (L := L) (M := a ++ b) hn.2 (fun x hx => by
      have h2 := h x (by simp [hx])
      have hne : x ≠ y := fun c => hn.1 (by rw [← c]; exact hx)
      simp only [List.mem_append, List.mem_cons] at h2 ⊢
      rcases h2 with h2 | h2 | h2
      · exact Or.inl h2
      · exact absurd h2 hne
      · exact Or.inr h2)
    simp only [List.length_append, List.length_cons] at this ⊢
    omega
theorem set_len {B B' : List T} (h1 : B.Nodup) (h2 : B'.Nodup) (h : ∀ x, x ∈ B ↔ x ∈ B') : B.length = B'.length := Nat.le_antisymm (sub_len h1 (fun x hx => (h x).mp hx)) (sub_len h2 (fun x hx => (h x).mpr hx))
/-! the formula without E and P, what it is made of -/
def tsr : T → Nat
  | .leaf => 0
  | .inner s _ _ _ _ => s
def mrk : T → Nat
  | .leaf => 0
  | .inner _ m _ _ _ => m
def lft : T → T
  | .leaf => nil
  | .inner _ _ _ l _ => l
/-- K of one -/
abbrev tK (a : Nat) (x : T) : T := bn 5 (2 ^ a) x nil
/-- K of each from a on, joined to what is there -/
def tal (m : Nat) (x : T) : Nat → Nat → T → T
  | 0, _, acc => acc
  | d + 1, a, acc => if m.testBit a = true then tal m x d (a + 1) (if teq acc nil = true then tK a x else bn 13 0 acc (tK a x)) else tal m x d (a + 1) acc
def tall (m : Nat) (x : T) : Nat → Nat → T → List T
  | 0, _, _ => []
  | d + 1, a, acc => if m.testBit a = true then tK a x :: ((if teq acc nil = true then [] else [bn 13 0 acc (tK a x)]) ++ tall m x d (a + 1) (if teq acc nil = true then tK a x else bn 13 0 acc (tK a x))) else tall m x d (a + 1) acc
def tp : T → T
  | .leaf => nil
  | .inner s m _ l r => if s = 6 then bn 4 0 (bn 5 m (bn 4 0 (tp l) nil) nil) nil else if s = 7 then tal m (tp l) 4 0 nil else bn s m (tp l) (tp r)
/-- K of each of those, of something common -/
def tKs (m : Nat) (x : T) : Nat → Nat → List T
  | 0, _ => []
  | d + 1, a => if m.testBit a = true then tK a x :: tKs m x d (a + 1) else tKs m x d (a + 1)
def rts : T → List T
  | .leaf => []
  | .inner s m _ l r => if s = 6 then rts l ++ [bn 4 0 (tp l) nil, bn 5 m (bn 4 0 (tp l) nil) nil, bn 4 0 (bn 5 m (bn 4 0 (tp l) nil) nil) nil] else if s = 7 then rts l ++ tall m (tp l) 4 0 nil else rts l ++ rts r ++ [bn s m (tp l) (tp r)]
def cts : T → List T
  | .leaf => []
  | .inner s m _ l r => if s = 6 then cts l ++ [bn 4 0 (tp l) nil, bn 5 m (bn 4 0 (tp l) nil) nil, bn 4 0 (bn 5 m (bn 4 0 (tp l) nil) nil) nil] else if s = 7 then cts l ++ tall m (tp l) 4 0 nil else if s = 8 then cts l ++ (bn 8 m (tp l) (tp r) :: tKs m (bn 8 m (tp l) (tp r)) 4 0) else cts l ++ cts r ++ [bn s m (tp l) (tp r)]
def isB (s : Nat) : Bool := decide (s = 1) || decide (s = 5) || decide (s = 8)
theorem tall_s {m : Nat} {x : T} : ∀ (d a : Nat) (acc y : T), y ∈ tall m x d a acc → tsr y = 5 ∨ tsr y = 13
  | 0, _, _, _, h => absurd h (by simp [tall])
  | d + 1, a, acc, y, h => by
    rw [tall] at h
    split at h
    · rw [List.mem_cons, List.mem_append] at h
      rcases h with rfl | h | h
      · exact Or.inl rfl
      · split at h
        · exact absurd h (by simp)
        · rw [List.mem_singleton] at h; subst h; exact Or.inr rfl
      · exact tall_s _ _ _ _ h
    · exact tall_s _ _ _ _ h
theorem tall_len {m : Nat} {x : T} : ∀ (d a : Nat) (acc : T), (tall m x d a acc).length ≤ 2 * d ∧ (acc = nil → (tall m x d a acc).length ≤ 2 * d - 1)
  | 0, _, _ => by simp [tall]
  | d + 1, a, acc => by
    rw [tall]
    split
    · have h1 := (tall_len (m := m) (x := x) d (a + 1) (if teq acc nil = true then tK a x else bn 13 0 acc (tK a x))).1
      simp only [List.length_cons, List.length_append]
      constructor
      · have : (if teq acc nil = true then [] else [bn 13 0 acc (tK a x)]).length ≤ 1 := by split <;> simp
        omega
      · intro h
        have : (if teq acc nil = true then [] else [bn 13 0 acc (tK a x)]).length = 0 := by rw [if_pos (teq_iff.mpr h)]; rfl
        omega
    · have h1 := tall_len (m := m) (x := x) d (a + 1) acc
      exact ⟨by omega, fun h => by have := h1.2 h; omega⟩
theorem tKs_mem {m : Nat} {x y : T} : ∀ (d a : Nat), y ∈ tKs m x d a ↔ ∃ b, a ≤ b ∧ b < a + d ∧ m.testBit b = true ∧ y = tK b x
  | 0, a => by
    rw [tKs]
    constructor
    · intro h; exact absurd h (by simp)
    · rintro ⟨b, h1, h2, _⟩; omega
  | d + 1, a => by
    rw [tKs]
    by_cases c : m.testBit a = true
    · rw [if_pos c, List.mem_cons, tKs_mem d (a + 1)]
      constructor
      · rintro (rfl | ⟨b, h1, h2, h3⟩)
        · exact ⟨a, by omega, by omega, c, rfl⟩
        · exact ⟨b, by omega, by omega, h3⟩
      · rintro ⟨b, h1, h2, h3, h4⟩
        by_cases e : b = a
        · subst e; exact Or.inl h4
        · exact Or.inr ⟨b, by omega, by omega, h3, h4⟩
    · rw [if_neg c, tKs_mem d (a + 1)]
      constructor
      · rintro ⟨b, h1, h2, h3⟩; exact ⟨b, by omega, by omega, h3⟩
      · rintro ⟨b, h1, h2, h3, h4⟩
        refine ⟨b, ?_, by omega, h3, h4⟩
        by_cases e : b = a
        · subst e; exact absurd h3 c
        · omega
theorem tKs_len {m : Nat} {x : T} : ∀ (d a : Nat), (tKs m x d a).length ≤ d
  | 0, _ => by simp [tKs]
  | d + 1, a => by
    have := tKs_len (m := m) (x := x) d (a + 1)
    rw [tKs]
    split
    · rw [List.length_cons]; omega
    · omega
/-- the terms of the class are those of the reference, and K of what is common -/
theorem cts_rts : ∀ (t : T), wfT t → ∀ x, x ∈ cts t ↔ x ∈ rts t ∨ ∃ c a, c ∈ rts t ∧ tsr c = 8 ∧ a < 4 ∧ (mrk c).testBit a = true ∧ x = tK a c
  | .leaf, h, _ => absurd h (by simp [wfT])
  | .inner s m () l r, hw, x => by
    obtain ⟨w1, w2, w3, w4⟩ := hw
    have ihl : ∀ x, x ∈ cts l ↔ x ∈ rts l ∨ ∃ c a, c ∈ rts l ∧ tsr c = 8 ∧ a < 4 ∧ (mrk c).testBit a = true ∧ x = tK a c := by
      rcases w4 with ⟨_, rfl, _⟩ | ⟨_, _, wl, _⟩ | ⟨_, wl, _⟩
      · intro x; simp [cts, rts]
      · exact cts_rts l wl
      · exact cts_rts l wl
    have ihr : ∀ x, x ∈ cts r ↔ x ∈ rts r ∨ ∃ c a, c ∈ rts r ∧ tsr c = 8 ∧ a < 4 ∧ (mrk c).testBit a = true ∧ x = tK a c := by
      rcases w4 with ⟨_, _, rfl⟩ | ⟨_, _, _, rfl⟩ | ⟨_, _, wr⟩
      · intro x; simp [cts, rts]
      · intro x; simp [cts, rts]
      · exact cts_rts r wr
    rw [cts, rts]
    by_cases c6 : s = 6
    · rw [if_pos c6, if_pos c6]
      simp only [List.mem_append, ihl x, List.mem_cons, List.not_mem_nil, or_false]
      constructor
      · rintro ((h | ⟨c, a, h1, h2⟩) | h)
        · exact Or.inl (Or.inl h)
        · exact Or.inr ⟨c, a, Or.inl h1, h2⟩
        · exact Or.inl (Or.inr h)
      · rintro ((h | h) | ⟨c, a, h1 | h1, h2, h3⟩)
        · exact Or.inl (Or.inl h)
        · exact Or.inr h
        · exact Or.inl (Or.inr ⟨c, a, h1, h2, h3⟩)
        · rcases h1 with rfl | rfl | rfl <;> exact absurd h2 (by simp [tsr])
    rw [if_neg c6, if_neg c6]
    by_cases c7 : s = 7
    · rw [if_pos c7, if_pos c7]
      simp only [List.mem_append, ihl x]
      constructor
      · rintro ((h | ⟨c, a, h1, h2⟩) | h)
        · exact Or.inl (Or.inl h)
        · exact Or.inr ⟨c, a, Or.inl h1, h2⟩
        · exact Or.inl (Or.inr h)
      · rintro ((h | h) | ⟨c, a, h1 | h1, h2, h3⟩)
        · exact Or.inl (Or.inl h)
        · exact Or.inr h
        · exact Or.inl (Or.inr ⟨c, a, h1, h2, h3⟩)
        · have := tall_s _ _ _ _ h1; omega
    rw [if_neg c7, if_neg c7]
    by_cases c8 : s = 8
    · rw [if_pos c8]
      subst c8
      have hr : r = nil := by
        rcases w4 with ⟨_, _, rfl⟩ | ⟨_, _, _, rfl⟩ | ⟨h, _, _⟩
        · rfl
        · rfl
        · omega
      subst hr
      simp only [List.mem_append, ihl x, List.mem_cons, tKs_mem, List.not_mem_nil, or_false]
      have e0 : rts nil = [] := rfl
      rw [e0]
      simp only [List.not_mem_nil, or_false]
      constructor
      · rintro ((h | ⟨c, a, h1, h2⟩) | h | ⟨a, h1, h2, h3, h4⟩)
        · exact Or.inl (Or.inl h)
        · exact Or.inr ⟨c, a, Or.inl h1, h2⟩
        · exact Or.inl (Or.inr h)
        · exact Or.inr ⟨_, a, Or.inr rfl, rfl, by omega, h3, h4⟩
      · rintro ((h | h) | ⟨c, a, h1 | h1, h2, h3, h4, h5⟩)
        · exact Or.inl (Or.inl h)
        · exact Or.inr (Or.inl h)
        · exact Or.inl (Or.inr ⟨c, a, h1, h2, h3, h4, h5⟩)
        · subst h1; exact Or.inr (Or.inr ⟨a, by omega, by omega, h4, h5⟩)
    · rw [if_neg c8]
      simp only [List.mem_append, ihl x, ihr x, List.mem_cons, List.not_mem_nil, or_false]
      constructor
      · rintro (((h | ⟨c, a, h1, h2⟩) | (h | ⟨c, a, h1, h2⟩)) | h)
        · exact Or.inl (Or.inl (Or.inl h))
        · exact Or.inr ⟨c, a, Or.inl (Or.inl h1), h2⟩
        · exact Or.inl (Or.inl (Or.inr h))
        · exact Or.inr ⟨c, a, Or.inl (Or.inr h1), h2⟩
        · exact Or.inl (Or.inr h)
      · rintro (((h | h) | h) | ⟨c, a, (h1 | h1) | h1, h2, h3⟩)
        · exact Or.inl (Or.inl (Or.inl h))
        · exact Or.inl (Or.inr (Or.inl h))
        · exact Or.inr h
        · exact Or.inl (Or.inl (Or.inr ⟨c, a, h1, h2, h3⟩))
        · exact Or.inl (Or.inr (Or.inr ⟨c, a, h1, h2, h3⟩))
        · subst h1; exact absurd h2 c8
theorem cts_len : ∀ (t : T), (cts t).length ≤ 7 * sz t ∧ (plT t → (cts t).length ≤ 3 * sz t ∧ ((cts t).filter (fun x => isB (tsr x))).length ≤ sz t)
  | .leaf => by simp [cts]
  | .inner s m () l r => by
    have hl := cts_len l
    have hr := cts_len r
    rw [cts, sz]
    by_cases c6 : s = 6
    · rw [if_pos c6]
      simp only [List.length_append, List.length_cons, List.length_nil, List.filter_append]
      refine ⟨by omega, fun h => ?_⟩
      have := hl.2 h.2.1
      have h3 : (List.filter (fun x => isB (tsr x)) [bn 4 0 (tp l) nil, bn 5 m (bn 4 0 (tp l) nil) nil, bn 4 0 (bn 5 m (bn 4 0 (tp l) nil) nil) nil]).length = 1 := rfl
      omega
    rw [if_neg c6]
    by_cases c7 : s = 7
    · rw [if_pos c7]
      have := (tall_len (m := m) (x := tp l) 4 0 nil).2 rfl
      simp only [List.length_append]
      refine ⟨by omega, fun h => ?_⟩
      have := h.1
      omega
    rw [if_neg c7]
    by_cases c8 : s = 8
    · rw [if_pos c8]
      have := tKs_len (m := m) (x := bn 8 m (tp l) (tp r)) 4 0
      simp only [List.length_append, List.length_cons]
      refine ⟨by omega, fun h => ?_⟩
      have := h.1
      omega
    rw [if_neg c8]
    simp only [List.length_append, List.length_cons, List.length_nil, List.filter_append]
    refine ⟨by omega, fun h => ?_⟩
    have h1 := hl.2 h.2.1
    have h2 := hr.2 h.2.2
    have h3 : (List.filter (fun x => isB (tsr x)) [bn s m (tp l) (tp r)]).length ≤ 1 := List.length_filter_le _ _
    omega
