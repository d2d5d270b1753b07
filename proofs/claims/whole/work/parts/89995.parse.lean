/-! formula: the grammar, as a plain function; a fault's place, or the tree, the place behind it, the NODES so far -/
abbrev R : Type := Except Nat (T × Nat × Nat)
def Rb (r : R) (f : T → Nat → Nat → R) : R := match r with
  | .error q => .error q
  | .ok x => f x.1 x.2.1 x.2.2
def RS (r : R) (E : Nat → Prop) (K : T → Nat → Nat → Prop) : Prop := match r with
  | .error q => E q
  | .ok x => K x.1 x.2.1 x.2.2
theorem RS_b {r : R} {f : T → Nat → Nat → R} {E : Nat → Prop} {K : T → Nat → Nat → Prop} (h : RS r E (fun t p n => RS (f t p n) E K)) : RS (Rb r f) E K := by
  rcases r with q | x
  · exact h
  · exact h
theorem RS_m {r : R} {E E' : Nat → Prop} {K K' : T → Nat → Nat → Prop} (h : RS r E K) (h1 : ∀ q, E q → E' q) (h2 : ∀ t p n, K t p n → K' t p n) : RS r E' K' := by
  rcases r with q | x
  · exact h1 _ h
  · exact h2 _ _ _ h
def sA (sg : List Nat) (p : Nat) : Nat := sg.getD p 0
def skn (sg : List Nat) : Nat → Nat → Nat
  | 0, p => p
  | k + 1, p => if sA sg p = 32 then skn sg k (p + 1) else p
def sk (sg : List Nat) (p : Nat) : Nat := skn sg (sg.length - p) p
theorem sA_end {sg : List Nat} {p : Nat} (h : sg.length ≤ p) : sA sg p = 0 := by
  unfold sA; simp [List.getD, List.getElem?_eq_none h]
theorem sA_lt {sg : List Nat} {p : Nat} (h : sA sg p ≠ 0) : p < sg.length := by
  refine Nat.lt_of_not_le (fun c => h (sA_end c))
theorem sA_in {sg : List Nat} (hs : ∀ x, x ∈ sg → 32 ≤ x ∧ x ≤ 126) {p : Nat} (h : p < sg.length) : 32 ≤ sA sg p ∧ sA sg p ≤ 126 := by
  have : sA sg p = sg[p] := by unfold sA; simp [List.getD, h]
  rw [this]
  exact hs _ (List.getElem_mem h)
theorem sk_s {sg : List Nat} {p : Nat} (h : sA sg p = 32) : sk sg p = sk sg (p + 1) := by
  have := sA_lt (sg := sg) (p := p) (by omega)
  unfold sk
  rw [show sg.length - p = (sg.length - (p + 1)) + 1 by omega, skn, if_pos h]
theorem sk_n {sg : List Nat} {p : Nat} (h : sA sg p ≠ 32) : sk sg p = p := by
  unfold sk
  cases sg.length - p with
  | zero => rfl
  | succ k => rw [skn, if_neg h]
theorem sk_f {sg : List Nat} : ∀ (k p : Nat), sg.length - p ≤ k → p ≤ sg.length → p ≤ sk sg p ∧ sk sg p ≤ sg.length ∧ sA sg (sk sg p) ≠ 32
  | 0, p, h, h2 => by
    have : p = sg.length := by omega
    rw [sk_n (by rw [sA_end (by omega)]; omega), sA_end (by omega)]
    omega
  | k + 1, p, h, h2 => by
    by_cases c : sA sg p = 32
    · have := sA_lt (sg := sg) (p := p) (by omega)
      rw [sk_s c]
      have := sk_f (sg := sg) k (p + 1) (by omega) (by omega)
      omega
    · rw [sk_n c]
      exact ⟨Nat.le_refl _, h2, c⟩
theorem sk_p {sg : List Nat} {p : Nat} (h : p ≤ sg.length) : p ≤ sk sg p ∧ sk sg p ≤ sg.length ∧ sA sg (sk sg p) ≠ 32 := sk_f _ p (Nat.le_refl _) h
/-- agents behind K, P, E, C, D -/
def pG (sg : List Nat) : Nat → Nat → Nat → Nat → Nat × Nat
  | 0, m, _, p => (m, p)
  | k + 1, m, last, p => if last < sA sg p ∧ sA sg p ≤ 52 then pG sg k (m ||| 2 ^ (sA sg p - 49)) (sA sg p) (sk sg (p + 1)) else (m, p)
theorem or_pos {m j : Nat} : m ||| 2 ^ j ≠ 0 := by
  intro h
  have h2 : 2 ^ j ≤ m ||| 2 ^ j := Nat.right_le_or
  have := Nat.pow_pos (n := j) (show 0 < 2 by omega)
  omega
theorem or_16 {m j : Nat} (h : m < 16) (hj : j < 4) : m ||| 2 ^ j < 16 := by
  have : 2 ^ j < 2 ^ 4 := Nat.pow_lt_pow_right (by omega) hj
  exact Nat.or_lt_two_pow (n := 4) h this
theorem pG_p {sg : List Nat} : ∀ (k m last p : Nat), p ≤ sg.length → sA sg p ≠ 32 → 48 ≤ last → m < 16 → p ≤ (pG sg k m last p).2 ∧ (pG sg k m last p).2 ≤ sg.length ∧ sA sg (pG sg k m last p).2 ≠ 32 ∧ (pG sg k m last p).1 < 16 ∧ (m ≠ 0 → (pG sg k m last p).1 ≠ 0) ∧ ((pG sg k m last p).1 = 0 → (pG sg k m last p).2 = p)
  | 0, m, last, p, h1, h2, h3, h4 => by
    rw [pG]; exact ⟨Nat.le_refl _, h1, h2, h4, fun h => h, fun _ => rfl⟩
  | k + 1, m, last, p, h1, h2, h3, h4 => by
    rw [pG]
    by_cases c : last < sA sg p ∧ sA sg p ≤ 52
    · rw [if_pos c]
      have := sA_lt (sg := sg) (p := p) (by omega)
      obtain ⟨a1, a2, a3⟩ := sk_p (sg := sg) (p := p + 1) (by omega)
      obtain ⟨b1, b2, b3, b4, b5, b6⟩ := pG_p k (m ||| 2 ^ (sA sg p - 49)) (sA sg p) (sk sg (p + 1)) a2 a3 (by omega) (or_16 h4 (by omega))
      exact ⟨by omega, b2, b3, b4, fun _ => b5 or_pos, fun c2 => absurd c2 (b5 or_pos)⟩
    · rw [if_neg c]; exact ⟨Nat.le_refl _, h1, h2, h4, fun h => h, fun _ => rfl⟩
theorem pG_1 {sg : List Nat} {p : Nat} : (pG sg 1 0 48 p).1 = 0 ∨ (pG sg 1 0 48 p).1 = 1 ∨ (pG sg 1 0 48 p).1 = 2 ∨ (pG sg 1 0 48 p).1 = 4 ∨ (pG sg 1 0 48 p).1 = 8 := by
  rw [pG]
  by_cases c : 48 < sA sg p ∧ sA sg p ≤ 52
  · rw [if_pos c, pG]
    have : sA sg p = 49 ∨ sA sg p = 50 ∨ sA sg p = 51 ∨ sA sg p = 52 := by omega
    rcases this with e | e | e | e <;> rw [e] <;> dsimp only <;> decide
  · rw [if_neg c]; exact Or.inl rfl
def lfT (c : Nat) : T := if c = 48 then bn 2 0 nil nil else if c = 49 then bn 3 0 nil nil else bn 1 (c - 97) nil nil
def srt (c : Nat) : Nat := if c = 75 then 5 else if c = 80 then 6 else if c = 69 then 7 else if c = 67 then 8 else 9
abbrev isLf (c : Nat) : Prop := (97 ≤ c ∧ c ≤ 104) ∨ c = 48 ∨ c = 49
abbrev isKn (c : Nat) : Prop := c = 75 ∨ c = 80 ∨ c = 69 ∨ c = 67 ∨ c = 68
def pO (sg : List Nat) (fo : Nat → Nat → Nat → R) (on : Nat → Nat → Nat → Nat → R) (d b p n : Nat) : R :=
  if 30 < b then .error p
  else if sA sg p = 40 then (if 15 ≤ d then .error p else Rb (fo (d + 1) (sk sg (p + 1)) n) fun t p n => if sA sg p = 41 then .ok (t, sk sg (p + 1), n) else .error p)
  else if 150 ≤ n then .error p
  else if isLf (sA sg p) then .ok (lfT (sA sg p), sk sg (p + 1), n + 1)
  else if sA sg p = 91 ∨ sA sg p = 123 then (if 15 ≤ d then .error p else Rb (fo (d + 1) (sk sg (p + 1)) (n + 1)) fun t q n => if sA sg q = sA sg p + 2 then Rb (on d (b + 1) (sk sg (q + 1)) n) fun g q n => .ok (bn (if sA sg p = 91 then 14 else 15) 0 t g, q, n) else .error q)
  else if sA sg p = 126 then Rb (on d (b + 1) (sk sg (p + 1)) (n + 1)) fun t q n => .ok (bn 4 0 t nil, q, n)
  else if isKn (sA sg p) then (if (pG sg (if sA sg p = 75 ∨ sA sg p = 80 then 1 else 4) 0 48 (sk sg (p + 1))).1 = 0 then .error (sk sg (p + 1)) else Rb (on d (b + 1) (pG sg (if sA sg p = 75 ∨ sA sg p = 80 then 1 else 4) 0 48 (sk sg (p + 1))).2 (n + 1)) fun t q n => .ok (bn (srt (sA sg p)) (pG sg (if sA sg p = 75 ∨ sA sg p = 80 then 1 else 4) 0 48 (sk sg (p + 1))).1 t nil, q, n))
  else .error p
def pJ (sg : List Nat) (c s : Nat) (nx : Nat → Nat → R) (ct : T → Nat → Nat → R) (t : T) (p n : Nat) : R := if sA sg p = c then (if 150 ≤ n then .error p else Rb (nx (sk sg (p + 1)) (n + 1)) fun g p n => ct (bn s 0 t g) p n) else .ok (t, p, n)
def pL (sg : List Nat) (c s : Nat) (nx : Nat → Nat → R) : Nat → T → Nat → Nat → R
  | 0, _, _, _ => .error 0
  | k + 1, t, p, n => pJ sg c s nx (pL sg c s nx k) t p n
def pZ (t : T) (p n : Nat) : R := .ok (t, p, n)
def pA (sg : List Nat) : Nat → (Nat → Nat → Nat → R) × (Nat → Nat → Nat → R) × (Nat → Nat → Nat → R) × (Nat → Nat → Nat → R) × (Nat → Nat → Nat → Nat → R)
  | 0 => (fun _ _ _ => .error 0, fun _ _ _ => .error 0, fun _ _ _ => .error 0, fun _ _ _ => .error 0, fun _ _ _ _ => .error 0)
  | k + 1 => (fun d p n => Rb ((pA sg k).2.1 d p n) (pJ sg 61 10 ((pA sg k).2.1 d) pZ), fun d p n => Rb ((pA sg k).2.2.1 d p n) (pJ sg 62 11 ((pA sg k).2.1 d) pZ), fun d p n => Rb ((pA sg k).2.2.2.1 d p n) (pL sg 124 12 ((pA sg k).2.2.2.1 d) 201), fun d p n => Rb ((pA sg k).2.2.2.2 d 0 p n) (pL sg 38 13 ((pA sg k).2.2.2.2 d 0) 201), pO sg (pA sg k).1 (pA sg k).2.2.2.2)
/-- what a reading gives -/
def PK (sg : List Nat) (l : List Nat) (p n m : Nat) (t : T) (p' n' : Nat) : Prop := p ≤ p' ∧ p' ≤ sg.length ∧ sA sg p' ≠ 32 ∧ n' + m = n + sz t ∧ n' ≤ 150 ∧ wfT t ∧ ∀ c, c ∈ l → sA sg p' ≠ c
def PS (sg : List Nat) (l : List Nat) (g : Nat → Nat → R) : Prop := ∀ p n, p ≤ sg.length → n ≤ 150 → RS (g p n) (fun q => q ≤ sg.length) (PK sg l (p + 1) n 0)
theorem wf_join {s : Nat} {l r : T} (h1 : 10 ≤ s) (h2 : s ≤ 15) (hl : wfT l) (hr : wfT r) : wfT (bn s 0 l r) := ⟨by omega, h2, Or.inr (Or.inl ⟨by omega, rfl⟩), Or.inr (Or.inr ⟨h1, hl, hr⟩)⟩
theorem PJ {sg l : List Nat} {c s : Nat} {nx : Nat → Nat → R} {ct : T → Nat → Nat → R} {l' : List Nat} (hc : c ≠ 0) (h1 : 10 ≤ s) (h2 : s ≤ 15) (hn : PS sg l nx) {m : Nat} {p n : Nat} {t : T} (hct : ∀ g p' n', PK sg l (p + 1) (n + 1) 0 g p' n' → RS (ct (bn s 0 t g) p' n') (fun q => q ≤ sg.length) (PK sg l' p n m)) (hk : sA sg p ≠ c → PK sg l' p n m t p n) (hp : p ≤ sg.length) : RS (pJ sg c s nx ct t p n) (fun q => q ≤ sg.length) (PK sg l' p n m) := by
  unfold pJ
  by_cases e : sA sg p = c
  · rw [if_pos e]
    have := sA_lt (sg := sg) (p := p) (by omega)
    by_cases e2 : 150 ≤ n
    · rw [if_pos e2]; exact hp
    · rw [if_neg e2]
      obtain ⟨a1, a2, a3⟩ := sk_p (sg := sg) (p := p + 1) (by omega)
      refine RS_b (RS_m (hn (sk sg (p + 1)) (n + 1) a2 (by omega)) (fun _ h => h) (fun g p' n' h => hct g p' n' ⟨by have := h.1; omega, h.2⟩))
  · rw [if_neg e]; exact hk e
theorem PL {sg l : List Nat} {c s : Nat} {nx : Nat → Nat → R} (hc : c ≠ 0) (h1 : 10 ≤ s) (h2 : s ≤ 15) (hn : PS sg l nx) : ∀ (k : Nat) (t : T) (p n : Nat), p ≤ sg.length → sA sg p ≠ 32 → n ≤ 150 → wfT t → (∀ c, c ∈ l → sA sg p ≠ c) → RS (pL sg c s nx k t p n) (fun q => q ≤ sg.length) (PK sg (c :: l) p n (sz t))
  | 0, t, p, n, hp, _, _, _, _ => Nat.zero_le _
  | k + 1, t, p, n, hp, h3, h4, h5, h6 => by
    rw [pL]
    refine PJ hc h1 h2 hn (fun g p' n' h => ?_) (fun e => ⟨Nat.le_refl _, hp, h3, rfl, h4, h5, fun x hx => ?_⟩) hp
    · obtain ⟨b1, b2, b3, b4, b5, b6, b7⟩ := h
      refine RS_m (PL hc h1 h2 hn k (bn s 0 t g) p' n' b2 b3 b5 (wf_join h1 h2 h5 b6) b7) (fun _ h => h) (fun t' p'' n'' h' => ?_)
      obtain ⟨c1, c2, c3, c4, c5⟩ := h'
      rw [sz] at c4
      exact ⟨by omega, c2, c3, by omega, c5⟩
    · rcases List.mem_cons.mp hx with rfl | hx
      · exact e
      · exact h6 x hx
theorem PZ {sg l l2 : List Nat} {c s : Nat} {nx : Nat → Nat → R} (hc : c ≠ 0) (h1 : 10 ≤ s) (h2 : s ≤ 15) (hn : PS sg l nx) (t : T) (p n : Nat) (hp : p ≤ sg.length) (h3 : sA sg p ≠ 32) (h4 : n ≤ 150) (h5 : wfT t) (h6 : ∀ x, x ∈ l2 → sA sg p ≠ c → sA sg p ≠ x) (h7 : ∀ x, x ∈ l2 → x ∈ l) : RS (pJ sg c s nx pZ t p n) (fun q => q ≤ sg.length) (PK sg l2 p n (sz t)) := by
  refine PJ hc h1 h2 hn (fun g p' n' h => ?_) (fun e => ⟨Nat.le_refl _, hp, h3, rfl, h4, h5, fun x hx => h6 x hx e⟩) hp
  obtain ⟨b1, b2, b3, b4, b5, b6, b7⟩ := h
  exact ⟨by dsimp only; omega, b2, b3, by dsimp only; rw [sz]; omega, b5, wf_join h1 h2 h5 b6, fun x hx => b7 x (h7 x hx)⟩
theorem PO {sg : List Nat} {fo : Nat → Nat → Nat → R} {on : Nat → Nat → Nat → Nat → R} (hf : ∀ d, PS sg [] (fo d)) (ho : ∀ d b, PS sg [] (on d b)) (d b : Nat) : PS sg [] (pO sg fo on d b) := by
  intro p n hp hn
  unfold pO
  by_cases c1 : 30 < b
  · rw [if_pos c1]; exact hp
  rw [if_neg c1]
  by_cases c2 : sA sg p = 40
  · rw [if_pos c2]
    have hl := sA_lt (sg := sg) (p := p) (by omega)
    obtain ⟨a1, a2, a3⟩ := sk_p (sg := sg) (p := p + 1) (by omega)
    by_cases c3 : 15 ≤ d
    · rw [if_pos c3]; exact hp
    rw [if_neg c3]
    refine RS_b (RS_m (hf (d + 1) _ n a2 hn) (fun _ h => h) (fun t p' n' h => ?_))
    obtain ⟨b1, b2, b3, b4, b5, b6, b7⟩ := h
    by_cases c4 : sA sg p' = 41
    · rw [if_pos c4]
      have hl := sA_lt (sg := sg) (p := p') (by omega)
      obtain ⟨e1, e2, e3⟩ := sk_p (sg := sg) (p := p' + 1) (by omega)
      exact ⟨by dsimp only; omega, e2, e3, b4, b5, b6, fun _ h => absurd h (by simp)⟩
    · rw [if_neg c4]; exact b2
  rw [if_neg c2]
  by_cases c3 : 150 ≤ n
  · rw [if_pos c3]; exact hp
  rw [if_neg c3]
  by_cases c4 : isLf (sA sg p)
  · rw [if_pos c4]
    have hl := sA_lt (sg := sg) (p := p) (by unfold isLf at c4; omega)
    obtain ⟨e1, e2, e3⟩ := sk_p (sg := sg) (p := p + 1) (by omega)
    have hz : sz (lfT (sA sg p)) = 1 ∧ wfT (lfT (sA sg p)) := by
      unfold lfT
      unfold isLf at c4
      split
      · exact ⟨rfl, by simp [wfT, mOK]⟩
      split
      · exact ⟨rfl, by simp [wfT, mOK]⟩
      · exact ⟨rfl, by simp [wfT, mOK]; omega⟩
    exact ⟨e1, e2, e3, by dsimp only; rw [hz.1], by dsimp only; omega, hz.2, fun _ h => absurd h (by simp)⟩
  rw [if_neg c4]
  by_cases c5 : sA sg p = 91 ∨ sA sg p = 123
  · rw [if_pos c5]
    have hl := sA_lt (sg := sg) (p := p) (by omega)
    obtain ⟨a1, a2, a3⟩ := sk_p (sg := sg) (p := p + 1) (by omega)
    by_cases c6 : 15 ≤ d
    · rw [if_pos c6]; exact hp
    rw [if_neg c6]
    refine RS_b (RS_m (hf (d + 1) _ (n + 1) a2 (by omega)) (fun _ h => h) (fun t p' n' h => ?_))
    obtain ⟨b1, b2, b3, b4, b5, b6, b7⟩ := h
    by_cases c7 : sA sg p' = sA sg p + 2
    · rw [if_pos c7]
      have hl := sA_lt (sg := sg) (p := p') (by omega)
      obtain ⟨e1, e2, e3⟩ := sk_p (sg := sg) (p := p' + 1) (by omega)
      refine RS_b (RS_m (ho d (b + 1) _ n' e2 b5) (fun _ h => h) (fun g p'' n'' h => ?_))
      obtain ⟨f1, f2, f3, f4, f5, f6, f7⟩ := h
      exact ⟨by dsimp only; omega, f2, f3, by dsimp only; rw [sz]; omega, f5, wf_join (by split <;> omega) (by split <;> omega) b6 f6, f7⟩
    · rw [if_neg c7]; exact b2
  rw [if_neg c5]
  by_cases c6 : sA sg p = 126
  · rw [if_pos c6]
    have hl := sA_lt (sg := sg) (p := p) (by omega)
    obtain ⟨a1, a2, a3⟩ := sk_p (sg := sg) (p := p + 1) (by omega)
    refine RS_b (RS_m (ho d (b + 1) _ (n + 1) a2 (by omega)) (fun _ h => h) (fun t p' n' h => ?_))
    obtain ⟨b1, b2, b3, b4, b5, b6, b7⟩ := h
    exact ⟨by dsimp only; omega, b2, b3, by dsimp only; rw [sz, sz]; omega, b5, ⟨by omega, by omega, Or.inr (Or.inl ⟨by omega, rfl⟩), Or.inr (Or.inl ⟨by omega, by omega, b6, rfl⟩)⟩, b7⟩
  rw [if_neg c6]
  by_cases c7 : isKn (sA sg p)
  · rw [if_pos c7]
    have hl := sA_lt (sg := sg) (p := p) (by unfold isKn at c7; omega)
    obtain ⟨a1, a2, a3⟩ := sk_p (sg := sg) (p := p + 1) (by omega)
    have hg := pG_p (if sA sg p = 75 ∨ sA sg p = 80 then 1 else 4) 0 48 (sk sg (p + 1)) a2 a3 (by omega) (by omega)
    have hg1 := pG_1 (sg := sg) (p := sk sg (p + 1))
    have hm : (pG sg (if sA sg p = 75 ∨ sA sg p = 80 then 1 else 4) 0 48 (sk sg (p + 1))).1 ≠ 0 → mOK (srt (sA sg p)) (pG sg (if sA sg p = 75 ∨ sA sg p = 80 then 1 else 4) 0 48 (sk sg (p + 1))).1 := by
      intro h0
      have h16 := hg.2.2.2.1
      revert h0 h16
      by_cases k : sA sg p = 75 ∨ sA sg p = 80
      · rw [if_pos k]
        intro h0 _
        refine Or.inr (Or.inr (Or.inl ⟨?_, by omega⟩))
        unfold srt
        rcases k with k | k <;> rw [k] <;> simp
      · rw [if_neg k]
        intro h0 h16
        refine Or.inr (Or.inr (Or.inr ⟨?_, by omega, h16⟩))
        unfold isKn at c7
        have : sA sg p = 69 ∨ sA sg p = 67 ∨ sA sg p = 68 := by omega
        unfold srt
        rcases this with k | k | k <;> rw [k] <;> simp
    generalize pG sg (if sA sg p = 75 ∨ sA sg p = 80 then 1 else 4) 0 48 (sk sg (p + 1)) = g at hg hm ⊢
    obtain ⟨g1, g2, g3, g4, g5, g6⟩ := hg
    by_cases c8 : g.1 = 0
    · rw [if_pos c8]; exact a2
    rw [if_neg c8]
    refine RS_b (RS_m (ho d (b + 1) _ (n + 1) g2 (by omega)) (fun _ h => h) (fun t p' n' h => ?_))
    obtain ⟨b1, b2, b3, b4, b5, b6, b7⟩ := h
    have hs : 5 ≤ srt (sA sg p) ∧ srt (sA sg p) ≤ 9 := by unfold srt; split <;> (try split) <;> (try split) <;> (try split) <;> omega
    exact ⟨by dsimp only; omega, b2, b3, by dsimp only; rw [sz, sz]; omega, b5, ⟨by omega, by omega, hm c8, Or.inr (Or.inl ⟨by omega, hs.2, b6, rfl⟩)⟩, b7⟩
  rw [if_neg c7]; exact hp
theorem PS_w {sg l : List Nat} {g : Nat → Nat → R} (h : PS sg l g) : PS sg [] g := fun p n hp hn => RS_m (h p n hp hn) (fun _ h => h) (fun _ _ _ h => ⟨h.1, h.2.1, h.2.2.1, h.2.2.2.1, h.2.2.2.2.1, h.2.2.2.2.2.1, fun _ h => absurd h (by simp)⟩)
theorem P_all (sg : List Nat) : ∀ k, (∀ d, PS sg [38, 124, 62] ((pA sg k).1 d)) ∧ (∀ d, PS sg [62, 124, 38] ((pA sg k).2.1 d)) ∧ (∀ d, PS sg [124, 38] ((pA sg k).2.2.1 d)) ∧ (∀ d, PS sg [38] ((pA sg k).2.2.2.1 d)) ∧ (∀ d b, PS sg [] ((pA sg k).2.2.2.2 d b))
  | 0 => ⟨fun _ _ _ _ _ => Nat.zero_le _, fun _ _ _ _ _ => Nat.zero_le _, fun _ _ _ _ _ => Nat.zero_le _, fun _ _ _ _ _ => Nat.zero_le _, fun _ _ _ _ _ _ => Nat.zero_le _⟩
  | k + 1 => by
    obtain ⟨hf, hi, he, hb, ho⟩ := P_all sg k
    refine ⟨fun d p n hp hn => ?_, fun d p n hp hn => ?_, fun d p n hp hn => ?_, fun d p n hp hn => ?_, PO (fun d => PS_w (hf d)) ho⟩
    · refine RS_b (RS_m (hi d p n hp hn) (fun _ h => h) (fun t p' n' h => ?_))
      obtain ⟨b1, b2, b3, b4, b5, b6, b7⟩ := h
      refine RS_m (PZ (l2 := [38, 124, 62]) (by omega) (by omega) (by omega) (hi d) t p' n' b2 b3 b5 b6 (fun x hx _ => b7 x (by simp at hx ⊢; omega)) (fun x hx => by simp at hx ⊢; omega)) (fun _ h => h) (fun t' p'' n'' h => ?_)
      obtain ⟨e1, e2, e3, e4, e5, e6, e7⟩ := h
      exact ⟨by omega, e2, e3, by omega, e5, e6, e7⟩
    · refine RS_b (RS_m (he d p n hp hn) (fun _ h => h) (fun t p' n' h => ?_))
      obtain ⟨b1, b2, b3, b4, b5, b6, b7⟩ := h
      refine RS_m (PZ (l2 := [62, 124, 38]) (by omega) (by omega) (by omega) (hi d) t p' n' b2 b3 b5 b6 (fun x hx e => (List.mem_cons.mp hx).elim (fun q => q ▸ e) (fun q => b7 x q)) (fun x hx => hx)) (fun _ h => h) (fun t' p'' n'' h => ?_)
      obtain ⟨e1, e2, e3, e4, e5, e6, e7⟩ := h
      exact ⟨by omega, e2, e3, by omega, e5, e6, e7⟩
    · refine RS_b (RS_m (hb d p n hp hn) (fun _ h => h) (fun t p' n' h => ?_))
      obtain ⟨b1, b2, b3, b4, b5, b6, b7⟩ := h
      refine RS_m (PL (by omega) (by omega) (by omega) (hb d) 201 t p' n' b2 b3 b5 b6 b7) (fun _ h => h) (fun t' p'' n'' h => ?_)
      obtain ⟨e1, e2, e3, e4, e5, e6, e7⟩ := h
      exact ⟨by omega, e2, e3, by omega, e5, e6, e7⟩
    · refine RS_b (RS_m (ho d 0 p n hp hn) (fun _ h => h) (fun t p' n' h => ?_))
      obtain ⟨b1, b2, b3, b4, b5, b6, b7⟩ := h
      refine RS_m (PL (by omega) (by omega) (by omega) (ho d 0) 201 t p' n' b2 b3 b5 b6 b7) (fun _ h => h) (fun t' p'' n'' h => ?_)
      obtain ⟨e1, e2, e3, e4, e5, e6, e7⟩ := h
      exact ⟨by omega, e2, e3, by omega, e5, e6, e7⟩
