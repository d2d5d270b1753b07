/-! numbers, rows, loops -/
theorem nI_mul (a b : Nat) : nI a * nI b = nI (a * b) := by
  apply Int32.toBitVec_inj.mp
  rw [Int32.toBitVec_mul]
  show BitVec.ofNat 32 a * BitVec.ofNat 32 b = BitVec.ofNat 32 (a * b)
  exact (BitVec.ofNat_mul ..).symm
theorem nI_sub {a b : Nat} (h : b ≤ a) : nI a - nI b = nI (a - b) := by
  have e : nI a = nI (a - b) + nI b := by rw [nI_add, Nat.sub_add_cancel h]
  rw [e, Int32.add_sub_cancel]
theorem nI_s1 {a : Nat} (h : 1 ≤ a) : nI a - 1 = nI (a - 1) := by
  rw [show (1 : Int32) = nI 1 from rfl, nI_sub h]
theorem nI_eq0 {a : Nat} (ha : a < 2 ^ 31) : nI a = 0 ↔ a = 0 := by
  rw [show (0 : Int32) = nI 0 from rfl, nI_eq ha (by omega)]
theorem nI_ltz {a : Nat} (ha : a < 2 ^ 31) : (nI a < 0) = False := by
  simp only [nI_pos ha]
theorem nI_gez {a : Nat} (ha : a < 2 ^ 31) : (0 ≤ nI a) = True := by
  simp only [nI_pos' ha]
theorem xin_nI {j n : Nat} (h : j < n) (hn : n < 2 ^ 31) : xin (nI j) n = true := by
  simp only [xin, nI_clamp (Nat.lt_trans h hn), nI_pos' (Nat.lt_trans h hn), h, decide_true, Bool.and_self]
theorem xgrd_t {β : Type} (o : Option β) : xgrd true o = o := rfl
theorem xgrd_in {β : Type} {j n : Nat} (h : j < n) (hn : n < 2 ^ 31) (o : Option β) : xgrd (xin (nI j) n) o = o := by rw [xin_nI h hn]; rfl
theorem k0 : (0 : Int32) = nI 0 := rfl
theorem k1 : (1 : Int32) = nI 1 := rfl
theorem k2 : (2 : Int32) = nI 2 := rfl
theorem k3 : (3 : Int32) = nI 3 := rfl
theorem k4 : (4 : Int32) = nI 4 := rfl
theorem k5 : (5 : Int32) = nI 5 := rfl
theorem k6 : (6 : Int32) = nI 6 := rfl
theorem k7 : (7 : Int32) = nI 7 := rfl
theorem k8 : (8 : Int32) = nI 8 := rfl
theorem k9 : (9 : Int32) = nI 9 := rfl
theorem k10 : (10 : Int32) = nI 10 := rfl
theorem k11 : (11 : Int32) = nI 11 := rfl
theorem k12 : (12 : Int32) = nI 12 := rfl
theorem k13 : (13 : Int32) = nI 13 := rfl
theorem k14 : (14 : Int32) = nI 14 := rfl
theorem k15 : (15 : Int32) = nI 15 := rfl
theorem k16 : (16 : Int32) = nI 16 := rfl
theorem k30 : (30 : Int32) = nI 30 := rfl
theorem k32 : (32 : Int32) = nI 32 := rfl
theorem k63 : (63 : Int32) = nI 63 := rfl
theorem k64 : (64 : Int32) = nI 64 := rfl
theorem k126 : (126 : Int32) = nI 126 := rfl
theorem k127 : (127 : Int32) = nI 127 := rfl
theorem k128 : (128 : Int32) = nI 128 := rfl
theorem k150 : (150 : Int32) = nI 150 := rfl
theorem k200 : (200 : Int32) = nI 200 := rfl
theorem k255 : (255 : Int32) = nI 255 := rfl
theorem k256 : (256 : Int32) = nI 256 := rfl
theorem k2000 : (2000 : Int32) = nI 2000 := rfl
theorem kof (n : Nat) : Int32.ofNat n = nI n := rfl
/-- an int is a number from 0 on, or below 0 -/
theorem i_cases (x : Int32) : x < 0 ∨ ∃ j : Nat, j < 2 ^ 31 ∧ x = nI j := by
  by_cases h : x < 0
  · exact Or.inl h
  · exact Or.inr (nI_of h)
theorem neg_lt {x : Int32} {j : Nat} (h : x < 0) (hj : j < 2 ^ 31) : x < nI j := by
  have h1 : x.toInt < 0 := by
    have := Int32.lt_iff_toInt_lt.mp h
    simpa using this
  apply Int32.lt_iff_toInt_lt.mpr
  rw [nI_toInt hj]; omega
theorem neg_nle {x : Int32} {j : Nat} (h : x < 0) (hj : j < 2 ^ 31) : ¬ nI j ≤ x := by
  intro h2
  have h3 := neg_lt h hj
  exact absurd h3 (Int32.not_lt.mpr h2)
/-! rows -/
theorem xup_at {α : Type} (f : Nat → Nat → α) (a k : Nat) (v : α) : xup f a k v a k = v := by simp [xup]
theorem xup_na {α : Type} (f : Nat → Nat → α) (a k : Nat) (v : α) {x : Nat} (j : Nat) (h : x ≠ a) : xup f a k v x j = f x j := by simp [xup, h]
theorem xup_nk {α : Type} (f : Nat → Nat → α) (a k : Nat) (v : α) (x : Nat) {j : Nat} (h : j ≠ k) : xup f a k v x j = f x j := by
  unfold xup
  by_cases h2 : x = a
  · subst h2; simp [h]
  · simp [h2]
def upP {α : Type} (f : Nat → Nat → α) (a lo n : Nat) (p : Nat → Bool) (g : Nat → α) : Nat → Nat → α := fun x j => if x = a ∧ lo ≤ j ∧ j < lo + n ∧ p (j - lo) = true then g (j - lo) else f x j
section
variable {α : Type} {f : Nat → Nat → α} {a lo n : Nat} {p : Nat → Bool} {g : Nat → α}
theorem upP_0 : upP f a lo 0 p g = f := by
  funext x j
  unfold upP
  rw [if_neg (by omega)]
theorem upP_t (h : p n = true) {v : α} (hv : v = g n) : xup (upP f a lo n p g) a (lo + n) v = upP f a lo (n + 1) p g := by
  subst hv
  funext x j
  by_cases hx : x = a
  · subst hx
    by_cases hj : j = lo + n
    · subst hj
      rw [xup_at]
      unfold upP
      rw [if_pos ⟨rfl, by omega, by omega, by rw [Nat.add_sub_cancel_left]; exact h⟩, Nat.add_sub_cancel_left]
    · rw [xup_nk _ _ _ _ _ hj]
      unfold upP
      by_cases hc : lo ≤ j ∧ j < lo + n ∧ p (j - lo) = true
      · rw [if_pos ⟨rfl, hc⟩, if_pos ⟨rfl, hc.1, by omega, hc.2.2⟩]
      · rw [if_neg (fun h => hc h.2), if_neg (fun h => hc ⟨h.2.1, by omega, h.2.2.2⟩)]
  · rw [xup_na _ _ _ _ _ hx]
    unfold upP
    rw [if_neg (fun h => hx h.1), if_neg (fun h => hx h.1)]
theorem upP_f (h : p n = false) : upP f a lo (n + 1) p g = upP f a lo n p g := by
  funext x j
  unfold upP
  by_cases hj : j = lo + n
  · subst hj
    rw [if_neg (by rw [Nat.add_sub_cancel_left, h]; simp), if_neg (by omega)]
  · by_cases hc : x = a ∧ lo ≤ j ∧ j < lo + n ∧ p (j - lo) = true
    · rw [if_pos hc, if_pos ⟨hc.1, hc.2.1, by omega, hc.2.2.2⟩]
    · rw [if_neg hc, if_neg (fun h => hc ⟨h.1, h.2.1, by omega, h.2.2.2⟩)]
theorem upP_in {u : Nat} (hu : u < n) (hp : p u = true) : upP f a lo n p g a (lo + u) = g u := by
  unfold upP
  rw [if_pos ⟨rfl, by omega, by omega, by rw [Nat.add_sub_cancel_left]; exact hp⟩, Nat.add_sub_cancel_left]
theorem upP_np {u : Nat} (hp : p u = false) : upP f a lo n p g a (lo + u) = f a (lo + u) := by
  unfold upP
  rw [if_neg (by rw [Nat.add_sub_cancel_left, hp]; simp)]
theorem upP_na {x : Nat} (h : x ≠ a) (j : Nat) : upP f a lo n p g x j = f x j := by
  unfold upP
  rw [if_neg (fun c => h c.1)]
theorem upP_out {j : Nat} (h : j < lo ∨ lo + n ≤ j) (x : Nat) : upP f a lo n p g x j = f x j := by
  unfold upP
  rw [if_neg (by omega)]
end
/-- a row is filled without a test -/
abbrev tt : Nat → Bool := fun _ => true
/-! what a program answers -/
def oK {α : Type} (o : Option α) (Q : α → Prop) : Prop := ∃ r, o = some r ∧ Q r
theorem oK_some {α : Type} {r : α} {Q : α → Prop} (h : Q r) : oK (some r) Q := ⟨r, rfl, h⟩
theorem oK_mono {α : Type} {o : Option α} {P Q : α → Prop} (h : oK o P) (k : ∀ r, P r → Q r) : oK o Q := by
  obtain ⟨r, e, h⟩ := h
  exact ⟨r, e, k r h⟩
theorem oK_bind {α β : Type} {o : Option α} {f : α → Option β} {P : α → Prop} {Q : β → Prop} (h : oK o P) (k : ∀ r, P r → oK (f r) Q) : oK (o.bind f) Q := by
  obtain ⟨r, rfl, h⟩ := h
  exact k r h
theorem oK_e {α β : Type} {o : Option α} {f : α → Option β} {r : α} {Q : β → Prop} (h : o = some r) (k : oK (f r) Q) : oK (o.bind f) Q := by
  subst h; exact k
theorem oK_if {α : Type} {c : Prop} [Decidable c] {x y : Option α} {Q : α → Prop} (h1 : c → oK x Q) (h2 : ¬ c → oK y Q) : oK (if c then x else y) Q := by
  by_cases h : c
  · rw [if_pos h]; exact h1 h
  · rw [if_neg h]; exact h2 h
theorem oK_eq {α : Type} {o : Option α} {r : α} (h : oK o (fun q => q = r)) : o = some r := by
  obtain ⟨q, e, rfl⟩ := h
  exact e
/-- counting up to e -/
theorem lpu {σ : Type} (W : Nat → Nat → σ → Prop) (I : Nat → σ → Prop) (e : Nat) (hx : ∀ n s, I e s → W (n + 1) e s) (hs : ∀ n i s, i < e → I i s → (∀ s', I (i + 1) s' → W n (i + 1) s') → W (n + 1) i s) : ∀ d i s n, i + d = e → d < n → I i s → W n i s
  | 0, i, s, 0, _, h2, _ => absurd h2 (by omega)
  | 0, i, s, n + 1, h1, _, h3 => by
    have : i = e := by omega
    subst this; exact hx n s h3
  | d + 1, i, s, 0, _, h2, _ => absurd h2 (by omega)
  | d + 1, i, s, n + 1, h1, h2, h3 => hs n i s (by omega) h3 (fun s' h4 => lpu W I e hx hs d (i + 1) s' n (by omega) (by omega) h4)
theorem lpz {σ : Type} (W : Nat → Nat → σ → Prop) (I : Nat → σ → Prop) (e : Nat) {s : σ} {n : Nat} (hn : e < n) (h0 : I 0 s) (hx : ∀ n s, I e s → W (n + 1) e s) (hs : ∀ n i s, i < e → I i s → (∀ s', I (i + 1) s' → W n (i + 1) s') → W (n + 1) i s) : W n 0 s := lpu W I e hx hs e 0 s n (by omega) hn h0
/-- the least below n -/
def lst (p : Nat → Bool) : Nat → Nat
  | 0 => 0
  | n + 1 => if lst p n < n then lst p n else if p n then n else n + 1
theorem lst_le (p : Nat → Bool) : ∀ n, lst p n ≤ n
  | 0 => Nat.le_refl _
  | n + 1 => by
    have := lst_le p n
    rw [lst]
    split
    · omega
    · split <;> omega
theorem lst_no (p : Nat → Bool) : ∀ n j, j < lst p n → p j = false
  | 0, j, h => absurd h (by simp [lst])
  | n + 1, j, h => by
    have h0 := lst_le p n
    rw [lst] at h
    split at h
    · exact lst_no p n j h
    · split at h
      · exact lst_no p n j (by omega)
      · by_cases hj : j = n
        · subst hj; simpa using ‹¬ p j = true›
        · exact lst_no p n j (by omega)
theorem lst_yes (p : Nat → Bool) : ∀ n, lst p n < n → p (lst p n) = true
  | 0, h => absurd h (by omega)
  | n + 1, h => by
    rw [lst] at h ⊢
    by_cases h1 : lst p n < n
    · rw [if_pos h1]; exact lst_yes p n h1
    · rw [if_neg h1] at h ⊢
      by_cases h2 : p n = true
      · rw [if_pos h2]; exact h2
      · rw [if_neg h2] at h; omega
theorem lst_lt {p : Nat → Bool} {n j : Nat} (hj : j < n) (h : p j = true) : lst p n < n := by
  have h0 := lst_le p n
  by_cases h1 : lst p n < n
  · exact h1
  · have := lst_no p n j (by omega)
    rw [h] at this; cases this
theorem lst_lej {p : Nat → Bool} {n j : Nat} (h : p j = true) (hj : j ≤ n) : lst p n ≤ j := by
  by_cases h1 : lst p n ≤ j
  · exact h1
  · have := lst_no p n j (by omega)
    rw [h] at this; cases this
theorem lst_eq {p : Nat → Bool} {n k : Nat} (hk : k < n) (h : p k = true) (h2 : ∀ j, j < k → p j = false) : lst p n = k := by
  have h1 := lst_lej h (Nat.le_of_lt hk)
  have h3 := lst_yes p n (lst_lt hk h)
  by_cases h4 : lst p n < k
  · rw [h2 _ h4] at h3; cases h3
  · omega
theorem lst_none {p : Nat → Bool} {n : Nat} (h2 : ∀ j, j < n → p j = false) : lst p n = n := by
  have h0 := lst_le p n
  by_cases h4 : lst p n < n
  · have h3 := lst_yes p n h4
    rw [h2 _ h4] at h3; cases h3
  · omega
theorem lst_congr {p q : Nat → Bool} {n : Nat} (h : ∀ j, j < n → p j = q j) : lst p n = lst q n := by
  by_cases h1 : lst p n < n
  · exact (lst_eq h1 (by rw [← h _ h1]; exact lst_yes p n h1) (fun j hj => by rw [← h j (by omega)]; exact lst_no p n j hj)).symm
  · have h0 := lst_le p n
    have e : lst p n = n := by omega
    rw [e]
    exact (lst_none (fun j hj => by rw [← h j hj]; exact lst_no p n j (by omega))).symm
