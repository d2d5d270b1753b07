/-! worlds, plainly: what the calls do to them -/
def wAdd (W : Wd) (b : Nat) : Wd := (W.1 + 1, fun w => if w = W.1 then b else W.2.1 w, fun g w => if w = W.1 then W.1 else W.2.2 g w)
theorem wAdd_ok {W : Wd} (h : wOK W) (h2 : W.1 < 64) {b : Nat} (hb : b < 256) : wOK (wAdd W b) := by
  refine ⟨by show W.1 + 1 ≤ 64; omega, ?_, ?_⟩
  · intro w hw
    show (if w = W.1 then b else W.2.1 w) < 256
    by_cases e : w = W.1
    · rw [if_pos e]; exact hb
    · rw [if_neg e]; exact h.2.1 w (by have : w < W.1 + 1 := hw; omega)
  · intro g hg w hw
    show (if w = W.1 then W.1 else W.2.2 g w) ≤ w ∧ (if (if w = W.1 then W.1 else W.2.2 g w) = W.1 then W.1 else W.2.2 g (if w = W.1 then W.1 else W.2.2 g w)) = (if w = W.1 then W.1 else W.2.2 g w)
    by_cases e : w = W.1
    · simp [e]
    · have hw2 : w < W.1 := by have : w < W.1 + 1 := hw; omega
      have := h.2.2 g hg w hw2
      have e2 : ¬ W.2.2 g w = W.1 := by omega
      simp [e, e2, this]
theorem wAdd_C {D D' : xDt} {a ta ce : Nat} {W : Wd} (h : wOK W) (h2 : W.1 < 64) {b : Nat} (hC : wC D a ta ce W) (h0 : D'.1 a 0 = nI (W.1 + 1)) (h1 : ∀ k, k < 8 → ∀ j, bt (D'.2 ta k) j = if j = W.1 then b.testBit k else bt (D.2 ta k) j) (h3 : ∀ g, g < 4 → ∀ w, w < 64 → D'.2 ce (g * 64 + w) = if w = W.1 then jlshl 1 (nI W.1) else D.2 ce (g * 64 + w)) : wC D' a ta ce (wAdd W b) := by
  refine ⟨h0, ?_, ?_⟩
  · intro k hk w hw
    show _ = (if w = W.1 then b else W.2.1 w).testBit k
    rw [h1 k hk]
    by_cases e : w = W.1
    · simp [e]
    · simp only [e, if_false]
      exact hC.2.1 k hk w (by have : w < W.1 + 1 := hw; omega)
  · intro g hg w hw
    have hw2 : w < W.1 + 1 := hw
    rw [h3 g hg w (by omega)]
    apply bt_ext
    intro j hj
    rw [bt_cs _ (by show W.1 + 1 ≤ 64; omega)]
    show _ = (decide (j < W.1 + 1) && decide ((if j = W.1 then W.1 else W.2.2 g j) = (if w = W.1 then W.1 else W.2.2 g w)))
    by_cases e : w = W.1
    · rw [if_pos e, bt_bit h2]
      by_cases e2 : j = W.1
      · simp [e, e2]
      · by_cases e3 : j < W.1
        · have := (h.2.2 g hg j e3).1
          have e4 : ¬ W.2.2 g j = W.1 := by omega
          simp [e, e2, e4]
        · have : ¬ j < W.1 + 1 := by omega
          simp [e2, this]
    · have hw3 : w < W.1 := by omega
      rw [if_neg e, hC.2.2 g hg w hw3, bt_cs _ h.1]
      by_cases e2 : j = W.1
      · have := (h.2.2 g hg w hw3).1
        have e4 : ¬ W.1 = W.2.2 g w := by omega
        simp [e, e2, e4]
      · have : j < W.1 + 1 ↔ j < W.1 := by omega
        simp [e, e2, this]
theorem wAdd_M {m m' : Int32} {fa fa' fc fc' : Nat → Int32} {W : Wd} (h2 : W.1 < 64) {b : Nat} (hM : wM m fa fc W) (h0 : m' = nI (W.1 + 1)) (h1 : ∀ j, fa' j = if j = W.1 then nI b else fa j) (h3 : ∀ g, g < 4 → ∀ w, w < 64 → fc' (64 * g + w) = if w = W.1 then nI W.1 else fc (64 * g + w)) : wM m' fa' fc' (wAdd W b) := by
  refine ⟨h0, ?_, ?_⟩
  · intro w hw
    have hw2 : w < W.1 + 1 := hw
    show _ = nI (if w = W.1 then b else W.2.1 w)
    rw [h1 w]
    by_cases e : w = W.1
    · simp [e]
    · simp only [e, if_false]
      exact hM.2.1 w (by omega)
  · intro g hg w hw
    have hw2 : w < W.1 + 1 := hw
    show _ = nI (if w = W.1 then W.1 else W.2.2 g w)
    rw [h3 g hg w (by omega)]
    by_cases e : w = W.1
    · simp [e]
    · simp only [e, if_false]
      exact hM.2.2 g hg w (by omega)
/-- those of p become one cell -/
def wG (W : Wd) (g : Nat) (p : Nat → Bool) : Wd := (W.1, W.2.1, fun h x => if h = g ∧ p x = true then lst p 64 else W.2.2 h x)
/-- p is made of whole cells -/
def cl (W : Wd) (g : Nat) (p : Nat → Bool) : Prop := (∀ x, p x = true → x < W.1) ∧ ∀ x y, x < W.1 → y < W.1 → W.2.2 g x = W.2.2 g y → p x = p y
theorem wG_ok {W : Wd} (h : wOK W) {g : Nat} {p : Nat → Bool} (hg : g < 4) (hp : cl W g p) : wOK (wG W g p) := by
  have hn := h.1
  refine ⟨h.1, h.2.1, ?_⟩
  intro k hk w hw
  have hw2 : w < W.1 := hw
  show (if k = g ∧ p w = true then lst p 64 else W.2.2 k w) ≤ w ∧ (if k = g ∧ p (if k = g ∧ p w = true then lst p 64 else W.2.2 k w) = true then lst p 64 else W.2.2 k (if k = g ∧ p w = true then lst p 64 else W.2.2 k w)) = (if k = g ∧ p w = true then lst p 64 else W.2.2 k w)
  by_cases hc : k = g ∧ p w = true
  · rw [if_pos hc]
    have h1 : lst p 64 < 64 := lst_lt (by omega) hc.2
    refine ⟨lst_lej hc.2 (by omega), ?_⟩
    rw [if_pos ⟨hc.1, lst_yes p 64 h1⟩]
  · rw [if_neg hc]
    have h1 := h.2.2 k hk w hw2
    refine ⟨h1.1, ?_⟩
    rw [if_neg, h1.2]
    rintro ⟨e, h2⟩
    subst e
    have := hp.2 (W.2.2 k w) w (by omega) hw2 h1.2
    rw [h2] at this
    exact hc ⟨rfl, this.symm⟩
theorem wG_C {D : xDt} {D2 : Nat → Nat → Int64} {a ta ce : Nat} {W : Wd} (h : wOK W) {g : Nat} (hg : g < 4) {x : Int64} (hp : cl W g (bt x)) (hd : ta ≠ ce) (hC : wC D a ta ce W) (hD : D2 = upP D.2 ce (g * 64) W.1 (bt x) (fun _ => x)) : wC (D.1, D2) a ta ce (wG W g (bt x)) := by
  subst hD
  have hn := h.1
  refine ⟨hC.1, ?_, ?_⟩
  · intro k hk w hw
    show bt (upP D.2 ce (g * 64) W.1 (bt x) (fun _ => x) ta k) w = _
    rw [upP_na hd]
    exact hC.2.1 k hk w hw
  · intro k hk w hw
    have hw2 : w < W.1 := hw
    show upP D.2 ce (g * 64) W.1 (bt x) (fun _ => x) ce (k * 64 + w) = _
    by_cases e : k = g
    · subst e
      by_cases hb : bt x w = true
      · rw [upP_in hw2 hb]
        apply bt_ext
        intro j hj
        rw [bt_cs (wG W k (bt x)) h.1]
        show _ = (decide (j < W.1) && decide ((if k = k ∧ bt x j = true then lst (bt x) 64 else W.2.2 k j) = (if k = k ∧ bt x w = true then lst (bt x) 64 else W.2.2 k w)))
        by_cases hbj : bt x j = true
        · have := hp.1 j hbj
          simp [hb, hbj, this]
        · by_cases hj2 : j < W.1
          · have hne : ¬ W.2.2 k j = lst (bt x) 64 := by
              intro e2
              have h1 : lst (bt x) 64 < 64 := lst_lt (by omega) hb
              have h2 := lst_yes _ _ h1
              have h3 := (h.2.2 k hk j hj2)
              have h4 := hp.2 (W.2.2 k j) j (by omega) hj2 h3.2
              rw [e2, h2] at h4
              exact hbj h4.symm
            simp [hb, hbj, hne]
          · simp [hbj, hj2]
      · have hb2 : bt x w = false := by simpa using hb
        rw [upP_np hb2, hC.2.2 k hk w hw2]
        apply bt_ext
        intro j hj
        rw [bt_cs W h.1, bt_cs (wG W k (bt x)) h.1]
        show _ = (decide (j < W.1) && decide ((if k = k ∧ bt x j = true then lst (bt x) 64 else W.2.2 k j) = (if k = k ∧ bt x w = true then lst (bt x) 64 else W.2.2 k w)))
        by_cases hj2 : j < W.1
        · by_cases hbj : bt x j = true
          · have e1 : ¬ W.2.2 k j = W.2.2 k w := by
              intro e2
              have := hp.2 j w hj2 hw2 e2
              rw [hbj, hb2] at this; cases this
            have e3 : ¬ lst (bt x) 64 = W.2.2 k w := by
              intro e2
              have h1 : lst (bt x) 64 < 64 := lst_lt hj hbj
              have h2 := lst_yes _ _ h1
              have h3 := (h.2.2 k hk w hw2)
              have h4 := hp.2 (W.2.2 k w) w (by omega) hw2 h3.2
              rw [← e2, h2, hb2] at h4; cases h4
            simp [hj2, hbj, hb2, e1, e3]
          · simp [hj2, hbj, hb2]
        · simp [hj2]
    · rw [upP_out (by omega), hC.2.2 k hk w hw2]
      unfold cs
      apply mkS_congr
      intro j hj
      show _ = (decide (j < W.1) && decide ((if k = g ∧ bt x j = true then lst (bt x) 64 else W.2.2 k j) = (if k = g ∧ bt x w = true then lst (bt x) 64 else W.2.2 k w)))
      simp [e]
theorem wG_M {m : Int32} {fa fc fc' : Nat → Int32} {W : Wd} (hn : W.1 ≤ 64) {g : Nat} (hg : g < 4) {x : Int64} (hM : wM m fa fc W) (hf : ∀ j, fc' j = if 64 * g ≤ j ∧ j < 64 * g + W.1 ∧ bt x (j - 64 * g) = true then nI (lst (bt x) 64) else fc j) : wM m fa fc' (wG W g (bt x)) := by
  refine ⟨hM.1, hM.2.1, ?_⟩
  intro k hk w hw
  have hw2 : w < W.1 := hw
  show _ = nI (if k = g ∧ bt x w = true then lst (bt x) 64 else W.2.2 k w)
  rw [hf]
  by_cases e : k = g
  · subst e
    rw [Nat.add_sub_cancel_left]
    by_cases hb : bt x w = true
    · rw [if_pos ⟨by omega, by omega, hb⟩, if_pos ⟨rfl, hb⟩]
    · rw [if_neg (fun c => hb c.2.2), if_neg (fun c => hb c.2)]
      exact hM.2.2 k hk w hw2
  · rw [if_neg (by omega), if_neg (fun c => e c.1)]
    exact hM.2.2 k hk w hw2
theorem upP_f2 {α : Type} (f : Nat → Nat → α) (a lo n : Nat) (p : Nat → Bool) (g : Nat → α) (j : Nat) : upP f a lo n p g a j = if lo ≤ j ∧ j < lo + n ∧ p (j - lo) = true then g (j - lo) else f a j := by
  unfold upP
  by_cases h : lo ≤ j ∧ j < lo + n ∧ p (j - lo) = true
  · rw [if_pos ⟨rfl, h⟩, if_pos h]
  · rw [if_neg (fun c => h c.2), if_neg h]
/-- a union of two cells is made of whole cells -/
theorem cl_tie {W : Wd} (h : wOK W) {g u v : Nat} : cl W g (bt (cs W g u ||| cs W g v)) := by
  constructor
  · intro x hx
    rw [bt_or, bt_cs _ h.1, bt_cs _ h.1] at hx
    by_cases hc : x < W.1
    · exact hc
    · simp [hc] at hx
  · intro x y hx hy e
    rw [bt_or, bt_or, bt_cs _ h.1, bt_cs _ h.1, bt_cs _ h.1, bt_cs _ h.1, e]
    simp [hx, hy]
