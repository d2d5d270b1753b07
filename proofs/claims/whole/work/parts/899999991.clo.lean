/-! decide: what differs in some places alone -/
theorem xr_lo (w : Nat) {b j : Nat} (hj : j < 6) (hb : b < 64) : (64 * w + b) ^^^ 2 ^ j = 64 * w + (b ^^^ 2 ^ j) ∧ b ^^^ 2 ^ j < 64 := by
  have h2 : 2 ^ j < 2 ^ 6 := Nat.pow_lt_pow_right (by omega) hj
  have hlt : b ^^^ 2 ^ j < 64 := Nat.xor_lt_two_pow (n := 6) hb h2
  refine ⟨?_, hlt⟩
  apply Nat.eq_of_testBit_eq
  intro i
  rw [Nat.testBit_xor, Nat.testBit_two_pow]
  by_cases c : i < 6
  · rw [tl_lo w b c hb, tl_lo w _ c hlt, Nat.testBit_xor, Nat.testBit_two_pow]
  · rw [tl_hi w b (by omega) hb, tl_hi w _ (by omega) hlt]
    have : ¬ j = i := by omega
    simp [this]
theorem xr_hi (w : Nat) {b j : Nat} (hj : 6 ≤ j) (hb : b < 64) : (64 * w + b) ^^^ 2 ^ j = 64 * (w ^^^ 2 ^ (j - 6)) + b := by
  apply Nat.eq_of_testBit_eq
  intro i
  rw [Nat.testBit_xor, Nat.testBit_two_pow]
  by_cases c : i < 6
  · rw [tl_lo w b c hb, tl_lo _ b c hb]
    have : ¬ j = i := by omega
    simp [this]
  · rw [tl_hi w b (by omega) hb, tl_hi _ b (by omega) hb, Nat.testBit_xor, Nat.testBit_two_pow]
    congr 1
    by_cases e : j = i
    · subst e; simp
    · have : ¬ j - 6 = i - 6 := by omega
      simp [e, this]
theorem fl_1 : ∀ b, b < 64 → ∀ j, j < 6 → b ^^^ 2 ^ j = if b.testBit j = true then b - 2 ^ j else b + 2 ^ j := by decide +kernel
theorem fl_2 : ∀ b, b < 64 → ∀ j, j < 6 → (decide (2 ^ j ≤ b) || !b.testBit j) = true := by decide +kernel
theorem fl_3 : ∀ b, b < 64 → ∀ j, j < 6 → (b.testBit j || decide (b + 2 ^ j < 64)) = true := by decide +kernel
theorem fl_4 : ∀ b, b < 64 → ∀ j, j < 6 → (b + 2 ^ j).testBit j = !b.testBit j := by decide +kernel
theorem lo_b (x : Int64) {j b : Nat} (hj : j < 6) (hb : b < 64) : bt ((x ||| (jlushr (x &&& (xSETv j)) (nI (2 ^ j)))) ||| ((jlshl x (nI (2 ^ j))) &&& (xSETv j))) b = (bt x b || bt x (b ^^^ 2 ^ j)) := by
  have h2 : 2 ^ j < 2 ^ 6 := Nat.pow_lt_pow_right (by omega) hj
  have h64 : 2 ^ j < 64 := h2
  rw [bt_or, bt_or, bt_ushr _ h64, bt_and, bt_and, bt_shl _ h64, set_b j hj b hb, fl_1 b hb j hj]
  have f2 := fl_2 b hb j hj
  have f3 := fl_3 b hb j hj
  have f4 := fl_4 b hb j hj
  have hS : bt (xSETv j) (2 ^ j + b) = (decide (2 ^ j + b < 64) && (2 ^ j + b).testBit j) := by
    by_cases c : 2 ^ j + b < 64
    · rw [set_b j hj _ c]; simp [c]
    · rw [bt_ge (by omega)]; simp [c]
  rw [hS, Nat.add_comm (2 ^ j) b, f4]
  cases hbj : b.testBit j
  · rw [hbj] at f3
    have h3 : b + 2 ^ j < 64 := by simpa using f3
    simp [h3]
  · rw [hbj] at f2
    have h4 : 2 ^ j ≤ b := by simpa using f2
    simp [h4, hb]
theorem E_lo12 {F P : Nat} {W j : Nat} {S : Nat → Bool} (hW : W ≤ 128) (hj : j < 6) : ∀ (d w n : Nat) (D : xDt), w + d = W → d < n → D.1 222 9 = nI W → (∀ v, v < w → ∀ b, b < 64 → bt (D.2 236 v) b = (S (64 * v + b) || S ((64 * v + b) ^^^ 2 ^ j))) → (∀ v, w ≤ v → v < W → ∀ b, b < 64 → bt (D.2 236 v) b = S (64 * v + b)) → ∃ D', f_X0_leaveOpen_12 F P xS0 n 222 (nI j) (nI (2 ^ j)) (nI w) D = some D' ∧ rS D' 236 W (fun u => S u || S (u ^^^ 2 ^ j)) ∧ chL [236] D D'
  | _, _, 0, _, _, h, _, _, _ => absurd h (by omega)
  | 0, w, n + 1, D, h1, _, h9, h3, h4 => by
    refine ⟨D, ?_, fun v hv b hb => h3 v (by omega) b hb, chL_rfl _ _⟩
    rw [e_X0_leaveOpen_12, h9, if_pos (by rw [nI_leI (by omega) (by omega)]; omega)]
  | d + 1, w, n + 1, D, h1, h2, h9, h3, h4 => by
    have hw : w < W := by omega
    generalize hx : ((D.2 236 w ||| (jlushr (D.2 236 w &&& (xSETv j)) (nI (2 ^ j)))) ||| ((jlshl (D.2 236 w) (nI (2 ^ j))) &&& (xSETv j))) = x
    obtain ⟨D', e', a1, a2⟩ := E_lo12 (F := F) (P := P) (S := S) hW hj d (w + 1) n (D.1, xup D.2 236 w x) (by omega) (by omega) h9 (fun v hv b hb => by
      dsimp only
      by_cases c : v = w
      · subst c
        obtain ⟨q1, q2⟩ := xr_lo v hj hb
        rw [xup_at, ← hx, lo_b _ hj hb, h4 v (Nat.le_refl _) hw b hb, h4 v (Nat.le_refl _) hw _ q2, q1]
      · rw [xup_nk _ _ _ _ _ c]; exact h3 v (by omega) b hb) (fun v hv hv2 b hb => by
      dsimp only
      rw [xup_nk _ _ _ _ _ (by omega)]; exact h4 v (by omega) hv2 b hb)
    refine ⟨D', ?_, a1, chL_trans (chL_i (by simp) (chL_rfl _ _)) a2⟩
    rw [e_X0_leaveOpen_12, h9, if_neg (by rw [nI_leI (by omega) (by omega)]; omega), xgrd_in (by omega) (by omega), nI_clamp (by omega), xlet_q, xgrd_in hj (by omega), xgrd_in hj (by omega), nI_clamp (by omega), xgrd_in (by omega) (by omega), xlet_q, xlet_q, nI_1, hx]
    exact e'
theorem fw_1 : ∀ v, v < 128 → ∀ k, k < 7 → v ^^^ 2 ^ k = if v.testBit k = true then v - 2 ^ k else v + 2 ^ k := by decide +kernel
theorem fw_2 : ∀ v, v < 128 → ∀ k, k < 7 → v &&& 2 ^ k = if v.testBit k = true then 2 ^ k else 0 := by decide +kernel
theorem fw_3 : ∀ v, v < 128 → ∀ k, k < 7 → (decide (2 ^ k ≤ v) || !v.testBit k) = true := by decide +kernel
def lw (k i : Nat) : Nat := if i.testBit k = true then i - 2 ^ k else i
theorem tb_self (k : Nat) : (2 ^ k).testBit k = true := by rw [Nat.testBit_two_pow]; simp
theorem lw_p {k i : Nat} (hi : i < 128) (hk : k < 7) : (lw k i).testBit k = false ∧ lw k i ≤ i ∧ (i = lw k i ∨ (i = lw k i + 2 ^ k ∧ i ^^^ 2 ^ k = lw k i)) := by
  have f1 := fw_1 i hi k hk
  have f3 := fw_3 i hi k hk
  unfold lw
  cases hb : i.testBit k
  · rw [if_neg (by simp)]; exact ⟨hb, Nat.le_refl _, Or.inl rfl⟩
  · rw [hb] at f1 f3
    have h4 : 2 ^ k ≤ i := by simpa using f3
    rw [if_pos rfl] at f1
    rw [if_pos rfl]
    refine ⟨?_, Nat.sub_le _ _, Or.inr ⟨by omega, f1⟩⟩
    rw [← f1, Nat.testBit_xor, hb, tb_self]; rfl
theorem E_lo74 {F P : Nat} {W k m : Nat} {f0 : Nat → Int64} (hWm : W = 2 ^ m) (hW : W ≤ 128) (hk : k < m) : ∀ (d v n : Nat) (D : xDt), v + d = W → d < n → D.1 222 9 = nI W → (∀ i, i < W → D.2 236 i = if lw k i < v then f0 i ||| f0 (i ^^^ 2 ^ k) else f0 i) → ∃ D', f_X0_leaveOpen_74 F P xS0 n 222 (nI (2 ^ k)) (nI v) D = some D' ∧ (∀ i, i < W → D'.2 236 i = f0 i ||| f0 (i ^^^ 2 ^ k)) ∧ chL [236] D D'
  | d, v, 0, _, _, h, _, _ => absurd h (by omega)
  | d, v, n + 1, D, h1, h2, h9, h3 => by
    have hm7 : m ≤ 7 := by
      by_cases c : m ≤ 7
      · exact c
      · have : 2 ^ 8 ≤ 2 ^ m := Nat.pow_le_pow_right (by omega) (by omega)
        omega
    have hp : 2 ^ k < 2 ^ m := Nat.pow_lt_pow_right (by omega) hk
    have hx : ∀ i, i < W → i ^^^ 2 ^ k < W := fun i hi => by rw [hWm] at hi ⊢; exact Nat.xor_lt_two_pow hi hp
    rw [e_X0_leaveOpen_74, h9, nI_add]
    by_cases c : W ≤ v + 2 ^ k
    · rw [if_pos (by rw [nI_leI (by omega) (by omega)]; exact c)]
      refine ⟨D, rfl, fun i hi => ?_, chL_rfl _ _⟩
      rw [h3 i hi]
      obtain ⟨q1, q2, q3⟩ := lw_p (k := k) (show i < 128 by omega) (by omega)
      have hlt : lw k i + 2 ^ k < W := by
        have f1 := fw_1 (lw k i) (by omega) k (by omega)
        rw [q1, if_neg (by decide)] at f1
        rw [← f1]; exact hx _ (by omega)
      rw [if_pos (by omega)]
    · have hvW : v + 2 ^ k < W := by omega
      have hpos : 1 ≤ 2 ^ k := Nat.one_le_two_pow
      obtain ⟨d', rfl⟩ : ∃ d', d = d' + 1 := ⟨d - 1, by omega⟩
      have f2 := fw_2 v (by omega) k (by omega)
      rw [if_neg (by rw [nI_leI (by omega) (by omega)]; exact c), nI_and, f2]
      cases hb : v.testBit k
      · rw [if_pos (show nI (if false = true then 2 ^ k else 0) = 0 from rfl), xgrd_in (show v < 128 by omega) (by omega), xgrd_in (show v + 2 ^ k < 128 by omega) (by omega), nI_clamp (show v < 2 ^ 31 by omega), nI_clamp (show v + 2 ^ k < 2 ^ 31 by omega), xlet_q, xgrd_in (show v < 128 by omega) (by omega), xlet_q, xgrd_in (show v + 2 ^ k < 128 by omega) (by omega), xlet_q, e_X0_leaveOpen_125, xlet_q, nI_1]
        have f1 := fw_1 v (by omega) k (by omega)
        rw [hb, if_neg (by decide)] at f1
        have hlv : lw k v = v := by unfold lw; rw [hb, if_neg (by decide)]
        have hvb : (v + 2 ^ k).testBit k = true := by rw [← f1, Nat.testBit_xor, hb, tb_self]; rfl
        have hlv2 : lw k (v + 2 ^ k) = v := by unfold lw; rw [hvb, if_pos rfl]; omega
        have hx2 : (v + 2 ^ k) ^^^ 2 ^ k = v := by
          rw [← f1, Nat.xor_assoc, Nat.xor_self, Nat.xor_zero]
        have e1 : D.2 236 v = f0 v := by rw [h3 v (by omega), hlv, if_neg (by omega)]
        have e2 : D.2 236 (v + 2 ^ k) = f0 (v + 2 ^ k) := by rw [h3 _ hvW, hlv2, if_neg (by omega)]
        obtain ⟨D', e', a1, a2⟩ := E_lo74 (F := F) (P := P) (f0 := f0) hWm hW hk d' (v + 1) n (D.1, xup (xup D.2 236 v (D.2 236 v ||| D.2 236 (v + 2 ^ k))) 236 (v + 2 ^ k) (D.2 236 v ||| D.2 236 (v + 2 ^ k))) (by omega) (by omega) h9 (fun i hi => by
          dsimp only
          obtain ⟨q1, q2, q3⟩ := lw_p (k := k) (show i < 128 by omega) (by omega)
          by_cases ci : i = v + 2 ^ k
          · subst ci
            rw [xup_at, hlv2, if_pos (by omega), hx2, e1, e2, Int64.or_comm]
          · rw [xup_nk _ _ _ _ _ ci]
            by_cases cj : i = v
            · subst cj
              rw [xup_at, hlv, if_pos (by omega), f1, e1, e2]
            · rw [xup_nk _ _ _ _ _ cj, h3 i hi]
              have : lw k i ≠ v := by omega
              by_cases cl : lw k i < v
              · rw [if_pos cl, if_pos (by omega)]
              · rw [if_neg cl, if_neg (by omega)])
        exact ⟨D', e', a1, chL_trans (chL_i (D' := (D.1, xup D.2 236 v (D.2 236 v ||| D.2 236 (v + 2 ^ k)))) (by simp) (chL_i (by simp) (chL_rfl _ _))) a2⟩
      · rw [if_neg (show ¬ nI (if true = true then 2 ^ k else 0) = 0 from fun q => by rw [if_pos rfl, nI_eq0 (by omega)] at q; omega), e_X0_leaveOpen_125, xlet_q, nI_1]
        exact E_lo74 (F := F) (P := P) (f0 := f0) hWm hW hk d' (v + 1) n D (by omega) (by omega) h9 (fun i hi => by
          rw [h3 i hi]
          obtain ⟨q1, q2, q3⟩ := lw_p (k := k) (show i < 128 by omega) (by omega)
          have : lw k i ≠ v := fun q => by rw [q, hb] at q1; cases q1
          by_cases cl : lw k i < v
          · rw [if_pos cl, if_pos (by omega)]
          · rw [if_neg cl, if_neg (by omega)])
theorem E_lo {F P : Nat} (hF : 100000 < F) {D : xDt} {n j : Nat} {S : Nat → Bool} (hn : n ≤ 13) (hj : j < n) (h9 : D.1 222 9 = nI (wdn n)) (hS : rS D 236 (wdn n) S) : ∃ D', f_X0_leaveOpen F P xS0 222 (nI j) D = some D' ∧ rS D' 236 (wdn n) (fun u => S u || S (u ^^^ 2 ^ j)) ∧ chL [236] D D' := by
  obtain ⟨w1, w2, w3, w4⟩ := wdn_le hn
  rw [e_X0_leaveOpen]
  by_cases c : 6 ≤ j
  · rw [if_pos (show (6 : Int32) ≤ nI j from (nI_leI (a := 6) (by omega) (by omega)).mpr c), k6, nI_sub c, sh_1 _ (by omega), xlet_q]
    have hWm : wdn n = 2 ^ (n - 6) := by unfold wdn; rw [if_neg (by omega)]
    obtain ⟨D', e', a1, a2⟩ := E_lo74 (F := F) (P := P) (W := wdn n) (k := j - 6) (m := n - 6) (f0 := D.2 236) hWm w2 (by omega) (wdn n) 0 F D (by omega) (by omega) h9 (fun i hi => by rw [if_neg (by omega)])
    refine ⟨D', e', fun w hw b hb => ?_, a2⟩
    have hp : 2 ^ (j - 6) < 2 ^ (n - 6) := Nat.pow_lt_pow_right (by omega) (by omega)
    have hx : w ^^^ 2 ^ (j - 6) < wdn n := by rw [hWm] at hw ⊢; exact Nat.xor_lt_two_pow hw hp
    show _ = (S (64 * w + b) || S ((64 * w + b) ^^^ 2 ^ j))
    rw [a1 w hw, bt_or, hS w hw b hb, hS _ hx b hb, xr_hi w c hb]
  · rw [if_neg (show ¬ (6 : Int32) ≤ nI j from fun q => c ((nI_leI (a := 6) (by omega) (by omega)).mp q)), sh_1 _ (by omega), xlet_q]
    exact E_lo12 w2 (by omega) (wdn n) 0 F D (by omega) (by omega) h9 (fun v hv => absurd hv (by omega)) (fun v _ hv => hS v hv)
def fnd (s : Nat) (S : Nat → Bool) : Nat → Nat → Bool
  | 0 => S
  | j + 1 => fun u => if s.testBit j = true then fnd s S j u else (fnd s S j u || fnd s S j (u ^^^ 2 ^ j))
theorem fnd_iff {s : Nat} {S : Nat → Bool} : ∀ (j u : Nat), fnd s S j u = true ↔ ∃ u', S u' = true ∧ ∀ i, u.testBit i ≠ u'.testBit i → i < j ∧ s.testBit i = false
  | 0, u => by
    rw [fnd]
    constructor
    · intro h; exact ⟨u, h, fun i q => absurd rfl q⟩
    · rintro ⟨u', h1, h2⟩
      have : u = u' := by
        apply Nat.eq_of_testBit_eq
        intro i
        by_cases c : u.testBit i = u'.testBit i
        · exact c
        · have := (h2 i c).1; omega
      rw [this]; exact h1
  | j + 1, u => by
    rw [fnd]
    dsimp only
    by_cases c : s.testBit j = true
    · rw [if_pos c, fnd_iff j u]
      constructor
      · rintro ⟨u', h1, h2⟩; exact ⟨u', h1, fun i q => ⟨by have := (h2 i q).1; omega, (h2 i q).2⟩⟩
      · rintro ⟨u', h1, h2⟩
        refine ⟨u', h1, fun i q => ⟨?_, (h2 i q).2⟩⟩
        have h3 := h2 i q
        by_cases e : i = j
        · subst e; rw [c] at h3; exact absurd h3.2 (by decide)
        · omega
    · have c' : s.testBit j = false := by simpa using c
      rw [if_neg c, Bool.or_eq_true, fnd_iff j u, fnd_iff j (u ^^^ 2 ^ j)]
      have hxb : ∀ i, (u ^^^ 2 ^ j).testBit i = (u.testBit i ^^ decide (j = i)) := fun i => by rw [Nat.testBit_xor, Nat.testBit_two_pow]
      constructor
      · rintro (⟨u', h1, h2⟩ | ⟨u', h1, h2⟩)
        · exact ⟨u', h1, fun i q => ⟨by have := (h2 i q).1; omega, (h2 i q).2⟩⟩
        · refine ⟨u', h1, fun i q => ?_⟩
          by_cases e : i = j
          · subst e; exact ⟨by omega, c'⟩
          · have := h2 i (by rw [hxb]; have h5 : ¬ j = i := fun q => e q.symm; simp [h5]; exact q)
            exact ⟨by omega, this.2⟩
      · rintro ⟨u', h1, h2⟩
        by_cases e : u.testBit j = u'.testBit j
        · refine Or.inl ⟨u', h1, fun i q => ⟨?_, (h2 i q).2⟩⟩
          have h3 := (h2 i q).1
          by_cases e2 : i = j
          · subst e2; exact absurd e q
          · omega
        · refine Or.inr ⟨u', h1, fun i q => ?_⟩
          rw [hxb] at q
          by_cases e2 : i = j
          · subst e2
            exfalso
            apply q
            revert e
            cases u.testBit i <;> cases u'.testBit i <;> simp
          · have h5 : ¬ j = i := fun q => e2 q.symm
            have h6 : u.testBit i ≠ u'.testBit i := by simpa [h5] using q
            have := h2 i h6
            exact ⟨by omega, this.2⟩
