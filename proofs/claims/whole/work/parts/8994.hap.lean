/-! what happens: pairs of a world and an event -/
noncomputable def nE (W : Wd) (E : Ev) (e : Nat) : Int64 := ev W (E.2.1 e) (aS W)
/-- a pair as a number: 8 times the world, and the event -/
noncomputable def pp (W : Wd) (E : Ev) (c : Nat) : Bool := decide (c % 8 < E.1) && bt (nE W E (c % 8)) (c / 8)
noncomputable def pr (W : Wd) (E : Ev) (i : Nat) : Nat := (sel (pp W E) 512).getD i 0
theorem pr_p {W : Wd} {E : Ev} {i : Nat} (h : i < cn (pp W E) 512) : pr W E i < 512 ∧ pr W E i % 8 < E.1 ∧ bt (nE W E (pr W E i % 8)) (pr W E i / 8) = true ∧ cn (pp W E) (pr W E i) = i := by
  obtain ⟨h1, h2, h3⟩ := sel_inv h
  unfold pp at h2
  rw [Bool.and_eq_true, decide_eq_true_iff] at h2
  exact ⟨h1, h2.1, h2.2, h3⟩
theorem nE_lt {W : Wd} (hn : W.1 ≤ 64) {E : Ev} {e j : Nat} (h : bt (nE W E e) j = true) : j < W.1 := aS_lt (ev_sub hn _ _ j h)
theorem pp_e {W : Wd} {E : Ev} {w e : Nat} (he : e < 8) : pp W E (8 * w + e) = (decide (e < E.1) && bt (nE W E e) w) := by
  unfold pp
  rw [show (8 * w + e) % 8 = e by omega, show (8 * w + e) / 8 = w by omega]
theorem cn_row {W : Wd} {E : Ev} (hm : E.1 ≤ 8) (w : Nat) : ∀ d, E.1 + d ≤ 8 → cn (pp W E) (8 * w + (E.1 + d)) = cn (pp W E) (8 * w + E.1)
  | 0, _ => rfl
  | d + 1, h => by
    show cn (pp W E) (8 * w + (E.1 + d)) + (pp W E (8 * w + (E.1 + d))).toNat = _
    have hf : ¬ E.1 + d < E.1 := by omega
    rw [cn_row hm w d (by omega), pp_e (by omega)]
    simp [hf]
theorem cn_row8 {W : Wd} {E : Ev} (hm : E.1 ≤ 8) (w : Nat) : cn (pp W E) (8 * (w + 1)) = cn (pp W E) (8 * w + E.1) := by
  have := cn_row (W := W) hm w (8 - E.1) (by omega)
  rw [show 8 * w + (E.1 + (8 - E.1)) = 8 * (w + 1) by omega] at this
  exact this
theorem cn_all {W : Wd} (hn : W.1 ≤ 64) {E : Ev} : cn (pp W E) 512 = cn (pp W E) (8 * W.1) := by
  have := cn_more (pp W E) (8 * W.1) (fun j hj => by
    cases h : pp W E j
    · rfl
    · unfold pp at h
      rw [Bool.and_eq_true] at h
      have := nE_lt hn h.2
      omega) (512 - 8 * W.1)
  rw [show 8 * W.1 + (512 - 8 * W.1) = 512 by omega] at this
  exact this
/-- the rows of the events' formulas -/
theorem jo_row {aw ta ce r : Nat} {t : T} (hr : r < 72) (hz : sz t ≤ 150) (ho : oW aw ta ce) (h1 : aw < 207) (h2 : ta < 207) (h3 : ce < 207) : jo (48 + 2 * r) (49 + 2 * r) aw ta ce (sz t) := by
  obtain ⟨o1, o2⟩ := rw_o r hr
  refine ⟨o1, by rw [o2]; exact hz, by rw [o2]; omega, ho, ?_, ?_, ?_, ?_, ?_⟩ <;> simp <;> omega
/-- the class: the pairs -/
theorem E_pair {F P : Nat} (hF : 10000 < F) {D : xDt} {W : Wd} {E : Ev} (hW : iW D W) (hE : iE D E) : oK (f_X1_pair F P xS0 42 1 207 D) (fun r => r.1 = nI (cn (pp W E) 512) ∧ ch [46, 47, 207, 208, 209] [45, 207, 210, 211] D r.2 ∧ (∀ i, i < cn (pp W E) 512 → i < 64 → r.2.1 46 i = nI (pr W E i / 8) ∧ r.2.1 47 i = nI (pr W E i % 8))) := by
  have hn := hW.1.1
  obtain ⟨g0, g1, g2, g3, g4, g5⟩ := hE
  rw [e_X1_pair]
  refine lpu (W := fun n e (D1 : xDt) => oK (f_X1_pair_2 F P xS0 n 42 1 207 (nI e) D1) _) (I := fun e D1 => ch [207, 208, 209] [45, 207, 210, 211] D D1 ∧ ∀ e', e' < e → D1.2 45 e' = nE W E e') E.1 ?_ ?_ E.1 0 _ F (by omega) (by omega) ⟨ch_rfl _ _ _, fun e' h => absurd h (by omega)⟩
  · rintro n D1 ⟨i1, i2⟩
    rw [e_X1_pair_2, if_pos (by rw [i1.1 42 (by decide), g1]; exact Int32.le_refl _)]
    refine lpu (W := fun n w (s : Int32 × xDt) => oK (f_X1_pair_41 F P xS0 n 42 1 s.1 (nI w) s.2) _) (I := fun w s => s.1 = nI (cn (pp W E) (8 * w)) ∧ ch [46, 47] [] D1 s.2 ∧ ∀ i, i < cn (pp W E) (8 * w) → i < 64 → s.2.1 46 i = nI (pr W E i / 8) ∧ s.2.1 47 i = nI (pr W E i % 8)) W.1 ?_ ?_ W.1 0 (0, D1) F (by omega) (by omega) ⟨rfl, ch_rfl _ _ _, fun i hi => absurd hi (by simp [cn])⟩
    · rintro n ⟨v, D2⟩ ⟨rfl, j2, j3⟩
      dsimp only at j2 j3 ⊢
      rw [e_X1_pair_41, if_pos (by rw [j2.1 1 (by decide), i1.1 1 (by decide), hW.2.1.1]; exact Int32.le_refl _)]
      refine oK_some ⟨by dsimp only; rw [cn_all hn], ch_trans (ch_mono i1 (by intro x hx; simp at hx ⊢; omega) (by intro x hx; simp at hx ⊢; omega)) (ch_mono j2 (by intro x hx; simp at hx ⊢; omega) (by intro x hx; simp at hx)), fun i h1 h2 => j3 i (by rw [← cn_all hn]; exact h1) h2⟩
    · rintro n w ⟨v, D2⟩ hw ⟨rfl, j2, j3⟩ hk
      dsimp only at j2 j3 ⊢
      rw [e_X1_pair_41, if_neg (by rw [j2.1 1 (by decide), i1.1 1 (by decide), hW.2.1.1, nI_leI (by omega) (by omega)]; omega)]
      refine lpu (W := fun n' e (s : Int32 × xDt) => oK (f_X1_pair_53 F P xS0 (f_X1_pair_41 F P xS0 n) n' 42 1 s.1 (nI w) (nI e) s.2) _) (I := fun e s => s.1 = nI (cn (pp W E) (8 * w + e)) ∧ ch [46, 47] [] D1 s.2 ∧ ∀ i, i < cn (pp W E) (8 * w + e) → i < 64 → s.2.1 46 i = nI (pr W E i / 8) ∧ s.2.1 47 i = nI (pr W E i % 8)) E.1 ?_ ?_ E.1 0 (nI (cn (pp W E) (8 * w)), D2) F (by omega) (by omega) ⟨rfl, j2, j3⟩
      · rintro n' ⟨v, D3⟩ ⟨rfl, l2, l3⟩
        dsimp only at l2 l3 ⊢
        rw [e_X1_pair_53, if_pos (by rw [l2.1 42 (by decide), i1.1 42 (by decide), g1]; exact Int32.le_refl _)]
        simp only [xlet]
        rw [nI_1, ← cn_row8 g0 w]
        rw [← cn_row8 g0 w] at l3
        exact hk (_, D3) ⟨rfl, l2, l3⟩
      · rintro n' e ⟨v, D3⟩ he ⟨rfl, l2, l3⟩ hk2
        dsimp only at l2 l3 ⊢
        have hc := cn_le (pp W E) (8 * w + e)
        have hpe := pp_e (W := W) (E := E) (w := w) (show e < 8 by omega)
        rw [e_X1_pair_53, if_neg (by rw [l2.1 42 (by decide), i1.1 42 (by decide), g1, nI_leI (by omega) (by omega)]; omega), xgrd_in (by omega) (by omega), nI_clamp (by omega), l2.2 45 (by simp), i2 e he]
        simp only [e_X1_pair_104, e_X1_pair_101, xlet, nI_1]
        by_cases hb : bt (nE W E e) w = true
        · rw [if_neg (by rw [test1 _ (by omega), hb]; simp)]
          have hpt : pp W E (8 * w + e) = true := by rw [hpe, hb]; simp [he]
          have hcs : cn (pp W E) (8 * w + (e + 1)) = cn (pp W E) (8 * w + e) + 1 := by
            rw [show 8 * w + (e + 1) = 8 * w + e + 1 by omega, cn, hpt]; rfl
          have hget : pr W E (cn (pp W E) (8 * w + e)) = 8 * w + e := sel_get hpt (by omega)
          by_cases h64 : 64 ≤ cn (pp W E) (8 * w + e)
          · rw [if_pos (show 64 ≤ nI (cn (pp W E) (8 * w + e)) from (nI_leI (a := 64) (by omega) (by omega)).mpr h64)]
            refine hk2 (nI (cn (pp W E) (8 * w + e) + 1), D3) ⟨by dsimp only; rw [hcs], l2, fun i h1 h2 => l3 i (by omega) h2⟩
          · rw [if_neg (show ¬ 64 ≤ nI (cn (pp W E) (8 * w + e)) from fun c => h64 ((nI_leI (a := 64) (by omega) (by omega)).mp c)), xgrd_in (by omega) (by omega), xgrd_in (by omega) (by omega), nI_clamp (by omega)]
            refine hk2 (nI (cn (pp W E) (8 * w + e) + 1), (xup (xup D3.1 46 (cn (pp W E) (8 * w + e)) (nI w)) 47 (cn (pp W E) (8 * w + e)) (nI e), D3.2)) ⟨by dsimp only; rw [hcs], ch_i (D' := (xup D3.1 46 (cn (pp W E) (8 * w + e)) (nI w), D3.2)) (by simp) (ch_i (by simp) l2), fun i h1 h2 => ?_⟩
            dsimp only
            by_cases q : i = cn (pp W E) (8 * w + e)
            · subst q
              rw [xup_na _ _ _ _ _ (show 46 ≠ 47 by omega), xup_at, xup_at, hget]
              exact ⟨by rw [show (8 * w + e) / 8 = w by omega], by rw [show (8 * w + e) % 8 = e by omega]⟩
            · rw [xup_na _ _ _ _ _ (show 46 ≠ 47 by omega), xup_nk _ _ _ _ _ q, xup_nk _ _ _ _ _ q, xup_na _ _ _ _ _ (show 47 ≠ 46 by omega)]
              exact l3 i (by omega) h2
        · have hpf : pp W E (8 * w + e) = false := by rw [hpe]; simp [hb]
          have hcs : cn (pp W E) (8 * w + (e + 1)) = cn (pp W E) (8 * w + e) := by
            rw [show 8 * w + (e + 1) = 8 * w + e + 1 by omega, cn, hpf]; rfl
          rw [if_pos (by rw [test1 _ (by omega)]; simpa using hb)]
          refine hk2 (nI (cn (pp W E) (8 * w + e)), D3) ⟨by dsimp only; rw [hcs], l2, fun i h1 h2 => l3 i (by omega) h2⟩
  · rintro n e D1 he ⟨i1, i2⟩ hk
    rw [e_X1_pair_2, if_neg (by rw [i1.1 42 (by decide), g1, nI_leI (by omega) (by omega)]; omega), show (9 : Int32) = nI 9 from rfl, nI_mul, xgrd_in (by omega) (by omega), nI_clamp (by omega), rw_r _ (by omega)]
    obtain ⟨⟨s1, s2, s3⟩, _⟩ := g3 e he
    have e9 : e * 9 = 9 * e := Nat.mul_comm _ _
    rw [e9]
    obtain ⟨D2, e2, q2⟩ := E_where (F := F) (P := P) hF (jo_row (r := 9 * e) (by omega) s2 oW1 (by omega) (by omega) (by omega)) hW.1 (D := D1) s1 (fmC_congr (by rw [i1.1 _ (by simp; omega)]) (fun i _ => by rw [i1.1 _ (by simp; omega)]) s3) (wC_congr (by rw [i1.1 1 (by decide)]) (i1.2 2 (by decide)) (i1.2 3 (by decide)) hW.2.1)
    rw [e2, Option.bind_some, xgrd_in (by omega) (by omega), nI_clamp (by omega)]
    simp only [xlet, nI_1]
    refine hk _ ⟨ch_l (by simp) (ch_trans i1 (ch_mono q2.1 (by intro x hx; simp at hx ⊢; omega) (by intro x hx; simp at hx ⊢; omega))), fun e' he' => ?_⟩
    dsimp only
    by_cases q : e' = e
    · subst q; rw [xup_at]; rfl
    · rw [xup_nk _ _ _ _ _ q, q2.1.2 45 (by decide)]; exact i2 e' (by omega)
/-- the class: cells of pairs whose events are told apart -/
theorem t1L : ∀ a, a < 256 → ∀ e, e < 8 → ((jishr (nI a) (nI e) &&& 1).toInt64) = if a.testBit e then 1 else 0 := by decide +kernel
theorem E_pairsOf {F P : Nat} (hF : 10000 < F) {D : xDt} {a n : Nat} {ee : Nat → Nat} (ha : a < 256) (hn : n ≤ 64) (he : ∀ i, i < n → D.1 47 i = nI (ee i) ∧ ee i < 8) : f_X1_pairsOf F P xS0 42 (nI a) (nI n) D = some (mkS (fun u => decide (u < n) && a.testBit (ee u)), D) := by
  rw [e_X1_pairsOf]
  refine lpu (W := fun m i (v : Int64) => f_X1_pairsOf_5 F P xS0 m 42 (nI a) (nI n) v (nI i) D = _) (I := fun i v => v = mkB (fun u => decide (u < n) && a.testBit (ee u)) i) n ?_ ?_ n 0 _ F (by omega) (by omega) rfl
  · rintro m v rfl
    rw [e_X1_pairsOf_5, if_pos (Int32.le_refl _), mkB_full hn (fun j hj => by simp; omega)]
  · rintro m i v hi rfl hk
    rw [e_X1_pairsOf_5, if_neg (by rw [nI_leI (by omega) (by omega)]; omega), xgrd_in (by omega) (by omega), nI_clamp (by omega), (he i hi).1, t1L a ha _ (he i hi).2]
    simp only [xlet, nI_1]
    refine hk _ ?_
    rw [mkB]
    congr 1
    simp only [hi, decide_true, Bool.true_and]
    cases a.testBit (ee i)
    · rw [if_neg (by simp), if_neg (by simp)]
      apply bt_ext
      intro j hj
      rw [bt_shl _ (by omega), bt_0, bt_0]; simp
    · rw [if_pos rfl, if_pos rfl]
theorem E_narrow {F P : Nat} (hF : 10000 < F) {D : xDt} {n : Nat} {ee : Nat → Nat} {mk : Nat → Nat → Nat} (h0 : D.1 1 0 = nI n) (hn : n ≤ 64) (he : ∀ i, i < n → D.1 47 i = nI (ee i) ∧ ee i < 8) (hm : ∀ g, g < 4 → ∀ i, i < n → D.1 44 (g * 8 + ee i) = nI (mk g (ee i)) ∧ mk g (ee i) < 256) : oK (f_X1_narrowCells F P xS0 42 1 D) (fun D' => D'.1 = D.1 ∧ (∀ x, x ≠ 3 → D'.2 x = D.2 x) ∧ ∀ g, g < 4 → ∀ w, w < n → D'.2 3 (g * 64 + w) = D.2 3 (g * 64 + w) &&& mkS (fun u => decide (u < n) && (mk g (ee w)).testBit (ee u))) := by
  rw [e_X1_narrowCells]
  refine lpu (W := fun m g (D1 : xDt) => oK (f_X1_narrowCells_2 F P xS0 m 42 1 (nI g) D1) _) (I := fun g D1 => D1.1 = D.1 ∧ (∀ x, x ≠ 3 → D1.2 x = D.2 x) ∧ ∀ g', g' < 4 → ∀ w, w < n → D1.2 3 (g' * 64 + w) = if g' < g then D.2 3 (g' * 64 + w) &&& mkS (fun u => decide (u < n) && (mk g' (ee w)).testBit (ee u)) else D.2 3 (g' * 64 + w)) 4 ?_ ?_ 4 0 _ F (by omega) (by omega) ⟨rfl, fun _ _ => rfl, fun g' _ w _ => by rw [if_neg (by omega)]⟩
  · rintro m D1 ⟨i1, i2, i3⟩
    rw [e_X1_narrowCells_2, if_pos (by decide)]
    exact oK_some ⟨i1, i2, fun g hg w hw => by rw [i3 g hg w hw, if_pos hg]⟩
  · rintro m g D1 hg ⟨i1, i2, i3⟩ hk
    rw [e_X1_narrowCells_2, k4, if_neg (by rw [nI_leI (by omega) (by omega)]; omega)]
    refine lpu (W := fun m' i (D2 : xDt) => oK (f_X1_narrowCells_9 F P xS0 (f_X1_narrowCells_2 F P xS0 m) m' 42 1 (nI g) (nI i) D2) _) (I := fun i D2 => D2.1 = D.1 ∧ (∀ x, x ≠ 3 → D2.2 x = D.2 x) ∧ ∀ g', g' < 4 → ∀ w, w < n → D2.2 3 (g' * 64 + w) = if g' < g ∨ (g' = g ∧ w < i) then D.2 3 (g' * 64 + w) &&& mkS (fun u => decide (u < n) && (mk g' (ee w)).testBit (ee u)) else D.2 3 (g' * 64 + w)) n ?_ ?_ n 0 _ F (by omega) (by omega) ⟨i1, i2, fun g' hg' w hw => by
      rw [i3 g' hg' w hw]
      by_cases q : g' < g
      · rw [if_pos q, if_pos (Or.inl q)]
      · rw [if_neg q, if_neg (by omega)]⟩
    · rintro m' D2 ⟨j1, j2, j3⟩
      rw [e_X1_narrowCells_9, if_pos (by rw [j1, h0]; exact Int32.le_refl _)]
      simp only [xlet, nI_1]
      refine hk D2 ⟨j1, j2, fun g' hg' w hw => ?_⟩
      rw [j3 g' hg' w hw]
      by_cases q : g' < g + 1
      · rw [if_pos (by omega), if_pos q]
      · rw [if_neg (by omega), if_neg q]
    · rintro m' i D2 hi ⟨j1, j2, j3⟩ hk2
      have hee := he i hi
      have hmm := hm g hg i hi
      rw [e_X1_narrowCells_9, j1, if_neg (by rw [h0, nI_leI (by omega) (by omega)]; omega), xgrd_in (by omega) (by omega), nI_clamp (by omega), hee.1, k8, nI_mul, nI_add, xgrd_in (by omega) (by omega), nI_clamp (by omega), hmm.1]
      simp only [xlet]
      rw [oW1.2.1, oW1.2.2.2, k64, nI_mul, nI_add, xgrd_in (by omega) (by omega), h0, E_pairsOf hF (n := n) (ee := ee) hmm.2 hn (by rw [j1]; exact he), Option.bind_some, xgrd_in (by omega) (by omega), nI_clamp (by omega), nI_1]
      refine hk2 _ ⟨by exact j1, fun x hx => ?_, fun g' hg' w hw => ?_⟩
      · dsimp only
        rw [xup_ne _ _ _ _ hx]; exact j2 x hx
      · dsimp only
        by_cases q : g' * 64 + w = g * 64 + i
        · have q1 : g' = g := by omega
          have q2 : w = i := by omega
          subst q1; subst q2
          rw [xup_at, if_pos (by omega), j3 g' hg' w hw, if_neg (by omega)]
        · rw [xup_nk _ _ _ _ _ q, j3 g' hg' w hw]
          by_cases q2 : g' < g ∨ (g' = g ∧ w < i)
          · rw [if_pos q2, if_pos (by omega)]
          · rw [if_neg q2, if_neg (by omega)]
