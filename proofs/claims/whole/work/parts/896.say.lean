/-! say -/
/-- the first one of a set that is in the cell -/
def f1 (W : Wd) (X : Int64) (g c : Nat) : Nat := lst (fun v => bt X v && decide (W.2.2 g v = c)) 64
theorem ll254 : xl xS0 254 = 64 := by decide +kernel
theorem f1_yes {W : Wd} {X : Int64} {g w : Nat} (hw : w < 64) (hx : bt X w = true) : f1 W X g (W.2.2 g w) ≤ w ∧ bt X (f1 W X g (W.2.2 g w)) = true ∧ W.2.2 g (f1 W X g (W.2.2 g w)) = W.2.2 g w := by
  have h1 : (fun v => bt X v && decide (W.2.2 g v = W.2.2 g w)) w = true := by simp [hx]
  have h2 := lst_yes (fun v => bt X v && decide (W.2.2 g v = W.2.2 g w)) 64 (lst_lt (p := fun v => bt X v && decide (W.2.2 g v = W.2.2 g w)) hw h1)
  rw [Bool.and_eq_true, decide_eq_true_iff] at h2
  exact ⟨lst_lej h1 (by omega), h2.1, h2.2⟩
/-- its number among the set is the least one with its label -/
theorem f1_num {W : Wd} {X : Int64} {g i : Nat} (hi : i < cn (bt X) 64) : cn (bt X) (f1 W X g (W.2.2 g (fm X i))) = lst (fun u => decide (W.2.2 g (fm X u) = W.2.2 g (fm X i))) (cn (bt X) 64) := by
  obtain ⟨h1, h2, h3⟩ := fm_p hi
  obtain ⟨q1, q2, q3⟩ := f1_yes (W := W) (g := g) h1 h2
  symm
  apply lst_eq
  · exact cn_lt2 q2 (by omega)
  · rw [fm_w q2 (by omega), q3]; simp
  · intro j hj
    have hj2 : j < cn (bt X) 64 := by
      have := cn_lt2 q2 (k := 64) (by omega)
      omega
    obtain ⟨r1, r2, r3⟩ := fm_p hj2
    have hlt : fm X j < f1 W X g (W.2.2 g (fm X i)) := by
      by_cases c : fm X j < f1 W X g (W.2.2 g (fm X i))
      · exact c
      · have := cn_le2 (p := bt X) (w := f1 W X g (W.2.2 g (fm X i))) (k := fm X j) (by omega)
        omega
    have := lst_no _ _ _ hlt
    rw [r2, Bool.true_and] at this
    exact this
theorem E_shrink {F P : Nat} (hF : 10000 < F) {D : xDt} {W : Wd} (hW : wOK W) (hM : wM (D.1 241 1) (D.1 242) (D.1 243) W) {X : Int64} (hX : ∀ j, bt X j = true → j < W.1) : oK (f_X12_shrink F P xS0 241 X D) (fun D' => ch [241, 242, 243, 254, 255, 256] [] D D' ∧ (∀ j, j ≠ 1 → D'.1 241 j = D.1 241 j) ∧ D'.1 241 1 = nI (cn (bt X) 64) ∧ (∀ i, i < cn (bt X) 64 → D'.1 242 i = nI (W.2.1 (fm X i))) ∧ (∀ g, g < 4 → ∀ i, i < cn (bt X) 64 → D'.1 243 (64 * g + i) = nI (lst (fun u => decide (W.2.2 g (fm X u) = W.2.2 g (fm X i))) (cn (bt X) 64)))) := by
  have hn := hW.1
  have hcn : cn (bt X) 64 = cn (bt X) W.1 := by
    have := cn_more (bt X) W.1 (fun j hj => by
      cases hb : bt X j
      · rfl
      · have := hX j hb; omega) (64 - W.1)
    rw [show W.1 + (64 - W.1) = 64 by omega] at this
    exact this
  have hc64 := cn_le (bt X) 64
  rw [e_X12_shrink]
  -- numbers
  refine lpu (W := fun m i (s : Int32 × xDt) => oK (f_X12_shrink_11 F P xS0 m 241 X 254 s.1 (nI i) s.2) _) (I := fun i s => s.1 = nI (cn (bt X) i) ∧ ch [254] [] D s.2 ∧ ∀ w, w < i → s.2.1 254 w = nI (cn (bt X) w)) W.1 ?_ ?_ W.1 0 (0, D) F (by omega) (by omega) ⟨rfl, ch_rfl _ _ _, fun w hw => absurd hw (by omega)⟩
  rotate_left
  · rintro m i ⟨v, D1⟩ hi ⟨i1, i2, i3⟩ hk
    dsimp only at i1 i2 i3 ⊢
    subst i1
    have hci := cn_le (bt X) i
    rw [e_X12_shrink_11, i2.1 241 (by decide), hM.1, if_neg (by rw [nI_leI (by omega) (by omega)]; omega), ll254, xgrd_in (by omega) (by omega), nI_clamp (by omega), test1i _ (by omega)]
    simp only [xlet]
    rw [nI_1]
    refine hk (nI (cn (bt X) i) + (if bt X i then 1 else 0), (xup D1.1 254 i (nI (cn (bt X) i)), D1.2)) ⟨?_, ch_i (by simp) i2, fun w hw => ?_⟩
    · dsimp only
      rw [cn]
      cases bt X i
      · simp
      · simp [nI_1]
    · dsimp only
      by_cases e : w = i
      · subst e; rw [xup_at]
      · rw [xup_nk _ _ _ _ _ e]; exact i3 w (by omega)
  · rintro m ⟨v, D1⟩ ⟨i1, i2, i3⟩
    dsimp only at i1 i2 i3 ⊢
    subst i1
    rw [e_X12_shrink_11, i2.1 241 (by decide), hM.1, if_pos (Int32.le_refl _)]
    -- cells, for each agent
    refine lpu (W := fun m g (D2 : xDt) => oK (f_X12_shrink_47 F P xS0 m 241 X 254 (nI (cn (bt X) W.1)) (nI g) D2) _) (I := fun g D2 => ch [254, 255, 256] [] D D2 ∧ (∀ w, w < W.1 → D2.1 254 w = nI (cn (bt X) w)) ∧ ∀ g', g' < g → ∀ w, w < W.1 → bt X w = true → D2.1 256 (64 * g' + cn (bt X) w) = nI (cn (bt X) (f1 W X g' (W.2.2 g' w)))) 4 ?_ ?_ 4 0 _ F (by omega) (by omega) ⟨ch_mono i2 (by intro x hx; simp at hx ⊢; omega) (fun _ h => h), i3, fun g' hg' => absurd hg' (by omega)⟩
    rotate_left
    · rintro m g D2 hg ⟨j1, j2, j3⟩ hk
      rw [e_X12_shrink_47, k4, if_neg (by rw [nI_leI (by omega) (by omega)]; omega)]
      -- no first ones yet
      refine lpu (W := fun m' i (D3 : xDt) => oK (f_X12_shrink_56 F P xS0 (f_X12_shrink_47 F P xS0 m) m' 241 X 254 (nI (cn (bt X) W.1)) (nI g) (nI i) D3) _) (I := fun i D3 => ch [255] [] D2 D3 ∧ ∀ w, w < i → D3.1 255 w = -2) W.1 ?_ ?_ W.1 0 _ F (by omega) (by omega) ⟨ch_rfl _ _ _, fun w hw => absurd hw (by omega)⟩
      rotate_left
      · rintro m' i D3 hi ⟨l1, l2⟩ hk2
        rw [e_X12_shrink_56, l1.1 241 (by decide), j1.1 241 (by decide), hM.1, if_neg (by rw [nI_leI (by omega) (by omega)]; omega), xgrd_in (by omega) (by omega), nI_clamp (by omega)]
        simp only [xlet]
        rw [nI_1]
        refine hk2 _ ⟨ch_i (by simp) l1, fun w hw => ?_⟩
        dsimp only
        by_cases e : w = i
        · subst e; rw [xup_at]
        · rw [xup_nk _ _ _ _ _ e]; exact l2 w (by omega)
      · rintro m' D3 ⟨l1, l2⟩
        rw [e_X12_shrink_56, l1.1 241 (by decide), j1.1 241 (by decide), hM.1, if_pos (Int32.le_refl _)]
        -- through the worlds
        refine lpu (W := fun m' i (D4 : xDt) => oK (f_X12_shrink_83 F P xS0 (f_X12_shrink_47 F P xS0 m) m' 241 X 254 (nI (cn (bt X) W.1)) (nI g) (nI i) D4) _) (I := fun i D4 => ch [255, 256] [] D2 D4 ∧ (∀ c, c < W.1 → (f1 W X g c < i → D4.1 255 c = nI (cn (bt X) (f1 W X g c))) ∧ (¬ f1 W X g c < i → D4.1 255 c = -2)) ∧ (∀ g', g' < g → ∀ w, w < W.1 → bt X w = true → D4.1 256 (64 * g' + cn (bt X) w) = nI (cn (bt X) (f1 W X g' (W.2.2 g' w)))) ∧ (∀ w, w < i → bt X w = true → D4.1 256 (64 * g + cn (bt X) w) = nI (cn (bt X) (f1 W X g (W.2.2 g w))))) W.1 ?_ ?_ W.1 0 _ F (by omega) (by omega) ⟨ch_mono l1 (by intro x hx; simp at hx ⊢; omega) (fun _ h => h), fun c hc => ⟨fun h => absurd h (by omega), fun _ => l2 c hc⟩, fun g' hg' w hw hx => by rw [l1.1 256 (by decide)]; exact j3 g' hg' w hw hx, fun w hw => absurd hw (by omega)⟩
        · rintro m'' D4 ⟨q1, q2, q3, q4⟩
          rw [e_X12_shrink_83, q1.1 241 (by decide), j1.1 241 (by decide), hM.1, if_pos (Int32.le_refl _)]
          simp only [xlet]
          rw [nI_1]
          refine hk D4 ⟨ch_trans j1 (ch_mono q1 (by intro x hx; simp at hx ⊢; omega) (fun _ h => h)), fun w hw => by rw [q1.1 254 (by decide)]; exact j2 w hw, fun g' hg' w hw hx => ?_⟩
          by_cases e : g' = g
          · subst e; exact q4 w hw hx
          · exact q3 g' (by omega) w hw hx
        · rintro m'' i D4 hi ⟨q1, q2, q3, q4⟩ hk2
          have hci := cn_le (bt X) i
          have hR := (hW.2.2 g hg i hi).1
          have h243 : D4.1 243 (64 * g + i) = nI (W.2.2 g i) := by
            rw [q1.1 243 (by decide), j1.1 243 (by decide)]; exact hM.2.2 g hg i hi
          have h254 : D4.1 254 i = nI (cn (bt X) i) := by rw [q1.1 254 (by decide)]; exact j2 i hi
          rw [e_X12_shrink_83, q1.1 241 (by decide), j1.1 241 (by decide), hM.1, if_neg (by rw [nI_leI (by omega) (by omega)]; omega)]
          by_cases hb : bt X i = true
          · rw [if_pos (by rw [test1' _ (by omega), hb]), k64, nI_mul, nI_add, xgrd_in (by omega) (by omega), nI_clamp (by omega), h243]
            simp only [xlet]
            rw [xgrd_in (by omega) (by omega), nI_clamp (by omega)]
            obtain ⟨y1, y2, y3⟩ := f1_yes (W := W) (g := g) (show i < 64 by omega) hb
            have hf64 := cn_le (bt X) (f1 W X g (W.2.2 g i))
            -- what is written
            have hgo : ∀ s : Int32, s = nI (cn (bt X) (f1 W X g (W.2.2 g i))) → oK (f_X12_shrink_148 F P xS0 (f_X12_shrink_47 F P xS0 m) (f_X12_shrink_83 F P xS0 (f_X12_shrink_47 F P xS0 m) m'') 241 X 254 (nI (cn (bt X) W.1)) (nI g) (nI i) (nI (W.2.2 g i)) s (nI (W.2.2 g i)) 255 D4) (fun D' => ch [241, 242, 243, 254, 255, 256] [] D D' ∧ (∀ j, j ≠ 1 → D'.1 241 j = D.1 241 j) ∧ D'.1 241 1 = nI (cn (bt X) 64) ∧ (∀ i, i < cn (bt X) 64 → D'.1 242 i = nI (W.2.1 (fm X i))) ∧ (∀ g, g < 4 → ∀ i, i < cn (bt X) 64 → D'.1 243 (64 * g + i) = nI (lst (fun u => decide (W.2.2 g (fm X u) = W.2.2 g (fm X i))) (cn (bt X) 64)))) := by
              rintro s rfl
              rw [e_X12_shrink_148, show xl xS0 255 = 64 by decide +kernel, ll254, xgrd_in (by omega) (by omega), nI_clamp (by omega)]
              simp only [xlet]
              rw [xgrd_in (by omega) (by omega), xgrd_in (by omega) (by omega), nI_clamp (by omega), xup_na _ _ _ _ _ (show 254 ≠ 255 by omega), h254, xup_at, k64, nI_mul, nI_add, xgrd_in (by omega) (by omega), nI_clamp (by omega), e_X12_shrink_171]
              simp only [xlet]
              rw [nI_1]
              refine hk2 _ ⟨ch_i (D' := (xup D4.1 255 (W.2.2 g i) (nI (cn (bt X) (f1 W X g (W.2.2 g i)))), D4.2)) (by simp) (ch_i (by simp) q1), fun c hc => ?_, fun g' hg' w hw hx => ?_, fun w hw hx => ?_⟩
              · dsimp only
                rw [xup_na _ _ _ _ _ (by omega)]
                by_cases e : c = W.2.2 g i
                · subst e
                  rw [xup_at]
                  exact ⟨fun _ => rfl, fun h => absurd (show f1 W X g (W.2.2 g i) < i + 1 by omega) h⟩
                · rw [xup_nk _ _ _ _ _ e]
                  refine ⟨fun h => (q2 c hc).1 ?_, fun h => (q2 c hc).2 (by omega)⟩
                  by_cases e2 : f1 W X g c = i
                  · exfalso
                    apply e
                    have hl : lst (fun v => bt X v && decide (W.2.2 g v = c)) 64 < 64 := by
                      show f1 W X g c < 64
                      omega
                    have h3 := lst_yes _ _ hl
                    rw [show lst (fun v => bt X v && decide (W.2.2 g v = c)) 64 = i from e2, Bool.and_eq_true, decide_eq_true_iff] at h3
                    exact h3.2.symm
                  · omega
              · dsimp only
                have hcw := cn_lt2 hx (k := 64) (by omega)
                rw [xup_nk _ _ _ _ _ (by omega), xup_na _ _ _ _ _ (by omega)]
                exact q3 g' hg' w hw hx
              · dsimp only
                by_cases e : w = i
                · subst e
                  rw [xup_at]
                · have := cn_lt2 hx (k := i) (by omega)
                  rw [xup_nk _ _ _ _ _ (by omega), xup_na _ _ _ _ _ (by omega)]
                  exact q4 w (by omega) hx
            obtain ⟨q2a, q2b⟩ := q2 (W.2.2 g i) (by omega)
            by_cases hf : f1 W X g (W.2.2 g i) < i
            · rw [q2a hf, if_pos (nI_pos' (by omega)), xgrd_in (by omega) (by omega)]
              exact hgo _ rfl
            · rw [q2b hf, if_neg (by decide), ll254, xgrd_in (by omega) (by omega), nI_clamp (by omega), h254]
              exact hgo _ (by rw [show f1 W X g (W.2.2 g i) = i by omega])
          · rw [if_neg (by rw [test1' _ (by omega)]; exact hb), e_X12_shrink_171]
            simp only [xlet]
            rw [nI_1]
            refine hk2 D4 ⟨q1, fun c hc => ⟨fun h => (q2 c hc).1 ?_, fun h => (q2 c hc).2 (by omega)⟩, q3, fun w hw hx => ?_⟩
            · by_cases e2 : f1 W X g c = i
              · exfalso
                have hl : lst (fun v => bt X v && decide (W.2.2 g v = c)) 64 < 64 := by
                  show f1 W X g c < 64
                  omega
                have h3 := lst_yes _ _ hl
                rw [show lst (fun v => bt X v && decide (W.2.2 g v = c)) 64 = i from e2, Bool.and_eq_true] at h3
                exact hb h3.1
              · omega
            · by_cases e : w = i
              · subst e; exact absurd hx hb
              · exact q4 w (by omega) hx
    · rintro m D2 ⟨j1, j2, j3⟩
      rw [e_X12_shrink_47, if_pos (by decide)]
      -- ATOMS
      refine lpu (W := fun m i (D3 : xDt) => oK (f_X12_shrink_186 F P xS0 m 241 X 254 (nI (cn (bt X) W.1)) (nI i) D3) _) (I := fun i D3 => ch [242] [] D2 D3 ∧ (∀ j, cn (bt X) i ≤ j → D3.1 242 j = D2.1 242 j) ∧ ∀ w, w < i → bt X w = true → D3.1 242 (cn (bt X) w) = nI (W.2.1 w)) W.1 ?_ ?_ W.1 0 _ F (by omega) (by omega) ⟨ch_rfl _ _ _, fun _ _ => rfl, fun w hw => absurd hw (by omega)⟩
      rotate_left
      · rintro m' i D3 hi ⟨l1, l2, l3⟩ hk
        have hci := cn_le (bt X) i
        have h254 : D3.1 254 i = nI (cn (bt X) i) := by rw [l1.1 254 (by decide)]; exact j2 i hi
        rw [e_X12_shrink_186, l1.1 241 (by decide), j1.1 241 (by decide), hM.1, if_neg (by rw [nI_leI (by omega) (by omega)]; omega)]
        simp only [e_X12_shrink_222, xlet, nI_1]
        by_cases hb : bt X i = true
        · rw [if_pos (by rw [test1' _ (by omega), hb]), ll254, xgrd_in (by omega) (by omega), xgrd_in (by omega) (by omega), nI_clamp (by omega), h254, xgrd_in (by omega) (by omega), nI_clamp (by omega), l2 i (by omega), j1.1 242 (by decide), hM.2.1 i hi]
          refine hk _ ⟨ch_i (by simp) l1, fun j hj => ?_, fun w hw hx => ?_⟩
          · dsimp only
            rw [cn, hb] at hj
            rw [xup_nk _ _ _ _ _ (by simp at hj; omega)]
            exact l2 j (by simp at hj; omega)
          · dsimp only
            by_cases e : w = i
            · subst e; rw [xup_at]
            · have := cn_lt2 hx (k := i) (by omega)
              rw [xup_nk _ _ _ _ _ (by omega)]
              exact l3 w (by omega) hx
        · rw [if_neg (by rw [test1' _ (by omega)]; exact hb)]
          refine hk _ ⟨l1, fun j hj => l2 j ?_, fun w hw hx => ?_⟩
          · rw [cn] at hj; omega
          · by_cases e : w = i
            · subst e; exact absurd hx hb
            · exact l3 w (by omega) hx
      · rintro m' D3 ⟨l1, l2, l3⟩
        rw [e_X12_shrink_186, l1.1 241 (by decide), j1.1 241 (by decide), hM.1, if_pos (Int32.le_refl _)]
        refine lpu (W := fun m i (D4 : xDt) => oK (f_X12_shrink_231 F P xS0 m 241 (nI (cn (bt X) W.1)) (nI i) D4) _) (I := fun i D4 => D4 = (upP D3.1 243 0 i tt (D3.1 256), D3.2)) 256 ?_ ?_ 256 0 _ F (by omega) (by omega) (by rw [upP_0])
        · rintro m'' D4 rfl
          rw [e_X12_shrink_231, if_pos (by decide)]
          simp only [xlet]
          have hch : ch [241, 242, 243, 254, 255, 256] [] D D3 := ch_trans (ch_mono j1 (by intro x hx; simp at hx ⊢; omega) (fun _ h => h)) (ch_mono l1 (by intro x hx; simp at hx ⊢; omega) (fun _ h => h))
          refine oK_some ⟨ch_i (D' := (upP D3.1 243 0 256 tt (D3.1 256), D3.2)) (by simp) (ch_ip (by simp) hch), fun j hj => ?_, ?_, fun i hi => ?_, fun g hg i hi => ?_⟩
          · dsimp only
            rw [xup_nk _ _ _ _ _ hj, upP_na (by omega), l1.1 241 (by decide), j1.1 241 (by decide)]
          · dsimp only
            rw [xup_at, hcn]
          · dsimp only
            obtain ⟨h1, h2, h3⟩ := fm_p hi
            have := l3 (fm X i) (hX _ h2) h2
            rw [h3] at this
            rw [xup_na _ _ _ _ _ (by omega), upP_na (by omega)]
            exact this
          · dsimp only
            obtain ⟨h1, h2, h3⟩ := fm_p hi
            have := j3 g hg (fm X i) (hX _ h2) h2
            rw [h3, f1_num hi] at this
            rw [xup_na _ _ _ _ _ (by omega), upP_in0 (by omega) rfl, l1.1 256 (by decide)]
            exact this
        · rintro m'' i D4 hi rfl hk
          rw [e_X12_shrink_231, k256, if_neg (by rw [nI_leI (by omega) (by omega)]; omega), xgrd_in (by omega) (by omega), xgrd_in (by omega) (by omega), nI_clamp (by omega)]
          simp only [xlet, nI_1]
          refine hk _ ?_
          rw [upP_na (by omega), upP_t0 rfl rfl]
