/-! four signs at once -/
def sh4 (i : Nat) : Int32 := if i < 4 then nI (24 - 8 * i) else -8
theorem sh4_s : ∀ i, i < 4 → sh4 i + (-8) = sh4 (i + 1) ∧ ¬ sh4 i < 0 := by decide +kernel
def gd (b : Nat) : Prop := b = 0 ∨ (32 ≤ b ∧ b ≤ 126)
def pu (b : Nat → Nat) : Nat → List Nat
  | 0 => []
  | i + 1 => pu b i ++ (if b i = 0 then [] else [b i])
theorem pu_len (b : Nat → Nat) : ∀ i, (pu b i).length = cn (fun j => !decide (b j = 0)) i
  | 0 => rfl
  | i + 1 => by
    rw [pu, cn, List.length_append, pu_len b i]
    by_cases h : b i = 0
    · simp [h]
    · simp [h]
theorem pu_mono (b : Nat → Nat) {i : Nat} (hi : i < 4) : (pu b i).length ≤ (pu b 4).length ∧ (b i ≠ 0 → (pu b i).length < (pu b 4).length) := by
  rw [pu_len, pu_len]
  have h : ∀ d k, cn (fun j => !decide (b j = 0)) k ≤ cn (fun j => !decide (b j = 0)) (k + d) := by
    intro d
    induction d with
    | zero => intro k; exact Nat.le_refl _
    | succ d ih => intro k; exact Nat.le_trans (ih k) (Nat.le_add_right _ _)
  obtain ⟨d, hd4⟩ : ∃ d, 4 = i + (d + 1) := ⟨3 - i, by omega⟩
  rw [hd4]
  refine ⟨h _ _, fun hb => ?_⟩
  have := h d (i + 1)
  rw [show i + (d + 1) = i + 1 + d by omega]
  rw [show cn (fun j => !decide (b j = 0)) (i + 1) = cn (fun j => !decide (b j = 0)) i + 1 from by rw [cn]; simp [hb]] at this
  omega
theorem M_four {dA : T → Nat → Int32} {F P : Nat} (hF : 10000 < F) {D : xDt} (h : Iv dA D) (x : Int32) : Two dA D (f_X11_four F P xS0 0 x) (f_X12_four F P xS0 241 x) := by
  obtain ⟨W, L, t, E, sg, tx, a1, a2, a3, a4, a5, a6, a7, a8⟩ := id h
  obtain ⟨b0, b1, b2, b3, b4, b5⟩ := a5
  obtain ⟨b, hb⟩ : ∃ b : Nat → Nat, ∀ i, b i < 256 ∧ jishr x (sh4 i) &&& 255 = nI (b i) := ⟨fun i => Classical.choose (and255 (jishr x (sh4 i))), fun i => Classical.choose_spec (and255 (jishr x (sh4 i)))⟩
  have hu : ∀ i, i < 4 → jiushr x (sh4 i) &&& 255 = nI (b i) := by
    intro i hi
    rw [← (hb i).2]
    unfold sh4
    rw [if_pos hi]
    exact by_same x (by omega)
  have hz : ∀ i, (nI (b i) = 0 ↔ b i = 0) := fun i => nI_eq0 (by have := (hb i).1; omega)
  have h24 : (24 : Int32) = sh4 0 := rfl
  have sgz : ∀ i, gd (b i) → b i ≠ 0 → 32 ≤ b i ∧ b i ≤ 126 := fun i hg hne => hg.resolve_left hne
  have sgb : ∀ i, ¬ gd (b i) → (nI (b i) < 32 ∨ 126 < nI (b i)) := by
    intro i hg
    have := (hb i).1
    unfold gd at hg
    by_cases c : b i < 32
    · exact Or.inl ((nI_ltI (b := 32) (by omega) (by omega)).mpr c)
    · exact Or.inr ((nI_ltI (a := 126) (by omega) (by omega)).mpr (by omega))
  by_cases hbad : ∀ i, i < 4 → gd (b i)
  · -- all of them are signs
    have hc4 := cn_le (fun j => !decide (b j = 0)) 4
    have hpl := pu_len b 4
    have c5 : f_X6_collectFour_5 F P xS0 F 192 x 0 24 D = (if (pu b 4).length ≤ 200 - sg.length then f_X6_collectFour_69 F P xS0 F 192 x 24 D else some (-1, D)) := by
      rw [h24]
      refine lpu (W := fun n i (c : Int32) => f_X6_collectFour_5 F P xS0 n 192 x c (sh4 i) D = _) (I := fun i c => c = nI (cn (fun j => !decide (b j = 0)) i)) 4 ?_ ?_ 4 0 _ F (by omega) (by omega) rfl
      · rintro n c rfl
        rw [e_X6_collectFour_5, if_pos (by decide), b2, show (200 : Int32) = nI 200 from rfl, nI_sub b0, hpl]
        by_cases q : cn (fun j => !decide (b j = 0)) 4 ≤ 200 - sg.length
        · rw [if_pos ((nI_leI (by omega) (by omega)).mpr q), if_pos q]; rfl
        · rw [if_neg (fun c => q ((nI_leI (by omega) (by omega)).mp c)), if_neg q]
      · rintro n i c hi rfl hk
        rw [e_X6_collectFour_5, if_neg (sh4_s i hi).2, hu i hi]
        simp only [xlet, e_X6_collectFour_33, e_X6_collectFour_44, (sh4_s i hi).1]
        by_cases q : b i = 0
        · rw [if_pos ((hz i).mpr q), if_pos ((hz i).mpr q)]
          exact hk _ (by rw [cn]; simp [q])
        · have := sgz i (hbad i hi) q
          rw [if_neg (fun c => q ((hz i).mp c)), E_isSign, sgn_1 this.1 this.2, Option.bind_some, if_neg (show ¬ (1 : Int32) = 0 by decide), if_neg (fun c => q ((hz i).mp c)), nI_1]
          exact hk _ (by rw [cn]; simp [q])
    have m5 : ∀ D1 : xDt, D1.1 241 16 = nI sg.length → f_X12_four_5 F P xS0 F 241 x 0 24 D1 = (if (pu b 4).length ≤ 200 - sg.length then f_X12_four_73 F P xS0 F 241 x 24 D1 else some (-1, D1)) := by
      intro D1 hD1
      rw [h24]
      refine lpu (W := fun n i (c : Int32) => f_X12_four_5 F P xS0 n 241 x c (sh4 i) D1 = _) (I := fun i c => c = nI (cn (fun j => !decide (b j = 0)) i)) 4 ?_ ?_ 4 0 _ F (by omega) (by omega) rfl
      · rintro n c rfl
        rw [e_X12_four_5, if_pos (by decide), hD1, nI_add, show (200 : Int32) = nI 200 from rfl, hpl]
        by_cases q : cn (fun j => !decide (b j = 0)) 4 ≤ 200 - sg.length
        · rw [if_pos ((nI_leI (by omega) (by omega)).mpr (by omega)), if_pos q]; rfl
        · rw [if_neg (fun c => q (by have := (nI_leI (by omega) (by omega)).mp c; omega)), if_neg q]
      · rintro n i c hi rfl hk
        rw [e_X12_four_5, if_neg (sh4_s i hi).2, (hb i).2]
        simp only [xlet, e_X12_four_37, e_X12_four_48, (sh4_s i hi).1]
        by_cases q : b i = 0
        · rw [if_pos ((hz i).mpr q), if_pos ((hz i).mpr q)]
          exact hk _ (by rw [cn]; simp [q])
        · have := sgz i (hbad i hi) q
          rw [if_neg (fun c => q ((hz i).mp c)), E_in, sgn_1 this.1 this.2, Option.bind_some, if_neg (show ¬ (1 : Int32) = 0 by decide), if_neg (fun c => q ((hz i).mp c)), nI_1]
          exact hk _ (by rw [cn]; simp [q])
    by_cases q : (pu b 4).length ≤ 200 - sg.length
    · have c69 : ∃ D1, f_X6_collectFour_69 F P xS0 F 192 x 24 D = some (nI (sg ++ pu b 4).length, D1) ∧ sC D1 (sg ++ pu b 4) ∧ ch [192, 193] [] D D1 := by
        rw [h24]
        refine lpu (W := fun n i (D' : xDt) => ∃ D1, f_X6_collectFour_69 F P xS0 n 192 x (sh4 i) D' = some (nI (sg ++ pu b 4).length, D1) ∧ sC D1 (sg ++ pu b 4) ∧ ch [192, 193] [] D D1) (I := fun i D' => sC D' (sg ++ pu b i) ∧ ch [192, 193] [] D D') 4 ?_ ?_ 4 0 _ F (by omega) (by omega) ?_
        · rintro n D' ⟨i1, i2⟩
          rw [e_X6_collectFour_69, if_pos (by decide), i1.2.2.1]
          exact ⟨D', rfl, i1, i2⟩
        · rintro n i D' hi ⟨i1, i2⟩ hk
          rw [e_X6_collectFour_69, if_neg (sh4_s i hi).2, hu i hi]
          simp only [xlet, e_X6_collectFour_94, (sh4_s i hi).1]
          by_cases q2 : b i = 0
          · rw [if_pos ((hz i).mpr q2)]
            exact hk _ ⟨by rw [pu, if_pos q2, List.append_nil]; exact i1, i2⟩
          · have g := sgz i (hbad i hi) q2
            have hl := (pu_mono b hi).2 q2
            have hl2 : (sg ++ pu b i).length < 200 := by rw [List.length_append]; omega
            rw [if_neg (fun c => q2 ((hz i).mp c)), E_collect i1.2.2.1 hl2 g.1 g.2, Option.bind_some]
            refine hk _ ⟨?_, ch_trans i2 sC_ch.1⟩
            rw [pu, if_neg q2, ← List.append_assoc]
            exact sC_more i1 hl2 g.1 g.2
        · exact ⟨by rw [pu, List.append_nil]; exact ⟨b0, b1, b2, b3⟩, ch_rfl _ _ _⟩
      obtain ⟨D1, e1, e2, e3⟩ := c69
      have r0 : sR D1 (sg ++ pu b 0) := by
        rw [pu, List.append_nil]
        exact ⟨b0, by rw [e3.1 241 (by decide)]; exact b4, by rw [e3.1 252 (by decide)]; exact b5⟩
      have m73 : ∃ D2, f_X12_four_73 F P xS0 F 241 x 24 D1 = some (nI (sg ++ pu b 4).length, D2) ∧ sR D2 (sg ++ pu b 4) ∧ ch [241, 252] [] D1 D2 ∧ ∀ j, j ≠ 16 → D2.1 241 j = D1.1 241 j := by
        rw [h24]
        refine lpu (W := fun n i (D' : xDt) => ∃ D2, f_X12_four_73 F P xS0 n 241 x (sh4 i) D' = some (nI (sg ++ pu b 4).length, D2) ∧ sR D2 (sg ++ pu b 4) ∧ ch [241, 252] [] D1 D2 ∧ ∀ j, j ≠ 16 → D2.1 241 j = D1.1 241 j) (I := fun i D' => sR D' (sg ++ pu b i) ∧ ch [241, 252] [] D1 D' ∧ ∀ j, j ≠ 16 → D'.1 241 j = D1.1 241 j) 4 ?_ ?_ 4 0 _ F (by omega) (by omega) ⟨r0, ch_rfl _ _ _, fun _ _ => rfl⟩
        · rintro n D' ⟨i1, i2, i3⟩
          rw [e_X12_four_73, if_pos (by decide), i1.2.1]
          exact ⟨D', rfl, i1, i2, i3⟩
        · rintro n i D' hi ⟨i1, i2, i3⟩ hk
          rw [e_X12_four_73, if_neg (sh4_s i hi).2, (hb i).2]
          simp only [xlet, e_X12_four_110, (sh4_s i hi).1]
          by_cases q2 : b i = 0
          · rw [if_pos ((hz i).mpr q2)]
            exact hk _ ⟨by rw [pu, if_pos q2, List.append_nil]; exact i1, i2, i3⟩
          · have g := sgz i (hbad i hi) q2
            have hl := (pu_mono b hi).2 q2
            have hl2 : (sg ++ pu b i).length < 200 := by rw [List.length_append]; omega
            rw [if_neg (fun c => q2 ((hz i).mp c)), i1.2.1, xgrd_in hl2 (by omega), nI_clamp (by omega), by_b (by omega) (hb i).2, xup_na _ _ _ _ _ (show 241 ≠ 252 by omega), i1.2.1, nI_1]
            refine hk (sM D' (sg ++ pu b i).length (b i)) ⟨?_, ch_trans i2 sM_ch.1, fun j hj => (sM_ch.2 j hj).trans (i3 j hj)⟩
            rw [pu, if_neg q2, ← List.append_assoc]
            exact sR_more i1 hl2
      obtain ⟨D2, f1, f2, f3, f4⟩ := m73
      refine ⟨nI (sg ++ pu b 4).length, D1, D2, ?_, ?_, Iv_signs h e3 f3 f4 e2 f2⟩
      · rw [e_X11_four, e_X6_collectFour, c5, if_pos q, e1]; rfl
      · rw [e_X12_four, m5 D1 (by rw [e3.1 241 (by decide)]; exact b4), if_pos q, f1]
    · refine Iv_same (r := -1) h ?_ ?_
      · rw [e_X11_four, e_X6_collectFour, c5, if_neg q]; rfl
      · rw [e_X12_four, m5 D b4, if_neg q]
  · -- one of them is none
    refine Iv_same (r := -1) h ?_ ?_
    · rw [e_X11_four, e_X6_collectFour]
      have : f_X6_collectFour_5 F P xS0 F 192 x 0 24 D = some (-1, D) := by
        rw [h24]
        refine lpu (W := fun n i (c : Int32) => f_X6_collectFour_5 F P xS0 n 192 x c (sh4 i) D = _) (I := fun i c => ∀ j, j < i → gd (b j)) 4 ?_ ?_ 4 0 _ F (by omega) (by omega) (fun j hj => absurd hj (by omega))
        · intro n c hc; exact absurd hc hbad
        · intro n i c hi hc hk
          rw [e_X6_collectFour_5, if_neg (sh4_s i hi).2, hu i hi]
          simp only [xlet, e_X6_collectFour_33, e_X6_collectFour_44, (sh4_s i hi).1]
          have hk' : gd (b i) → ∀ c', f_X6_collectFour_5 F P xS0 n 192 x c' (sh4 (i + 1)) D = some (-1, D) := fun g c' => hk c' (fun j hj => by
            by_cases e : j = i
            · rw [e]; exact g
            · exact hc j (by omega))
          by_cases q : b i = 0
          · rw [if_pos ((hz i).mpr q), if_pos ((hz i).mpr q)]
            exact hk' (Or.inl q) _
          · rw [if_neg (fun c => q ((hz i).mp c)), E_isSign]
            by_cases g : gd (b i)
            · have := sgz i g q
              rw [sgn_1 this.1 this.2, Option.bind_some, if_neg (show ¬ (1 : Int32) = 0 by decide), if_neg (fun c => q ((hz i).mp c))]
              exact hk' g _
            · rw [sgn_0 (sgb i g), Option.bind_some, if_pos rfl]
      rw [this]; rfl
    · rw [e_X12_four, h24]
      refine lpu (W := fun n i (c : Int32) => f_X12_four_5 F P xS0 n 241 x c (sh4 i) D = _) (I := fun i c => ∀ j, j < i → gd (b j)) 4 ?_ ?_ 4 0 _ F (by omega) (by omega) (fun j hj => absurd hj (by omega))
      · intro n c hc; exact absurd hc hbad
      · intro n i c hi hc hk
        rw [e_X12_four_5, if_neg (sh4_s i hi).2, (hb i).2]
        simp only [xlet, e_X12_four_37, e_X12_four_48, (sh4_s i hi).1]
        have hk' : gd (b i) → ∀ c', f_X12_four_5 F P xS0 n 241 x c' (sh4 (i + 1)) D = some (-1, D) := fun g c' => hk c' (fun j hj => by
          by_cases e : j = i
          · rw [e]; exact g
          · exact hc j (by omega))
        by_cases q : b i = 0
        · rw [if_pos ((hz i).mpr q), if_pos ((hz i).mpr q)]
          exact hk' (Or.inl q) _
        · rw [if_neg (fun c => q ((hz i).mp c)), E_in]
          by_cases g : gd (b i)
          · have := sgz i g q
            rw [sgn_1 this.1 this.2, Option.bind_some, if_neg (show ¬ (1 : Int32) = 0 by decide), if_neg (fun c => q ((hz i).mp c))]
            exact hk' g _
          · rw [sgn_0 (sgb i g), Option.bind_some, if_pos rfl]
