/-! where a formula holds: the reference -/
theorem known_in {F P : Nat} (hF : 1000 < F) {D : xDt} {W : Wd} (hW : wOK W) (hM : wM (D.1 241 1) (D.1 242) (D.1 243) W) {s m w : Nat} (hs : s ≤ 15) (hm : m < 16) (hw : w < W.1) (x th : Int64) (hth : ∀ j, bt th j = true → j < W.1) (A : Nat → Int64 → Prop)
    (a1 : ∀ v, A 4 v → ∀ u, u < W.1 → (bt v u = true ↔ rch W s m th w u))
    (a2 : ∀ g v, g < 4 → A g v → m.testBit g = false → A (g + 1) v)
    (a3 : ∀ g v, g < 4 → A g v → m.testBit g = true → s = 8 → A (g + 1) v)
    (a4 : ∀ g v, g < 4 → A g v → m.testBit g = true → s = 9 → A (g + 1) (v &&& cs W g w))
    (a5 : ∀ g v, g < 4 → A g v → m.testBit g = true → s ≠ 8 → s ≠ 9 → A (g + 1) (v ||| cs W g w))
    {rec : Nat → Int32 → Int32 → Int64 → Int64 → Int64 → Int32 → xDt → Option (Int64 × xDt)} {v7 v10 : Int64} (h0 : A 0 v10) {Q : Option (Int64 × xDt)}
    (hQ1 : (∀ u, u < W.1 → rch W s m th w u → bt th u = true → bt x u = true) → rec 241 (nI s) (nI m) x th (v7 ||| jlshl 1 (nI w)) (nI (w + 1)) D = Q)
    (hQ2 : ¬ (∀ u, u < W.1 → rch W s m th w u → bt th u = true → bt x u = true) → rec 241 (nI s) (nI m) x th (v7 ||| 0) (nI (w + 1)) D = Q) :
    f_X12_known_65 F P xS0 rec F 241 (nI s) (nI m) x th v7 (nI w) v10 1 D = Q := by
  have hn := hW.1
  refine lpu (W := fun n i (v : Int64) => f_X12_known_65 F P xS0 rec n 241 (nI s) (nI m) x th v7 (nI w) v (nI (i + 1)) D = Q) (I := A) 4 ?_ ?_ 4 0 _ F (by omega) (by omega) h0
  · intro n v hv
    have h1 := a1 v hv
    rw [e_X12_known_65, if_pos (by decide), e_X12_known_152, e_X12_known_152]
    simp only [xlet, e_X12_known_155, nI_1]
    have hz : (v &&& th) &&& (x ^^^ (-1)) = 0 ↔ (∀ u, u < W.1 → rch W s m th w u → bt th u = true → bt x u = true) := by
      rw [z_iff]
      constructor
      · intro h u hu hr ht
        have := h u (by omega)
        rw [bt_andn, bt_and, (h1 u hu).mpr hr, ht] at this
        simpa using this
      · intro h j hj
        rw [bt_andn, bt_and]
        cases hv2 : bt v j
        · rfl
        · cases ht : bt th j
          · rfl
          · have hj2 := hth j ht
            rw [h j hj2 ((h1 j hj2).mp hv2) ht]; rfl
    by_cases hc : (v &&& th) &&& (x ^^^ (-1)) = 0
    · rw [if_pos (by rw [cmp0]; exact hc)]
      exact hQ1 (hz.mp hc)
    · rw [if_neg (by rw [cmp0]; exact hc)]
      exact hQ2 (fun c => hc (hz.mpr c))
  · intro n g v hg hv hk
    rw [e_X12_known_65, k4, if_neg (by rw [nI_ltI (by omega) (by omega)]; omega), nI_s1 (by omega), Nat.add_sub_cancel]
    simp only [e_X12_known_120, e_X12_known_118, xlet, nI_1]
    by_cases hmg : m.testBit g = true
    · rw [if_pos ((gr_bit m hm g hg).mpr hmg)]
      by_cases h8 : s = 8
      · rw [if_pos (by rw [h8]; rfl)]
        exact hk v (a3 g v hg hv hmg h8)
      · rw [if_neg (by rw [k8, nI_eq (by omega) (by omega)]; exact h8), E_cellOf hF hW hM hg hw]
        simp only [Option.bind_some]
        by_cases h9 : s = 9
        · rw [if_pos (by rw [h9]; rfl)]
          exact hk _ (a4 g v hg hv hmg h9)
        · rw [if_neg (by rw [k9, nI_eq (by omega) (by omega)]; exact h9)]
          exact hk _ (a5 g v hg hv hmg h8 h9)
    · rw [if_neg (fun c => hmg ((gr_bit m hm g hg).mp c))]
      exact hk v (a2 g v hg hv (by simpa using hmg))
theorem E_mknown {F P : Nat} (hF : 1000 < F) {D : xDt} {W : Wd} (hW : wOK W) (hM : wM (D.1 241 1) (D.1 242) (D.1 243) W) {s m : Nat} (hs : s ≤ 15) (hm : m < 16) (x th : Int64) (hth : ∀ j, bt th j = true → j < W.1) : f_X12_known F P xS0 241 (nI s) (nI m) x th D = some (kn W s m x th, D) := by
  have hn := hW.1
  rw [e_X12_known]
  refine lpu (W := fun n i (v : Int64) => f_X12_known_6 F P xS0 n 241 (nI s) (nI m) x th v (nI i) D = some (kn W s m x th, D)) (I := fun i v => v = mkB (fun w => decide (w < W.1) && bt th w && tb (∀ u, u < W.1 → rch W s m th w u → bt th u = true → bt x u = true)) i) W.1 ?_ ?_ W.1 0 _ F (by omega) (by omega) rfl
  · rintro n v rfl
    rw [e_X12_known_6, hM.1, if_pos (Int32.le_refl _), mkB_full hn (fun j hj => by simp; intro h; omega)]
    rfl
  · rintro n w v hw rfl hk
    rw [e_X12_known_6, hM.1, if_neg (by rw [nI_leI (by omega) (by omega)]; omega)]
    by_cases hb : bt th w = true
    · rw [if_pos (by rw [test1' _ (by omega)]; exact hb)]
      have q1 : (∀ u, u < W.1 → rch W s m th w u → bt th u = true → bt x u = true) → f_X12_known_6 F P xS0 n 241 (nI s) (nI m) x th (mkB (fun w => decide (w < W.1) && bt th w && tb (∀ u, u < W.1 → rch W s m th w u → bt th u = true → bt x u = true)) w ||| jlshl 1 (nI w)) (nI (w + 1)) D = some (kn W s m x th, D) := fun h => hk _ (by rw [mkB, tb_iff.mpr h]; simp [hw, hb])
      have q2 : ¬ (∀ u, u < W.1 → rch W s m th w u → bt th u = true → bt x u = true) → f_X12_known_6 F P xS0 n 241 (nI s) (nI m) x th (mkB (fun w => decide (w < W.1) && bt th w && tb (∀ u, u < W.1 → rch W s m th w u → bt th u = true → bt x u = true)) w ||| 0) (nI (w + 1)) D = some (kn W s m x th, D) := fun h => hk _ (by rw [mkB, tb_f.mpr h]; simp)
      by_cases h8 : s = 8
      · rw [if_pos (by rw [h8]; rfl)]
        obtain ⟨y, e, hy⟩ := E_reached (F := F) (P := P) hF hW hM hm hw th
        rw [e]
        simp only [Option.bind_some, e_X12_known_60]
        refine known_in hF hW hM hs hm hw x th hth (fun _ v => v = y) ?_ ?_ ?_ ?_ ?_ rfl q1 q2
        · rintro v rfl u hu
          rw [hy u, rch, if_pos h8]
        · intro g v _ h _; exact h
        · intro g v _ h _ _; exact h
        · intro g v _ _ _ c; omega
        · intro g v _ _ _ c; exact absurd h8 c
      · rw [if_neg (by rw [k8, nI_eq (by omega) (by omega)]; exact h8)]
        simp only [e_X12_known_60]
        by_cases h9 : s = 9
        · rw [if_pos (by rw [h9]; rfl)]
          refine known_in hF hW hM hs hm hw x th hth (fun i v => ∀ u, u < W.1 → (bt v u = true ↔ ∀ g, g < i → m.testBit g = true → W.2.2 g u = W.2.2 g w)) ?_ ?_ ?_ ?_ ?_ ?_ q1 q2
          · intro v h u hu
            rw [h u hu, rch, if_neg h8, if_pos h9]
          · intro g v hg h hmg u hu
            rw [h u hu]
            constructor
            · intro q g' q3 q4
              by_cases e : g' = g
              · subst e; rw [hmg] at q4; cases q4
              · exact q g' (by omega) q4
            · intro q g' q3 q4; exact q g' (by omega) q4
          · intro g v _ _ _ c; exact absurd c h8
          · intro g v hg h hmg _ u hu
            rw [bt_and, bt_cs _ hn, Bool.and_eq_true, Bool.and_eq_true, decide_eq_true_iff, decide_eq_true_iff, h u hu]
            constructor
            · rintro ⟨q, _, q2⟩ g' q3 q4
              by_cases e : g' = g
              · subst e; exact q2
              · exact q g' (by omega) q4
            · intro q; exact ⟨fun g' q3 q4 => q g' (by omega) q4, hu, q g (by omega) hmg⟩
          · intro g v _ _ _ _ c; exact absurd h9 c
          · intro u hu
            rw [bt_m1]
            constructor
            · intro _ g hg; omega
            · intro _; simp; omega
        · rw [if_neg (by rw [k9, nI_eq (by omega) (by omega)]; exact h9)]
          refine known_in hF hW hM hs hm hw x th hth (fun i v => ∀ u, u < W.1 → (bt v u = true ↔ ∃ g, g < i ∧ m.testBit g = true ∧ W.2.2 g u = W.2.2 g w)) ?_ ?_ ?_ ?_ ?_ ?_ q1 q2
          · intro v h u hu
            rw [h u hu, rch, if_neg h8, if_neg h9]
          · intro g v hg h hmg u hu
            rw [h u hu]
            constructor
            · rintro ⟨g', q1, q2⟩; exact ⟨g', by omega, q2⟩
            · rintro ⟨g', q1, q2, q3⟩
              by_cases e : g' = g
              · subst e; rw [hmg] at q2; cases q2
              · exact ⟨g', by omega, q2, q3⟩
          · intro g v _ _ _ c; exact absurd c h8
          · intro g v _ _ _ c; exact absurd c h9
          · intro g v hg h hmg _ _ u hu
            rw [bt_or, bt_cs _ hn, Bool.or_eq_true, Bool.and_eq_true, decide_eq_true_iff, decide_eq_true_iff, h u hu]
            constructor
            · rintro (⟨g', q1, q2⟩ | ⟨_, q2⟩)
              · exact ⟨g', by omega, q2⟩
              · exact ⟨g, by omega, hmg, q2⟩
            · rintro ⟨g', q1, q2, q3⟩
              by_cases e : g' = g
              · subst e; exact Or.inr ⟨hu, q3⟩
              · exact Or.inl ⟨g', by omega, q2, q3⟩
          · intro u hu
            rw [bt_0]
            constructor
            · intro c; cases c
            · rintro ⟨g, hg, _⟩; omega
    · rw [if_neg (by rw [test1' _ (by omega)]; exact hb), e_X12_known_155]
      simp only [xlet, nI_1]
      exact hk _ (by rw [mkB]; simp [hb])
theorem m16 {s m : Nat} (h : mOK s m) : m < 16 := by
  unfold mOK at h; omega
theorem E_mwhere {F P : Nat} (hF : 1000 < F) {D : xDt} {W : Wd} (hW : wOK W) (hM : wM (D.1 241 1) (D.1 242) (D.1 243) W) {lo : Nat} : ∀ (t : T) (i n : Nat) (th : Int64), wfT t → nd D.1 lo t i → sz t < n → (∀ j, bt th j = true → j < W.1) → f_X12_where F P xS0 n 241 (nI i) th D = some (ev W t th, D)
  | .leaf, _, _, _, h, _, _, _ => absurd h (by simp [wfT])
  | .inner s m _ l r, i, 0, th, _, _, h, _ => absurd h (by omega)
  | .inner s m _ l r, i, n + 1, th, hw, hd, hs, hth => by
    have hn := hW.1
    obtain ⟨w1, w2, w3, w4⟩ := hw
    obtain ⟨d1, d2, d3, d4, d5, d6, d7⟩ := hd
    have hi : xin (nI i) 92800 = true := xin_nI d2 (by omega)
    have hc : (nI i).toNatClampNeg = i := nI_clamp (by omega)
    have hm := m16 w3
    show f_X12_where_o F P xS0 (f_X12_where F P xS0 n) 241 (nI i) th D = _
    rw [sz] at hs
    have m8 : s = 1 → m < 8 := by unfold mOK at w3; omega
    rw [e_X12_where_o, hi, hc, d4]
    rcases w4 with ⟨w4, rfl, rfl⟩ | ⟨w4, w5, w6, rfl⟩ | ⟨w4, w5, w6⟩
    · rcases (show s = 1 ∨ s = 2 ∨ s = 3 by omega) with rfl | rfl | rfl
      · simp only [show D.1 247 i = 1 from d3, xgrd_t, if_true, E_ofAtom hF hW hM (m8 rfl), Option.bind_some, ev]
      · simp only [show D.1 247 i = 2 from d3, xgrd_t, ev]
        rfl
      · simp only [show D.1 247 i = 3 from d3, xgrd_t, ev]
        rfl
    · rcases d6 with ⟨e, _⟩ | ⟨j, hj, e, hl⟩
      · subst e; exact absurd w6 (by simp [wfT])
      rcases d7 with ⟨_, e9⟩ | ⟨j2, _, _, hr⟩
      rotate_left
      · exact absurd hr (by simp [nd])
      have ih := E_mwhere (P := P) hF hW hM l j n th w6 hl (by omega) hth
      have hk5 := fun s' (h : s' ≤ 15) => E_mknown (F := F) (P := P) hF hW hM (s := s') (m := m) h hm
      have r2 : (0 : Int32) ≤ -2 ↔ False := by decide
      rcases (show s = 4 ∨ s = 5 ∨ s = 6 ∨ s = 7 ∨ s = 8 ∨ s = 9 by omega) with rfl | rfl | rfl | rfl | rfl | rfl
      · have d3' : D.1 247 i = 4 := d3
        simp only [d3', xgrd_t, e, ih, Option.bind_some, hi, hc, e9, r2, if_false, e_X12_where_191, d4, ev]
        rfl
      · have d3' : D.1 247 i = 5 := d3
        simp only [d3', xgrd_t, e, ih, Option.bind_some, hi, hc, e9, r2, if_false, e_X12_where_191, d4, show f_X12_known F P xS0 241 5 (nI m) (ev W l th) th D = _ from hk5 5 (by omega) _ th hth, ev]
        rfl
      · have d3' : D.1 247 i = 6 := d3
        simp only [d3', xgrd_t, e, ih, Option.bind_some, hi, hc, e9, r2, if_false, e_X12_where_191, d4, show f_X12_known F P xS0 241 5 (nI m) (th &&& (ev W l th ^^^ (-1))) th D = _ from hk5 5 (by omega) _ th hth, ev]
        rfl
      · have d3' : D.1 247 i = 7 := d3
        simp only [d3', xgrd_t, e, ih, Option.bind_some, hi, hc, e9, r2, if_false, e_X12_where_191, d4, show f_X12_known F P xS0 241 7 (nI m) (ev W l th) th D = _ from hk5 7 (by omega) _ th hth, ev]
        rfl
      · have d3' : D.1 247 i = 8 := d3
        simp only [d3', xgrd_t, e, ih, Option.bind_some, hi, hc, e9, r2, if_false, e_X12_where_191, d4, show f_X12_known F P xS0 241 8 (nI m) (ev W l th) th D = _ from hk5 8 (by omega) _ th hth, ev]
        rfl
      · have d3' : D.1 247 i = 9 := d3
        simp only [d3', xgrd_t, e, ih, Option.bind_some, hi, hc, e9, r2, if_false, e_X12_where_191, d4, show f_X12_known F P xS0 241 9 (nI m) (ev W l th) th D = _ from hk5 9 (by omega) _ th hth, ev]
        rfl
    · rcases d6 with ⟨e, _⟩ | ⟨j, hj, e, hl⟩
      · subst e; exact absurd w5 (by simp [wfT])
      rcases d7 with ⟨e, _⟩ | ⟨j2, hj2, e9, hr⟩
      · subst e; exact absurd w6 (by simp [wfT])
      have ih := E_mwhere (P := P) hF hW hM l j n th w5 hl (by omega) hth
      have ih2 := fun th' h => E_mwhere (P := P) hF hW hM r j2 n th' w6 hr (by omega) h
      have ih3 := ih2 th hth
      have ih4 := ih2 (ev W l th) (fun x hx => hth x (ev_sub hn l th x hx))
      have r2 : (0 : Int32) ≤ nI j2 ↔ True := by simp [nI_pos' (show j2 < 2 ^ 31 by omega)]
      rcases (show s = 10 ∨ s = 11 ∨ s = 12 ∨ s = 13 ∨ s = 14 ∨ s = 15 by omega) with rfl | rfl | rfl | rfl | rfl | rfl
      · have d3' : D.1 247 i = 10 := d3
        simp only [d3', xgrd_t, e, ih, ih3, Option.bind_some, hi, hc, e9, r2, if_true, e_X12_where_191, ev]
        rfl
      · have d3' : D.1 247 i = 11 := d3
        simp only [d3', xgrd_t, e, ih, ih3, Option.bind_some, hi, hc, e9, r2, if_true, e_X12_where_191, ev]
        rfl
      · have d3' : D.1 247 i = 12 := d3
        simp only [d3', xgrd_t, e, ih, ih3, Option.bind_some, hi, hc, e9, r2, if_true, e_X12_where_191, ev]
        rfl
      · have d3' : D.1 247 i = 13 := d3
        simp only [d3', xgrd_t, e, ih, ih3, Option.bind_some, hi, hc, e9, r2, if_true, e_X12_where_191, ev]
        rfl
      · have d3' : D.1 247 i = 14 := d3
        simp only [d3', xgrd_t, e, ih, ih4, Option.bind_some, hi, hc, e9, r2, if_true, e_X12_where_191, ev]
        rfl
      · have d3' : D.1 247 i = 15 := d3
        simp only [d3', xgrd_t, e, ih, ih4, Option.bind_some, hi, hc, e9, r2, if_true, e_X12_where_191, ev]
        rfl
