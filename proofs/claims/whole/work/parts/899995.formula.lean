/-! formula -/
theorem E_cread {sg : List Nat} (hN : sg.length ≤ 200) (hs : ∀ x, x ∈ sg → 32 ≤ x ∧ x ≤ 126) {F P k : Nat} (hF : 10000 < F) (hk : 1005 ≤ k) {D : xDt} (hg : cg sg D) : RS (Rb ((pA sg k).1 0 (sk sg 0) 0) (fun t p n => if p = sg.length then .ok (t, p, n) else .error p)) (fun q => ∃ D', f_X6_read F P xS0 192 202 D = some (-10 - nI q, D') ∧ q ≤ 200 ∧ D'.1 192 1 = 0 ∧ ch [192, 194, 195, 196, 197, 198, 199, 200, 201] [] D D') (fun t _ _ => ∃ D', f_X6_read F P xS0 192 202 D = some (nI (sz t), D') ∧ wfT t ∧ sz t ≤ 150 ∧ D'.1 192 1 = 0 ∧ fmC D' 202 203 t ∧ ch [192, 194, 195, 196, 197, 198, 199, 200, 201, 202, 203] [] D D') := by
  obtain ⟨s1, s2, s3⟩ := sk_p (sg := sg) (p := 0) (by omega)
  generalize hD0 : ((xup (xup D.1 194 1 0) 192 9 (-1), D.2) : xDt) = D0
  have d1 : ∀ x, x ≠ 192 → x ≠ 194 → D0.1 x = D.1 x := fun x h1 h2 => by rw [← hD0]; dsimp only; rw [xup_ne _ _ _ _ h1, xup_ne _ _ _ _ h2]
  have d2 : D0.1 192 9 = -1 := by rw [← hD0]; dsimp only; rw [xup_at]
  have d3 : D0.1 194 1 = 0 := by rw [← hD0]; dsimp only; rw [xup_na _ _ _ _ _ (by omega), xup_at]
  have d4 : ch [192, 194, 195, 196, 197, 198, 199, 200, 201] [] D D0 := by rw [← hD0]; exact ch_i (D' := (xup D.1 194 1 0, D.2)) (by simp) (ch_i (by simp) (ch_rfl _ _ _))
  obtain ⟨D1, e1, a1, a2, a3, a4, a5, a6, a7, a8, a9, a10, a11, a12⟩ := E_enter (F := F) (P := P) (D := D0) (e := 0) (c := 0) (by rw [d2]; rfl) (by omega) (by omega)
  have g1 : cg sg D1 := ⟨by rw [a4 1 (by omega) (by omega) (by omega), ← hD0]; dsimp only; rw [xup_nk _ _ _ _ _ (by omega), xup_na _ _ _ _ _ (by omega)]; exact hg.1, by rw [a12.1 193 (by decide), d1 193 (by omega) (by omega)]; exact hg.2⟩
  have e2 := E_cts (F := F) (P := P) (x := 0) hN hs hF (by omega) g1
  generalize hD2 : ((xup D1.1 192 12 (nI (sk sg 0)), D1.2) : xDt) = D2 at e2
  have b1 : ∀ x, x ≠ 192 → D2.1 x = D1.1 x := fun x h1 => by rw [← hD2]; dsimp only; rw [xup_ne _ _ _ _ h1]
  have b2 : ∀ j, j ≠ 12 → D2.1 192 j = D1.1 192 j := fun j h1 => by rw [← hD2]; dsimp only; rw [xup_nk _ _ _ _ _ h1]
  have b3 : ch [192, 194, 195, 196, 197, 198, 199, 200, 201] [] D D2 := by
    rw [← hD2]
    exact ch_i (by simp) (ch_trans d4 (ch_mono a12 (fun x hx => by simp at hx ⊢; omega) (fun _ h => h)))
  have hcb : cb sg D2 0 (sk sg 0) [] := ⟨⟨by rw [b2 1 (by omega)]; exact g1.1, by rw [b1 193 (by omega)]; exact g1.2⟩, by rw [b2 9 (by omega)]; exact a1, by rw [← hD2]; dsimp only; rw [xup_at], by rw [b1 194 (by omega), a12.1 194 (by decide)]; exact d3, fun i hi => absurd hi (by simp), by simp, s2, s3, Or.inl (by rw [b1 196 (by omega)]; exact a5), Or.inl (by rw [b1 201 (by omega)]; exact a7), by omega⟩
  have r := (C_all (P := P) hN hs hF k).1 0 (sk sg 0) 0 [] D2 0 (by omega) hcb rfl (by omega) ⟨by rw [b2 11 (by omega)]; exact a3, by rw [b2 10 (by omega)]; exact a2⟩ (by rw [b1 197 (by omega), a8]; exact d3) (by rw [b1 198 (by omega), a9]; exact d3) (by rw [b1 199 (by omega), a10]; exact d3) (by rw [b1 201 (by omega)]; exact a7)
  have gg := (P_all sg k).1 0 (sk sg 0) 0 s2 (by omega)
  have eread : ∀ (v : Int32) (D3 : xDt), tA F P 0 D2 = some (v, D3) → f_X6_read F P xS0 192 202 D = if v = 0 then some (-10 - (D3.1 192 12), (xup D3.1 192 1 0, D3.2)) else ((f_X2_copy F P xS0 202 194 (xup D3.1 192 1 0, D3.2)).bind fun q7 => some (q7.1 202 1, q7)) := by
    intro v D3 h
    rw [e_X6_read]
    simp only [xlet]
    rw [hD0, show f_X6_enter F P xS0 192 0 D0 = some D1 from e1, Option.bind_some, show f_X6_toSign F P xS0 192 0 D1 = some D2 from e2, Option.bind_some, e_X6_takeAll, show f_X6_takeAll_2 F P xS0 F 192 0 D2 = some (v, D3) from h, Option.bind_some]
    dsimp only
    rw [xup_nk _ _ _ _ _ (show 12 ≠ 1 by omega)]
  have flt : ∀ (q : Nat) (D3 : xDt), q ≤ 200 → tA F P 0 D2 = some (0, D3) → D3.1 192 12 = nI q → ch [192, 194, 195, 196, 197, 198, 199, 200, 201] [] D2 D3 → ∃ D', f_X6_read F P xS0 192 202 D = some (-10 - nI q, D') ∧ q ≤ 200 ∧ D'.1 192 1 = 0 ∧ ch [192, 194, 195, 196, 197, 198, 199, 200, 201] [] D D' := by
    intro q D3 h0 h1 h2 h3
    refine ⟨(xup D3.1 192 1 0, D3.2), by rw [eread 0 D3 h1, if_pos rfl, h2], h0, by dsimp only; rw [xup_at], ch_i (by simp) (ch_trans b3 h3)⟩
  rcases hr : (pA sg k).1 0 (sk sg 0) 0 with q | ⟨t, p', n'⟩
  · rw [hr] at r gg
    obtain ⟨D3, k1, k2, k3⟩ := r
    have : q ≤ sg.length := gg
    exact flt q D3 (by omega) k1 k2 k3
  · rw [hr] at r gg
    obtain ⟨D3, s', k1, k2, k3, k4, k5, k6⟩ := r
    obtain ⟨w1, w2, w3, w4, w5, w6, w7⟩ := id gg
    dsimp only at w1 w2 w3 w4 w5 w6 w7 k1 k3 k6
    rw [List.nil_append] at k3
    show RS (if p' = sg.length then .ok (t, p', n') else .error p') _ _
    have h127 := sA_127 hs p'
    by_cases c : p' = sg.length
    · rw [if_pos c]
      have ht := tA_e (F := F) (P := P) (s := s') hN hF (by rw [← c]; exact k3) (by omega)
      rw [if_pos ⟨rfl, k4⟩] at ht
      obtain ⟨_, _, _, z194, z195, _⟩ := k3
      rw [tks_len] at z194
      obtain ⟨D4, e4, f1, f2, f3, f4⟩ := E_fcopy (F := F) (P := P) (D := (xup D3.1 192 1 0, D3.2)) (a := 202) (ta := 203) (b := 194) (tb := 195) (n := sz t) (by decide +kernel) (by decide +kernel) (by dsimp only; rw [xup_na _ _ _ _ _ (by omega)]; exact z194) (by rw [show xl xS0 203 = 2000 by decide +kernel]; omega) (by rw [l195.1]; omega) (by rw [show xl xS0 203 = 2000 by decide +kernel]; omega) (by rw [l195.1]; omega) (by omega) (by omega) (by omega) (by omega)
      refine ⟨D4, ?_, w6, by dsimp only; omega, ?_, ⟨f3, tkAt_congr (fun i hi => ?_) z195⟩, fun x hx => ?_, fun x hx => ?_⟩
      · rw [eread 1 D3 (by rw [k2]; exact ht), if_neg (by decide), e4, Option.bind_some, f3]
      · rw [f1 192 (by omega) (by omega)]; dsimp only; rw [xup_at]
      · rw [Nat.zero_add, f4 i (by rw [tks_len] at hi; exact hi)]; dsimp only; rw [xup_na _ _ _ _ _ (by omega)]
      · simp only [List.mem_cons, List.not_mem_nil, or_false, not_or] at hx
        rw [f1 x (by omega) (by omega)]
        dsimp only
        rw [xup_ne _ _ _ _ (by omega), k5.1.1 x (by simp; omega), b3.1 x (by simp; omega)]
      · rw [f2]
        dsimp only
        rw [k5.1.2 x (by simp), b3.2 x (by simp)]
    · rw [if_neg c]
      have hcl : D3.1 196 0 = nI 0 := by rw [k5.2 196 (by omega) (by omega) 0 (Or.inr ⟨rfl, by decide⟩), b1 196 (by omega)]; exact a5
      have ht := tA_b (F := F) (P := P) (s := s') (v := 0) (D' := D3) hN hF k3 k4 (by omega) k1 (E_rej k3 (by omega) ⟨w7 38 (by simp), w7 124 (by simp), w7 62 (by simp)⟩ k6 (by rw [hcl]; exact nI_nk (by omega) (by omega) (by omega)))
      rw [if_pos rfl] at ht
      exact flt p' D3 (by omega) (by rw [k2]; exact ht) k3.2.2.1 k5.1
theorem E_mread {sg : List Nat} (hN : sg.length ≤ 200) (hs : ∀ x, x ∈ sg → 32 ≤ x ∧ x ≤ 126) {F P : Nat} (hF : 10000 < F) (hP : 2005 < P) {D : xDt} (hg1 : D.1 241 16 = nI sg.length) (hg2 : tkAt (D.1 252) 0 sg) : RS (Rb ((pA sg P).1 0 (sk sg 0) 0) (fun t p n => if p = sg.length then .ok (t, p, n) else .error p)) (fun q => ∃ D', f_X12_formula F P xS0 241 D = some (-10 - nI q, D') ∧ D'.1 241 16 = 0 ∧ ch [241, 247, 248, 249, 250, 251] [] D D' ∧ (∀ j, j ≠ 13 → j ≠ 16 → j ≠ 17 → j ≠ 18 → j ≠ 19 → D'.1 241 j = D.1 241 j) ∧ ∀ x, x ≠ 241 → ∀ j, j < 12800 → D'.1 x j = D.1 x j) (fun t _ _ => ∃ D', f_X12_formula F P xS0 241 D = some (nI (sz t), D') ∧ D'.1 241 16 = 0 ∧ ch [241, 247, 248, 249, 250, 251] [] D D' ∧ (∀ j, j ≠ 13 → j ≠ 14 → j ≠ 16 → j ≠ 17 → j ≠ 18 → j ≠ 19 → D'.1 241 j = D.1 241 j) ∧ (∀ x, x ≠ 241 → ∀ j, 2000 ≤ j → j < 12800 → D'.1 x j = D.1 x j) ∧ D'.1 241 14 = nI (sz t - 1) ∧ nd D'.1 0 t (sz t - 1)) := by
  obtain ⟨s1, s2, s3⟩ := sk_p (sg := sg) (p := 0) (by omega)
  generalize hD0 : ((xup (xup (xup (xup D.1 241 17 0) 241 18 (-2)) 241 19 0) 241 13 12800, D.2) : xDt) = D0
  have d1 : ∀ x, x ≠ 241 → D0.1 x = D.1 x := fun x h1 => by rw [← hD0]; dsimp only; rw [xup_ne _ _ _ _ h1, xup_ne _ _ _ _ h1, xup_ne _ _ _ _ h1, xup_ne _ _ _ _ h1]
  have d2 : ∀ j, j ≠ 13 → j ≠ 17 → j ≠ 18 → j ≠ 19 → D0.1 241 j = D.1 241 j := fun j h1 h2 h3 h4 => by rw [← hD0]; dsimp only; rw [xup_nk _ _ _ _ _ h1, xup_nk _ _ _ _ _ h4, xup_nk _ _ _ _ _ h3, xup_nk _ _ _ _ _ h2]
  have d3 : D0.1 241 17 = 0 ∧ D0.1 241 18 = -2 ∧ D0.1 241 19 = 0 ∧ D0.1 241 13 = 12800 := by
    rw [← hD0]
    dsimp only
    refine ⟨?_, ?_, ?_, ?_⟩
    · rw [xup_nk _ _ _ _ _ (by omega), xup_nk _ _ _ _ _ (by omega), xup_nk _ _ _ _ _ (by omega), xup_at]
    · rw [xup_nk _ _ _ _ _ (by omega), xup_nk _ _ _ _ _ (by omega), xup_at]
    · rw [xup_nk _ _ _ _ _ (by omega), xup_at]
    · rw [xup_at]
  have f0 : ch [241, 247, 248, 249, 250, 251] [] D D0 := ⟨fun x hx => d1 x (by simp at hx; omega), fun x _ => by rw [← hD0]⟩
  have h0 : mst sg D0 (sk sg 0) 0 12800 := ⟨⟨0, by omega, rfl, d3.1⟩, d3.2.1, d3.2.2.1, d3.2.2.2, by omega, by omega, by omega, by rw [d2 16 (by omega) (by omega) (by omega) (by omega)]; exact hg1, by rw [d1 252 (by omega)]; exact hg2⟩
  have r := (M_all (P := P) hN hs hF P).1 0 (sk sg 0) 0 12800 D0 (-2) (by omega) (by omega) h0
  have gg := (P_all sg P).1 0 (sk sg 0) 0 s2 (by omega)
  have ef : f_X12_formula F P xS0 241 D = ((f_X12_formulaAt_all F P xS0 P).1 241 (nI 0) (-2) D0).bind fun q5 => if 0 ≤ (q5.2.1 241 18) then (f_X12_formula_52 F P xS0 241 q5.1 q5.2) else ((f_X12_look F P xS0 241 q5.2).bind fun q6 => if q6.1 = (-2) then (f_X12_formula_52 F P xS0 241 q5.1 q6.2) else ((f_X12_bad F P xS0 241 q6.2).bind fun q7 => f_X12_formula_52 F P xS0 241 q5.1 q7.2)) := by
    rw [e_X12_formula]
    simp only [xlet]
    rw [hD0]
    rfl
  -- a fault
  have flt : ∀ (q : Nat) (v : Int32) (D1 : xDt), q ≤ 200 → D1.1 241 18 = nI q → mfr D0 D1 12800 → ∃ D', f_X12_formula_52 F P xS0 241 v D1 = some (-10 - nI q, D') ∧ D'.1 241 16 = 0 ∧ ch [241, 247, 248, 249, 250, 251] [] D D' ∧ (∀ j, j ≠ 13 → j ≠ 16 → j ≠ 17 → j ≠ 18 → j ≠ 19 → D'.1 241 j = D.1 241 j) ∧ ∀ x, x ≠ 241 → ∀ j, j < 12800 → D'.1 x j = D.1 x j := by
    intro q v D1 a1 a2 a3
    refine ⟨(xup D1.1 241 16 0, D1.2), ?_, by dsimp only; rw [xup_at], ch_i (by simp) (ch_trans f0 a3.1), fun j h1 h2 h3 h4 h5 => ?_, fun x hx j hj => ?_⟩
    · rw [e_X12_formula_52]
      simp only [xlet]
      rw [if_neg (by rw [xup_nk _ _ _ _ _ (by omega), a2]; exact nI_pos (by omega)), xup_nk _ _ _ _ _ (by omega), a2]
    · dsimp only; rw [xup_nk _ _ _ _ _ h2, a3.2.1 j h1 h3 h4 h5, d2 j h1 h3 h4 h5]
    · dsimp only; rw [xup_na _ _ _ _ _ hx, a3.2.2 x hx j hj, d1 x hx]
  rcases hr : (pA sg P).1 0 (sk sg 0) 0 with q | ⟨t, p', n'⟩
  · rw [hr] at r gg
    obtain ⟨⟨v, D1⟩, e1, r1, r2⟩ := r
    have hq : q ≤ sg.length := gg
    obtain ⟨D', k1, k2⟩ := flt q v D1 (by omega) r1 r2
    exact ⟨D', by rw [ef, e1, Option.bind_some, if_pos (by rw [r1]; exact nI_pos' (by omega))]; exact k1, k2⟩
  · rw [hr] at r gg
    obtain ⟨⟨v, D1⟩, e1, r1, z, i, r2, r3, r4, r5, r6, r7⟩ := r
    obtain ⟨w1, w2, w3, w4, w5, w6, w7⟩ := id gg
    dsimp only at w1 w2 w3 w4 w5 w6 w7 r1 r2 r3 r5 r7
    subst r5
    have h127 := sA_127 hs p'
    obtain ⟨D2, e2, q1, q2⟩ := E_mlook (F := F) (P := P) hN hs hF r2
    have f2 : mfr D0 D2 12800 := mfr_trans r4 r1 q2
    have e0 : f_X12_formula F P xS0 241 D = if lk (sA sg p') = -2 then (f_X12_formula_52 F P xS0 241 (nI i) D2) else ((f_X12_bad F P xS0 241 D2).bind fun q7 => f_X12_formula_52 F P xS0 241 (nI i) q7.2) := by
      rw [ef, e1, Option.bind_some, if_neg (by rw [r2.2.1]; decide)]
      dsimp only
      rw [e2, Option.bind_some]
    show RS (if p' = sg.length then .ok (t, p', n') else .error p') _ _
    by_cases c : p' = sg.length
    · rw [if_pos c]
      have hl : lk (sA sg p') = -2 := by rw [h127.2.mpr (by omega)]; rfl
      generalize hD3 : ((xup D2.1 241 16 0, D2.2) : xDt) = D3
      have g1 : ∀ x, x ≠ 241 → D3.1 x = D2.1 x := fun x h1 => by rw [← hD3]; dsimp only; rw [xup_ne _ _ _ _ h1]
      have g2 : ∀ j, j ≠ 16 → D3.1 241 j = D2.1 241 j := fun j h1 => by rw [← hD3]; dsimp only; rw [xup_nk _ _ _ _ _ h1]
      have g3 : D3.1 241 16 = 0 := by rw [← hD3]; dsimp only; rw [xup_at]
      obtain ⟨_, _, _, m1, m2, m3, m4, m5, _⟩ := q1
      have hnd : nd D3.1 12800 t i := nd_congr (fun x hx hx2 j _ hj => by rw [g1 x (by omega)]) (nd_mfr q2 r6 r7)
      have hsz := sz_pos w6
      obtain ⟨⟨v, D4⟩, e4, k1, k2, k3, k4, k5⟩ := E_moved (F := F) (P := P) hF hP (D := D3) w6 hnd r6 (by omega) m4 (by omega) (by rw [g2 13 (by omega)]; exact m3)
      dsimp only at k1 k2 k3 k4 k5
      subst k1
      refine ⟨(xup D4.1 241 14 (nI (sz t - 1)), D4.2), ?_, ?_, ?_, fun j h1 h2 h3 h4 h5 h6 => ?_, fun x hx j hj hj2 => ?_, ?_, ?_⟩
      · rw [e0, if_pos hl, e_X12_formula_52]
        simp only [xlet]
        rw [if_pos (by rw [xup_nk _ _ _ _ _ (by omega), m1]; decide), hD3, xup_nk _ _ _ _ _ (show 13 ≠ 16 by omega), m3, xgrd_in (nd_ge hnd).2 (by omega), nI_clamp (by have := (nd_ge hnd).2; omega), xup_na _ _ _ _ _ (show 251 ≠ 241 by omega), show D2.1 251 i = nI (sz t) by rw [← g1 251 (by omega)]; exact nd_sz hnd, e4, Option.bind_some]
      · dsimp only; rw [xup_nk _ _ _ _ _ (by omega), k3 16 (by omega)]; exact g3
      · refine ch_i (by simp) (ch_trans f0 (ch_trans f2.1 (ch_trans ?_ k2)))
        rw [← hD3]; exact ch_i (by simp) (ch_rfl _ _ _)
      · dsimp only
        rw [xup_nk _ _ _ _ _ h2, k3 j h1, g2 j h3, f2.2.1 j h1 h4 h5 h6, d2 j h1 h4 h5 h6]
      · dsimp only
        rw [xup_na _ _ _ _ _ hx, k4 x hx j hj hj2, g1 x hx, f2.2.2 x hx j hj2, d1 x hx]
      · dsimp only; rw [xup_at]
      · exact nd_congr (fun x hx hx2 j _ _ => by dsimp only; rw [xup_na _ _ _ _ _ (by omega)]) k5
    · rw [if_neg c]
      have hl : ¬ lk (sA sg p') = -2 := by
        rw [lkp rfl (show 0 < sA sg p' by omega)]
        intro q
        have h3 : (0 : Int32) ≤ nI (sA sg p') := nI_pos' (by omega)
        rw [q] at h3
        exact absurd h3 (by decide)
      obtain ⟨D', k1, k2⟩ := flt p' (nI i) (xup D2.1 241 18 (nI p'), D2.2) (by omega) (by dsimp only; rw [xup_at]) (mfr_i (Or.inr (Or.inr (Or.inl rfl))) f2)
      exact ⟨D', by rw [e0, if_neg hl, E_bad q1.2.2.2.1, Option.bind_some, q1.1]; exact k1, k2⟩
theorem neg10 : ∀ q, q ≤ 200 → (-10 - nI q : Int32) ≤ 0 := by
  intro q hq
  have h : ∀ q, q < 201 → (-10 - nI q : Int32) ≤ 0 := by decide +kernel
  exact h q (by omega)
theorem M_formula {dA : T → Nat → Int32} {F P : Nat} (hF : 10000 < F) (hP : 2005 < P) {D : xDt} (h : Iv dA D) : Two dA D (f_X11_formula F P xS0 0) (f_X12_formula F P xS0 241) := by
  obtain ⟨W, L, t, E, sg, tx, a1, a2, a3, a4, a5, a6, a7, a8⟩ := id h
  obtain ⟨b1, b2, b3, b4, b5, b6⟩ := id a5
  have rc := E_cread (F := F) (P := P) (k := P) b1 b2 hF (by omega) (D := D) ⟨b3, b4⟩
  rcases hr : Rb ((pA sg P).1 0 (sk sg 0) 0) (fun t p n => if p = sg.length then .ok (t, p, n) else .error p) with q0 | ⟨u, p', n'⟩
  · rw [hr] at rc
    obtain ⟨D1, e1, c0, c1, c2⟩ := rc
    have rm := E_mread (F := F) (P := P) b1 b2 hF hP (D := D1) (by rw [c2.1 241 (by decide)]; exact b5) (by rw [c2.1 252 (by decide)]; exact b6)
    rw [hr] at rm
    obtain ⟨D2, e2, m1, m2, m3, m4⟩ := rm
    have q : ∀ x, x < 192 ∨ (202 ≤ x ∧ x < 241) ∨ (241 < x ∧ x < 247) ∨ 251 < x → D2.1 x = D.1 x := fun x hx => by rw [m2.1 x (by simp; omega), c2.1 x (by simp; omega)]
    have qL : ∀ x, D2.2 x = D.2 x := fun x => by rw [m2.2 x (by simp), c2.2 x (by simp)]
    have q1 : ∀ j, j < 13 ∨ j = 14 ∨ 19 < j → D2.1 241 j = D.1 241 j := fun j hj => by rw [m3 j (by omega) (by omega) (by omega) (by omega) (by omega), c2.1 241 (by decide)]
    have qn : ∀ x, 247 ≤ x → x ≤ 251 → ∀ j, j < 12800 → D2.1 x j = D.1 x j := fun x h1 h2 j hj => by rw [m4 x (by omega) j hj, c2.1 x (by simp; omega)]
    refine ⟨_, D1, D2, by rw [e_X11_formula, e1, Option.bind_some, if_pos (neg10 q0 c0)], e2, W, L, t, E, [], tx, ?_, ?_, ?_, ?_, ⟨by simp, fun x hx => absurd hx (by simp), by rw [m2.1 192 (by decide)]; exact c1, fun i hi => absurd hi (by simp), m1, fun i hi => absurd hi (by simp)⟩, ?_, ?_, ?_⟩
    · exact iW_congr (congrFun (q 1 (by omega)) 0) (qL 2) (qL 3) (q1 1 (by omega)) (q 242 (by omega)) (q 243 (by omega)) a1
    · exact iK_congr (q 4 (by omega)) (q1 7 (by omega)) (fun x hx hx2 => ⟨q x (by omega), qL x⟩) (fun x hx hx2 => q x (by omega)) a2
    · exact iT_congr (congrFun (q 202 (by omega)) 1) (q 203 (by omega)) (q1 14 (by omega)) (fun x hx hx2 j hj => qn x hx hx2 j (by omega)) a3
    · exact iE_congr (congrFun (q 42 (by omega)) 0) (q1 25 (by omega)) (fun x hx => q x (by omega)) (fun x hx hx2 j _ hj => qn x hx hx2 j hj) a4
    · exact iX_congr (congrFun (q 204 (by omega)) 1) (q 205 (by omega)) (q1 21 (by omega)) (q 253 (by omega)) a6
    · exact iJ_congr (congrFun (q 0 (by omega)) 13) (qL 0) a7
    · exact iD_congr (congrFun (q 0 (by omega)) 14) (q 223 (by omega)) a8
  · rw [hr] at rc
    obtain ⟨D1, e1, w1, w2, c1, c3, c2⟩ := rc
    dsimp only at e1 w1 w2 c3
    generalize hD1' : ((xup (xup D1.1 0 13 0) 0 14 0, D1.2) : xDt) = D1'
    have k1 : ∀ x, x ≠ 0 → D1'.1 x = D1.1 x := fun x h1 => by rw [← hD1']; dsimp only; rw [xup_ne _ _ _ _ h1, xup_ne _ _ _ _ h1]
    have k2 : D1'.1 0 13 = 0 ∧ D1'.1 0 14 = 0 := by rw [← hD1']; dsimp only; exact ⟨by rw [xup_nk _ _ _ _ _ (by omega), xup_at], by rw [xup_at]⟩
    have k3 : D1'.2 = D1.2 := by rw [← hD1']
    have rm := E_mread (F := F) (P := P) b1 b2 hF hP (D := D1') (by rw [k1 241 (by omega), c2.1 241 (by decide)]; exact b5) (by rw [k1 252 (by omega), c2.1 252 (by decide)]; exact b6)
    rw [hr] at rm
    obtain ⟨D2, e2, m1, m2, m3, m4, m5, m6⟩ := rm
    dsimp only at e2 m5 m6
    have hsz := sz_pos w1
    have q : ∀ x, (0 < x ∧ x < 192) ∨ (204 ≤ x ∧ x < 241) ∨ (241 < x ∧ x < 247) ∨ 251 < x → D2.1 x = D.1 x := fun x hx => by rw [m2.1 x (by simp; omega), k1 x (by omega), c2.1 x (by simp; omega)]
    have qL : ∀ x, D2.2 x = D.2 x := fun x => by rw [m2.2 x (by simp), k3, c2.2 x (by simp)]
    have q1 : ∀ j, j < 13 ∨ 19 < j → D2.1 241 j = D.1 241 j := fun j hj => by rw [m3 j (by omega) (by omega) (by omega) (by omega) (by omega) (by omega), k1 241 (by omega), c2.1 241 (by decide)]
    have qn : ∀ x, 247 ≤ x → x ≤ 251 → ∀ j, 2000 ≤ j → j < 12800 → D2.1 x j = D.1 x j := fun x h1 h2 j hj hj2 => by rw [m4 x (by omega) j hj hj2, k1 x (by omega), c2.1 x (by simp; omega)]
    have q2 : ∀ x, 202 ≤ x → x ≤ 203 → D2.1 x = D1.1 x := fun x h1 h2 => by rw [m2.1 x (by simp; omega), k1 x (by omega)]
    refine ⟨_, D1', D2, ?_, e2, W, L, u, E, [], tx, ?_, ?_, ⟨w1, by omega, Or.inl w2, ⟨by rw [q2 202 (by omega) (by omega)]; exact c3.1, by rw [q2 203 (by omega) (by omega)]; exact c3.2⟩, sz u - 1, by omega, m5, m6⟩, ?_, ⟨by simp, fun x hx => absurd hx (by simp), by rw [m2.1 192 (by decide), k1 192 (by omega)]; exact c1, fun i hi => absurd hi (by simp), m1, fun i hi => absurd hi (by simp)⟩, ?_, Or.inl ?_, Or.inl ?_⟩
    · rw [e_X11_formula, e1, Option.bind_some, if_neg (show ¬ nI (sz u) ≤ 0 from fun c => absurd ((nI_leI (b := 0) (by omega) (by omega)).mp c) (by omega)), e_X11_handChanged]
      simp only [xlet]
      rw [hD1', Option.bind_some]
    · exact iW_congr (congrFun (q 1 (by omega)) 0) (qL 2) (qL 3) (q1 1 (by omega)) (q 242 (by omega)) (q 243 (by omega)) a1
    · exact iK_congr (q 4 (by omega)) (q1 7 (by omega)) (fun x hx hx2 => ⟨q x (by omega), qL x⟩) (fun x hx hx2 => q x (by omega)) a2
    · exact iE_congr (congrFun (q 42 (by omega)) 0) (q1 25 (by omega)) (fun x hx => q x (by omega)) (fun x hx hx2 j hj hj2 => qn x hx hx2 j hj hj2) a4
    · exact iX_congr (congrFun (q 204 (by omega)) 1) (q 205 (by omega)) (q1 21 (by omega)) (q 253 (by omega)) a6
    · rw [m2.1 0 (by decide)]; exact k2.1
    · rw [m2.1 0 (by decide)]; exact k2.2
