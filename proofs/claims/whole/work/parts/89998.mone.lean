/-! formula: the reference's one, both, either, implied, formulaAt -/
theorem MO {sg : List Nat} (hN : sg.length ≤ 200) (hs : ∀ x, x ∈ sg → 32 ≤ x ∧ x ≤ 126) {F P : Nat} (hF : 10000 < F) {k : Nat} {fo' on' : Nat → Int32 → Int32 → xDt → Option (Int32 × xDt)} {fo : Nat → Nat → Nat → R} {on : Nat → Nat → Nat → Nat → R} (qf : ∀ d, PS sg [] (fo d)) (qo : ∀ d b, PS sg [] (on d b))
    (hfo : ∀ d p n z D br, d ≤ 15 → 5 * (sg.length - p) + 5 ≤ k → mst sg D p n z → mP sg D n z (fo' 241 (nI d) br D) (fo d p n))
    (hf16 : ∀ br D, 1 ≤ k → fo' 241 (nI 16) br D = some (0, (xup D.1 241 18 br, D.2)))
    (hon : ∀ d b p n z D, d ≤ 15 → b ≤ 31 → 5 * (sg.length - p) + 1 ≤ k → mst sg D p n z → mP sg D n z (on' 241 (nI d) (nI b) D) (on d b p n))
    {d b p n z : Nat} {D : xDt} (hd : d ≤ 15) (hb : b ≤ 31) (hk : 5 * (sg.length - p) ≤ k) (h : mst sg D p n z) : mP sg D n z (f_X12_one_o F P xS0 fo' on' 241 (nI d) (nI b) D) (pO sg fo on d b p n) := by
  obtain ⟨D1, e1, q1, q2⟩ := E_mlook (F := F) (P := P) hN hs hF h
  have h127 := sA_127 hs p
  have hn150 : n ≤ 150 := h.2.2.2.2.2.2.1
  have hz0 : z ≤ 12800 + n := h.2.2.2.2.2.1
  have hp0 : p ≤ sg.length := q1.2.1
  have bad : ∀ D2, mse sg D2 p n z → mfr D D2 z → mP sg D n z ((f_X12_bad F P xS0 241 D2).bind fun q => some (q.1, q.2)) (.error p) := by
    intro D2 a1 a2
    refine mP_e (v := 0) (D' := (xup D2.1 241 18 (nI p), D2.2)) ?_ (by dsimp only; rw [xup_at]) (mfr_i (Or.inr (Or.inr (Or.inl rfl))) a2)
    rw [E_bad a1.2.2.2.1, Option.bind_some, a1.1]
  have z0 : ∀ {D2 : xDt} {q : Nat}, D2.1 241 18 = nI q → q ≤ 200 → 0 ≤ D2.1 241 18 := fun a1 a2 => by rw [a1]; exact nI_pos' (by omega)
  unfold pO
  rw [e_X12_one_o, e1, Option.bind_some]
  by_cases c1 : 30 < b
  · rw [if_pos c1, if_neg (show ¬ nI b ≤ 30 from fun q => absurd ((nI_leI (b := 30) (by omega) (by omega)).mp q) (by omega))]
    exact bad D1 q1 q2
  rw [if_neg c1, if_pos (show nI b ≤ 30 from (nI_leI (b := 30) (by omega) (by omega)).mpr (by omega))]
  -- a leaf
  by_cases c4 : isLf (sA sg p)
  · have hpl := sA_lt (sg := sg) (p := p) (by unfold isLf at c4; omega)
    have h39 : mP sg D n z (f_X12_one_39 F P xS0 fo' on' 241 (lk (sA sg p)) D1) (if 150 ≤ n then .error p else .ok (lfT (sA sg p), sk sg (p + 1), n + 1)) := by
      rw [e_X12_one_39]
      by_cases c3 : 150 ≤ n
      · rw [if_pos c3]
        obtain rfl : n = 150 := by omega
        obtain ⟨D2, e2, q3, q4⟩ := E_counts_b (F := F) (P := P) q1
        refine mP_e (v := 0) (D' := (xup D2.1 241 17 (D2.1 241 17 + 0), D2.2)) ?_ (by dsimp only; rw [xup_nk _ _ _ _ _ (by omega)]; exact q3) (mfr_i (Or.inr (Or.inl rfl)) (mfr_trans (Nat.le_refl _) q2 q4))
        rw [e2, Option.bind_some, if_pos (z0 q3 (by omega)), e_X12_one_60]
        simp only [xlet]
        rw [if_neg (by rw [xup_nk _ _ _ _ _ (by omega), q3]; exact nI_pos (by omega))]
      · rw [if_neg c3]
        obtain ⟨D2, e2, q3, q4⟩ := E_counts (F := F) (P := P) q1 (by omega)
        rw [e2, Option.bind_some, if_neg (by rw [q3.2.2.2.1]; decide), e_X12_one_60, q3.1, nI_1]
        simp only [xlet]
        rw [if_pos (by rw [xup_nk _ _ _ _ _ (by omega), q3.2.2.2.1]; decide)]
        generalize hD3 : ((xup D2.1 241 17 (nI (p + 1)), D2.2) : xDt) = D3
        have f3 : mfr D D3 z := by rw [← hD3]; exact mfr_i (Or.inr (Or.inl rfl)) (mfr_trans (Nat.le_refl _) q2 q4)
        have r3 : mr sg D3 (n + 1) z := by rw [← hD3]; exact mr_i q3.2.2.2
        have a3 : D3.1 241 17 = nI (p + 1) := by rw [← hD3]; dsimp only; rw [xup_at]
        have mk : ∀ s m, mP sg D n z ((f_X12_node F P xS0 241 (nI s) (-2) (-2) (nI m) D3).bind fun q => some (q.1, q.2)) (.ok (bn s m nil nil, sk sg (p + 1), n + 1)) := by
          intro s m
          obtain ⟨D4, e4, q7, q8, q9, q10⟩ := E_mk (F := F) (P := P) (s := s) (m := m) (tl := nil) (tr := nil) r3 (by omega) (Or.inl ⟨rfl, rfl⟩) (Or.inl ⟨rfl, rfl⟩) (by decide)
          refine mP_k (i := z) (D' := D4) (z' := z + 1) (by rw [e4]; rfl) (mfr_trans (Nat.le_refl _) f3 (q8 z (Nat.le_refl _))) ⟨⟨p + 1, by omega, rfl, by rw [q10]; exact a3⟩, q9⟩ (by omega) (by omega) (by omega) q7
        unfold lfT
        by_cases k1 : sA sg p = 48
        · rw [k1, if_pos (show lk 48 = 48 by decide), if_pos rfl]
          exact mk 2 0
        rw [if_neg (show ¬ lk (sA sg p) = 48 from lkn (k := 48) (by omega) (by omega) k1), if_neg k1]
        by_cases k2 : sA sg p = 49
        · rw [k2, if_pos (show lk 49 = 49 by decide), if_pos rfl]
          exact mk 3 0
        rw [if_neg (show ¬ lk (sA sg p) = 49 from lkn (k := 49) (by omega) (by omega) k2), if_neg k2, lkp rfl (show 0 < sA sg p by omega), show (97 : Int32) = nI 97 from rfl, nI_sub (by unfold isLf at c4; omega)]
        exact mk 1 (sA sg p - 97)
    rw [if_neg (show ¬ sA sg p = 40 by unfold isLf at c4; omega), if_pos c4]
    by_cases k0 : 97 ≤ sA sg p ∧ sA sg p ≤ 104
    · rw [show f_X12_in F P xS0 (lk (sA sg p), D1).1 97 104 (lk (sA sg p), D1).2 = some (1, D1) from E_lkin1 (a := 97) (b := 104) k0 (by omega) (by omega), Option.bind_some, if_neg (show ¬ (1 : Int32) = 0 by decide)]
      exact h39
    · rw [show f_X12_in F P xS0 (lk (sA sg p), D1).1 97 104 (lk (sA sg p), D1).2 = some (0, D1) from E_lkin0 (a := 97) (b := 104) k0 (by omega) (by omega) (by omega) (by omega), Option.bind_some, if_pos (show (0 : Int32) = 0 from rfl)]
      by_cases k1 : sA sg p = 48
      · rw [if_pos (show lk (sA sg p) = 48 from lkp (k := 48) k1 (by omega))]
        exact h39
      · rw [if_neg (show ¬ lk (sA sg p) = 48 from lkn (k := 48) (by omega) (by omega) k1), if_pos (show lk (sA sg p) = 49 from lkp (k := 49) (by unfold isLf at c4; omega) (by omega))]
        exact h39
  have k0 : ¬ (97 ≤ sA sg p ∧ sA sg p ≤ 104) := fun q => c4 (Or.inl q)
  have k1 : ¬ sA sg p = 48 := fun q => c4 (Or.inr (Or.inl q))
  have k2 : ¬ sA sg p = 49 := fun q => c4 (Or.inr (Or.inr q))
  have lkn' : ∀ {c : Nat}, c < 2 ^ 31 → sA sg p ≠ c → ¬ lk (sA sg p) = nI c := fun a1 a2 => lkn (by omega) a1 a2
  rw [show f_X12_in F P xS0 (lk (sA sg p), D1).1 97 104 (lk (sA sg p), D1).2 = some (0, D1) from E_lkin0 (a := 97) (b := 104) k0 (by omega) (by omega) (by omega) (by omega), Option.bind_some, if_pos (show (0 : Int32) = 0 from rfl), if_neg (show ¬ lk (sA sg p) = 48 from lkn' (c := 48) (by omega) k1), if_neg (show ¬ lk (sA sg p) = 49 from lkn' (c := 49) (by omega) k2)]
  by_cases c2 : sA sg p = 40
  · -- a bracket
    have hpl := sA_lt (sg := sg) (p := p) (by omega)
    obtain ⟨s1, s2, s3⟩ := sk_p (sg := sg) (p := p + 1) (by omega)
    rw [if_pos c2, if_pos (show lk (sA sg p) = 40 from lkp (k := 40) c2 (by omega))]
    dsimp only
    rw [q1.1, nI_1]
    simp only [xlet]
    generalize hD3 : ((xup D1.1 241 17 (nI (p + 1)), D1.2) : xDt) = D3
    have f3 : mfr D D3 z := by rw [← hD3]; exact mfr_i (Or.inr (Or.inl rfl)) q2
    have r3 : mr sg D3 n z := by rw [← hD3]; exact mr_i q1.2.2.2
    have a3 : D3.1 241 17 = nI (p + 1) := by rw [← hD3]; dsimp only; rw [xup_at]
    rw [show xup D1.1 241 17 (nI (p + 1)) 241 17 = nI (p + 1) by rw [xup_at], nI_s1 (by omega), Nat.add_sub_cancel, nI_1]
    by_cases c3 : 15 ≤ d
    · rw [if_pos c3]
      obtain rfl : d = 15 := by omega
      obtain ⟨D4, e4, q5, q6⟩ := E_must_f (F := F) (P := P) (c := 41) (D := (xup D3.1 241 18 (nI p), D3.2)) (q := p) (by dsimp only; rw [xup_at]) (by omega)
      refine mP_e (v := 0) (D' := D4) ?_ q5 (mfr_trans (Nat.le_refl _) f3 (mfr_trans (Nat.le_refl _) (mfr_i (Or.inr (Or.inr (Or.inl rfl))) (mfr_rfl _ _)) (q6 z)))
      rw [hf16 _ _ (by omega), Option.bind_some, e4]
      rfl
    · rw [if_neg c3]
      have g1 := hfo (d + 1) (sk sg (p + 1)) n z D3 (nI p) (by omega) (by omega) ⟨⟨p + 1, by omega, rfl, a3⟩, r3⟩
      have g2 := qf (d + 1) (sk sg (p + 1)) n s2 hn150
      rcases hr : fo (d + 1) (sk sg (p + 1)) n with q | ⟨t, p', n'⟩
      · rw [hr] at g1 g2
        obtain ⟨u, e, h1, h2⟩ := g1
        have hq2 : q ≤ sg.length := g2
        obtain ⟨D4, e4, q5, q6⟩ := E_must_f (F := F) (P := P) (c := 41) h1 (by omega)
        exact mP_e (v := u.1) (D' := D4) (by rw [e, Option.bind_some, e4]; rfl) q5 (mfr_trans (Nat.le_refl _) f3 (mfr_trans (Nat.le_refl _) h2 (q6 z)))
      · rw [hr] at g1 g2
        obtain ⟨u, e, h1, z', i, m1, m2, m3, m4, m5, m6⟩ := g1
        obtain ⟨b1, b2, b3, b4, b5, b6, b7⟩ := id g2
        dsimp only at b1 b2 b3 b4 b5 b6 b7 m1 m2 m6
        show mP sg D n z _ (if sA sg p' = 41 then .ok (t, sk sg (p' + 1), n') else .error p')
        by_cases c5 : sA sg p' = 41
        · rw [if_pos c5]
          obtain ⟨D4, e4, q5, q6, _⟩ := E_must (F := F) (P := P) hN hs hF m1 c5 (by omega)
          refine mP_k (i := i) (D' := D4) (z' := z') ?_ (mfr_trans (Nat.le_refl _) f3 (mfr_trans m3 h1 q6)) q5 m2 m3 m5 (nd_mfr q6 m5 m6)
          rw [e, Option.bind_some, show f_X12_must F P xS0 241 41 u.2 = some D4 from e4, Option.bind_some, m4]
        · rw [if_neg c5]
          obtain ⟨D4, e4, q5, q6⟩ := E_must_b (F := F) (P := P) (c := 41) hN hs hF m1 c5 (by omega)
          refine mP_e (v := u.1) (D' := D4) ?_ q5 (mfr_trans (Nat.le_refl _) f3 (mfr_trans m3 h1 q6))
          rw [e, Option.bind_some, show f_X12_must F P xS0 241 41 u.2 = some D4 from e4, Option.bind_some]
  rw [if_neg c2, if_neg (show ¬ lk (sA sg p) = 40 from lkn' (c := 40) (by omega) c2), if_neg c4]
  by_cases c5 : sA sg p = 91 ∨ sA sg p = 123
  · -- a saying
    have hpl := sA_lt (sg := sg) (p := p) (by omega)
    obtain ⟨s1, s2, s3⟩ := sk_p (sg := sg) (p := p + 1) (by omega)
    have h179 : mP sg D n z (f_X12_one_179 F P xS0 fo' on' 241 (nI d) (nI b) (lk (sA sg p)) D1) (if 150 ≤ n then .error p else (if 15 ≤ d then .error p else Rb (fo (d + 1) (sk sg (p + 1)) (n + 1)) fun t q n => if sA sg q = sA sg p + 2 then Rb (on d (b + 1) (sk sg (q + 1)) n) fun g q n => .ok (bn (if sA sg p = 91 then 14 else 15) 0 t g, q, n) else .error q)) := by
      -- a fault on the way
      have flt : ∀ (v : Int32) (D2 : xDt) (q : Nat), D2.1 241 18 = nI q → q ≤ 200 → ∃ D3, f_X12_one_212 F P xS0 fo' on' 241 (nI d) (nI b) (lk (sA sg p)) v D2 = some (0, D3) ∧ D3.1 241 18 = nI q ∧ ∀ z, mfr D2 D3 z := by
        intro v D2 q a1 a2
        obtain ⟨D4, e4, q5, q6⟩ := E_must_f (F := F) (P := P) (c := lk (sA sg p) + 2) a1 (by omega)
        refine ⟨D4, ?_, q5, q6⟩
        rw [e_X12_one_212, e4, Option.bind_some, if_pos (z0 q5 a2), e_X12_one_240, if_pos (z0 q5 a2)]
      rw [e_X12_one_179]
      by_cases c3 : 150 ≤ n
      · rw [if_pos c3]
        obtain rfl : n = 150 := by omega
        obtain ⟨D2, e2, q3, q4⟩ := E_counts_b (F := F) (P := P) q1
        obtain ⟨D3, e3, q5, q6⟩ := E_must_f (F := F) (P := P) (c := lk (sA sg p)) q3 (by omega)
        obtain ⟨D4, e4, q7, q8⟩ := flt 0 D3 p q5 (by omega)
        refine mP_e (v := 0) (D' := D4) ?_ q7 (mfr_trans (Nat.le_refl _) q2 (mfr_trans (Nat.le_refl _) q4 (mfr_trans (Nat.le_refl _) (q6 z) (q8 z))))
        rw [e2, Option.bind_some, e3, Option.bind_some, if_pos (z0 q5 (by omega)), e4]
      · rw [if_neg c3]
        obtain ⟨D2, e2, q3, q4⟩ := E_counts (F := F) (P := P) q1 (by omega)
        obtain ⟨D3, e3, q5, q6, q7⟩ := E_must (F := F) (P := P) hN hs hF (mse_st q3) rfl (show 0 < sA sg p by omega)
        have f3 := mfr_trans (Nat.le_refl _) q2 (mfr_trans (Nat.le_refl _) q4 q6)
        rw [e2, Option.bind_some, lkp rfl (show 0 < sA sg p by omega), e3, Option.bind_some, if_neg (by rw [q5.2.1]; decide), q7, nI_s1 (by omega), Nat.add_sub_cancel, nI_1, ← lkp rfl (show 0 < sA sg p by omega)]
        by_cases c6 : 15 ≤ d
        · rw [if_pos c6]
          obtain rfl : d = 15 := by omega
          obtain ⟨D4, e4, q8, q9⟩ := flt 0 (xup D3.1 241 18 (nI p), D3.2) p (by dsimp only; rw [xup_at]) (by omega)
          refine mP_e (v := 0) (D' := D4) ?_ q8 (mfr_trans (Nat.le_refl _) f3 (mfr_trans (Nat.le_refl _) (mfr_i (Or.inr (Or.inr (Or.inl rfl))) (mfr_rfl _ _)) (q9 z)))
          rw [hf16 _ _ (by omega), Option.bind_some, e4]
        rw [if_neg c6]
        have g1 := hfo (d + 1) (sk sg (p + 1)) (n + 1) z D3 (nI p) (by omega) (by omega) q5
        have g2 := qf (d + 1) (sk sg (p + 1)) (n + 1) s2 (by omega)
        rcases hr : fo (d + 1) (sk sg (p + 1)) (n + 1) with q | ⟨t, p', n'⟩
        · rw [hr] at g1 g2
          obtain ⟨u, e, h1, h2⟩ := g1
          have hq2 : q ≤ sg.length := g2
          obtain ⟨D4, e4, q8, q9⟩ := flt u.1 u.2 q h1 (by omega)
          exact mP_e (v := 0) (D' := D4) (by rw [e, Option.bind_some, e4]) q8 (mfr_trans (Nat.le_refl _) f3 (mfr_trans (Nat.le_refl _) h2 (q9 z)))
        · rw [hr] at g1 g2
          obtain ⟨u, e, h1, z', i, m1, m2, m3, m4, m5, m6⟩ := g1
          obtain ⟨b1, b2, b3, b4, b5, b6, b7⟩ := id g2
          dsimp only at b1 b2 b3 b4 b5 b6 b7 m1 m2 m6
          show mP sg D n z _ (if sA sg p' = sA sg p + 2 then Rb (on d (b + 1) (sk sg (p' + 1)) n') fun g q n => .ok (bn (if sA sg p = 91 then 14 else 15) 0 t g, q, n) else .error p')
          rw [e, Option.bind_some, e_X12_one_212, show lk (sA sg p) + 2 = nI (sA sg p + 2) by rw [lkp rfl (by omega), show (2 : Int32) = nI 2 from rfl, nI_add]]
          by_cases c7 : sA sg p' = sA sg p + 2
          · rw [if_pos c7]
            have hpl' := sA_lt (sg := sg) (p := p') (by omega)
            obtain ⟨s4, s5, s6⟩ := sk_p (sg := sg) (p := p' + 1) (by omega)
            obtain ⟨D4, e4, q8, q9, _⟩ := E_must (F := F) (P := P) hN hs hF m1 c7 (by omega)
            have f4 := mfr_trans (Nat.le_refl _) f3 (mfr_trans m3 h1 q9)
            rw [e4, Option.bind_some, if_neg (by rw [q8.2.1]; decide), nI_1]
            have g3 := hon d (b + 1) (sk sg (p' + 1)) n' z' D4 hd (by omega) (by omega) q8
            have g4 := qo d (b + 1) (sk sg (p' + 1)) n' s5 b5
            rcases hr2 : on d (b + 1) (sk sg (p' + 1)) n' with q | ⟨g, p'', n''⟩
            · rw [hr2] at g3 g4
              obtain ⟨u2, e5, h3, h4⟩ := g3
              have hq2 : q ≤ sg.length := g4
              refine mP_e (v := 0) (D' := u2.2) ?_ h3 (mfr_trans m3 f4 h4)
              rw [e5, Option.bind_some, e_X12_one_240, if_pos (z0 h3 (by omega))]
            · rw [hr2] at g3 g4
              obtain ⟨u2, e5, h3, z5, i5, o1, o2, o3, o4, o5, o6⟩ := g3
              obtain ⟨x1, x2, x3, x4, x5, x6, x7⟩ := id g4
              dsimp only at x1 x2 x3 x4 x5 x6 x7 o1 o2 o6
              have hmk : ∀ s, mP sg D n z (f_X12_one_263 F P xS0 fo' on' u.1 u2.1 (nI s) 241 u2.2) (.ok (bn s 0 t g, p'', n'')) := by
                intro s
                obtain ⟨D6, e6, y7, y8, y9, y10⟩ := E_mk (F := F) (P := P) (s := s) (m := 0) (tl := t) (tr := g) o1.2 (by omega) (Or.inr ⟨i, by omega, rfl, nd_mfr h3 m5 (nd_mfr q9 m5 m6)⟩) (Or.inr ⟨i5, o5, rfl, o6⟩) (by omega)
                refine mP_k (i := z5) (D' := D6) (z' := z5 + 1) ?_ (mfr_trans m3 f4 (mfr_trans o3 h3 (y8 z5 (Nat.le_refl _)))) ⟨by obtain ⟨x, y1, y2, y3⟩ := o1.1; exact ⟨x, y1, y2, by rw [y10]; exact y3⟩, y9⟩ (by omega) (by omega) (by omega) y7
                have : f_X12_one_263 F P xS0 fo' on' u.1 u2.1 (nI s) 241 u2.2 = (f_X12_node F P xS0 241 (nI s) u.1 u2.1 (nI 0) u2.2).bind fun q1 => some (q1.1, q1.2) := rfl
                rw [this, m4, o4, e6]
                rfl
              rw [e5, Option.bind_some, e_X12_one_240, if_neg (by rw [o1.2.1]; decide)]
              show mP sg D n z _ (.ok (bn (if sA sg p = 91 then 14 else 15) 0 t g, p'', n''))
              by_cases c8 : sA sg p = 91
              · rw [if_pos (show lk (sA sg p) = 91 from lkp (k := 91) c8 (by omega)), if_pos c8]
                exact hmk 14
              · rw [if_neg (show ¬ lk (sA sg p) = 91 from lkn' (c := 91) (by omega) c8), if_neg c8]
                exact hmk 15
          · rw [if_neg c7]
            obtain ⟨D4, e4, q8, q9⟩ := E_must_b (F := F) (P := P) (c := sA sg p + 2) hN hs hF m1 c7 (by omega)
            refine mP_e (v := 0) (D' := D4) ?_ q8 (mfr_trans (Nat.le_refl _) f3 (mfr_trans m3 h1 q9))
            rw [e4, Option.bind_some, if_pos (z0 q8 (by omega)), e_X12_one_240, if_pos (z0 q8 (by omega))]
    rw [if_pos c5]
    by_cases c8 : sA sg p = 91
    · rw [if_pos (show lk (sA sg p) = 91 from lkp (k := 91) c8 (by omega))]
      exact h179
    · rw [if_neg (show ¬ lk (sA sg p) = 91 from lkn' (c := 91) (by omega) c8), if_pos (show lk (sA sg p) = 123 from lkp (k := 123) (by omega) (by omega))]
      exact h179
  rw [if_neg c5, if_neg (show ¬ lk (sA sg p) = 91 from lkn' (c := 91) (by omega) (by omega)), if_neg (show ¬ lk (sA sg p) = 123 from lkn' (c := 123) (by omega) (by omega))]
  -- with a fault behind
  have f402 : ∀ (s : Int32) (v : Int32) (D2 : xDt) (q : Nat), D2.1 241 18 = nI q → q ≤ 200 → f_X12_one_402 F P xS0 fo' on' 241 (nI d) (nI b) s v D2 = some (0, D2) := by
    intro s v D2 q a1 a2
    rw [e_X12_one_402, if_pos (z0 a1 a2), e_X12_one_423, if_pos (z0 a1 a2)]
  have x402 : ∀ (s m : Nat) (D2 : xDt) (p' : Nat), p + 1 ≤ p' → n + 1 ≤ 150 → mst sg D2 p' (n + 1) z → mfr D D2 z → mP sg D n z (f_X12_one_402 F P xS0 fo' on' 241 (nI d) (nI b) (nI s) (nI m) D2) (Rb (on d (b + 1) p' (n + 1)) fun t q n => .ok (bn s m t nil, q, n)) := by
    intro s m D2 p' a0 a1 a2 a3
    rw [e_X12_one_402, if_neg (by rw [a2.2.1]; decide), nI_1]
    refine E_mpart (F := F) (P := P) (X := fun s0 D => f_X12_one_423 F P xS0 fo' on' 241 (nI s) (nI m) s0 D) hz0 a3 (mst_p a2).1 a1 (qo d (b + 1)) (hon d (b + 1) p' (n + 1) z D2 hd (by omega) (by have := (mst_p a2).1; omega) a2) (fun s0 D => e_X12_one_423 F P fo' on' (nI s) (nI m) s0 D) hN
  by_cases c6 : sA sg p = 126
  · -- not
    have hpl := sA_lt (sg := sg) (p := p) (by omega)
    obtain ⟨s1, s2, s3⟩ := sk_p (sg := sg) (p := p + 1) (by omega)
    rw [if_pos c6, if_pos (show lk (sA sg p) = 126 from lkp (k := 126) c6 (by omega)), e_X12_one_342, if_pos (show (0 : Int32) ≤ 4 by decide)]
    by_cases c3 : 150 ≤ n
    · rw [if_pos c3]
      obtain rfl : n = 150 := by omega
      obtain ⟨D2, e2, q3, q4⟩ := E_counts_b (F := F) (P := P) q1
      obtain ⟨D3, e3, q5, q6⟩ := E_must_f (F := F) (P := P) (c := lk (sA sg p)) q3 (by omega)
      refine mP_e (v := 0) (D' := D3) ?_ q5 (mfr_trans (Nat.le_refl _) q2 (mfr_trans (Nat.le_refl _) q4 (q6 z)))
      rw [e2, Option.bind_some, e3, Option.bind_some, if_pos (z0 q5 (by omega)), e_X12_one_401, f402 4 0 D3 p q5 (by omega)]
    · rw [if_neg c3]
      obtain ⟨D2, e2, q3, q4⟩ := E_counts (F := F) (P := P) q1 (by omega)
      obtain ⟨D3, e3, q5, q6, q7⟩ := E_must (F := F) (P := P) hN hs hF (mse_st q3) rfl (show 0 < sA sg p by omega)
      rw [e2, Option.bind_some, lkp rfl (show 0 < sA sg p by omega), e3, Option.bind_some, if_neg (by rw [q5.2.1]; decide), if_pos (show (4 : Int32) = 4 from rfl), e_X12_one_401]
      exact x402 4 0 D3 _ (by omega) (by omega) q5 (mfr_trans (Nat.le_refl _) q2 (mfr_trans (Nat.le_refl _) q4 q6))
  rw [if_neg c6, if_neg (show ¬ lk (sA sg p) = 126 from lkn' (c := 126) (by omega) c6)]
  by_cases c7 : isKn (sA sg p)
  · -- knowing
    have hpl := sA_lt (sg := sg) (p := p) (by unfold isKn at c7; omega)
    obtain ⟨s1, s2, s3⟩ := sk_p (sg := sg) (p := p + 1) (by omega)
    have hsr : 5 ≤ srt (sA sg p) ∧ srt (sA sg p) ≤ 9 := by unfold srt; split <;> (try split) <;> (try split) <;> (try split) <;> omega
    have hsk : (srt (sA sg p) = 5 ∨ srt (sA sg p) = 6) ↔ (sA sg p = 75 ∨ sA sg p = 80) := by
      unfold isKn at c7
      unfold srt
      rcases c7 with e | e | e | e | e <;> rw [e] <;> decide
    have h342 : mP sg D n z (f_X12_one_342 F P xS0 fo' on' 241 (nI d) (nI b) (lk (sA sg p)) (nI (srt (sA sg p))) D1) (if 150 ≤ n then .error p else (if (pG sg (if sA sg p = 75 ∨ sA sg p = 80 then 1 else 4) 0 48 (sk sg (p + 1))).1 = 0 then .error (sk sg (p + 1)) else Rb (on d (b + 1) (pG sg (if sA sg p = 75 ∨ sA sg p = 80 then 1 else 4) 0 48 (sk sg (p + 1))).2 (n + 1)) fun t q n => .ok (bn (srt (sA sg p)) (pG sg (if sA sg p = 75 ∨ sA sg p = 80 then 1 else 4) 0 48 (sk sg (p + 1))).1 t nil, q, n))) := by
      rw [e_X12_one_342, if_pos (nI_pos' (by omega))]
      by_cases c3 : 150 ≤ n
      · rw [if_pos c3]
        obtain rfl : n = 150 := by omega
        obtain ⟨D2, e2, q3, q4⟩ := E_counts_b (F := F) (P := P) q1
        obtain ⟨D3, e3, q5, q6⟩ := E_must_f (F := F) (P := P) (c := lk (sA sg p)) q3 (by omega)
        refine mP_e (v := 0) (D' := D3) ?_ q5 (mfr_trans (Nat.le_refl _) q2 (mfr_trans (Nat.le_refl _) q4 (q6 z)))
        rw [e2, Option.bind_some, e3, Option.bind_some, if_pos (z0 q5 (by omega)), e_X12_one_401, f402 _ 0 D3 p q5 (by omega)]
      · rw [if_neg c3]
        obtain ⟨D2, e2, q3, q4⟩ := E_counts (F := F) (P := P) q1 (by omega)
        obtain ⟨D3, e3, q5, q6, q7⟩ := E_must (F := F) (P := P) hN hs hF (mse_st q3) rfl (show 0 < sA sg p by omega)
        have f3 := mfr_trans (Nat.le_refl _) q2 (mfr_trans (Nat.le_refl _) q4 q6)
        have hne : ¬ nI (srt (sA sg p)) = 4 := fun q => absurd ((nI_eq (b := 4) (by omega) (by omega)).mp q) (by omega)
        rw [e2, Option.bind_some, lkp rfl (show 0 < sA sg p by omega), e3, Option.bind_some, if_neg (by rw [q5.2.1]; decide), if_neg hne]
        have gg : ∀ just : Nat, just < 2 → (if just = 1 then 1 else 4) = (if sA sg p = 75 ∨ sA sg p = 80 then 1 else 4) → mP sg D n z (f_X12_one_395 F P xS0 fo' on' 241 (nI d) (nI b) (nI (srt (sA sg p))) (nI just) 241 D3) (if (pG sg (if sA sg p = 75 ∨ sA sg p = 80 then 1 else 4) 0 48 (sk sg (p + 1))).1 = 0 then .error (sk sg (p + 1)) else Rb (on d (b + 1) (pG sg (if sA sg p = 75 ∨ sA sg p = 80 then 1 else 4) 0 48 (sk sg (p + 1))).2 (n + 1)) fun t q n => .ok (bn (srt (sA sg p)) (pG sg (if sA sg p = 75 ∨ sA sg p = 80 then 1 else 4) 0 48 (sk sg (p + 1))).1 t nil, q, n)) := by
          intro just hj ej
          rw [← ej, e_X12_one_395]
          obtain ⟨w1, w2⟩ := E_group (F := F) (P := P) hN hs hF hj q5
          have hpg := pG_p (sg := sg) (if just = 1 then 1 else 4) 0 48 (sk sg (p + 1)) s2 s3 (by omega) (by omega)
          by_cases c8 : (pG sg (if just = 1 then 1 else 4) 0 48 (sk sg (p + 1))).1 = 0
          · rw [if_pos c8]
            obtain ⟨u, e, h1, h2⟩ := w1 c8
            exact mP_e (v := 0) (D' := u.2) (by rw [e, Option.bind_some, f402 _ _ u.2 _ h1 (by omega)]) h1 (mfr_trans (Nat.le_refl _) f3 h2)
          · rw [if_neg c8]
            obtain ⟨u, e, h1, h2, h3⟩ := w2 c8
            rw [e, Option.bind_some, h1]
            exact x402 _ _ u.2 _ (by omega) (by omega) h2 (mfr_trans (Nat.le_refl _) f3 h3)
        by_cases c9 : srt (sA sg p) = 5 ∨ srt (sA sg p) = 6
        · have ej : (if 1 = 1 then 1 else 4) = (if sA sg p = 75 ∨ sA sg p = 80 then 1 else 4) := by rw [if_pos rfl, if_pos (hsk.mp c9)]
          have h390 : f_X12_one_390 F P xS0 fo' on' 241 (nI d) (nI b) (nI (srt (sA sg p))) 241 D3 = f_X12_one_395 F P xS0 fo' on' 241 (nI d) (nI b) (nI (srt (sA sg p))) (nI 1) 241 D3 := e_X12_one_390 F P fo' on' _ _ _ _ _
          by_cases c10 : srt (sA sg p) = 5
          · rw [if_pos (show nI (srt (sA sg p)) = 5 by rw [c10]; rfl), h390]
            exact gg 1 (by omega) ej
          · rw [if_neg (show ¬ nI (srt (sA sg p)) = 5 from fun q => c10 ((nI_eq (b := 5) (by omega) (by omega)).mp q)), if_pos (show nI (srt (sA sg p)) = 6 by rw [c9.resolve_left c10]; rfl), h390]
            exact gg 1 (by omega) ej
        · rw [if_neg (show ¬ nI (srt (sA sg p)) = 5 from fun q => c9 (Or.inl ((nI_eq (b := 5) (by omega) (by omega)).mp q))), if_neg (show ¬ nI (srt (sA sg p)) = 6 from fun q => c9 (Or.inr ((nI_eq (b := 6) (by omega) (by omega)).mp q)))]
          exact gg 0 (by omega) (by rw [if_neg (by omega), if_neg (fun q => c9 (hsk.mpr q))])
    rw [if_pos c7]
    unfold isKn at c7
    by_cases d1 : sA sg p = 75
    · rw [if_pos (show lk (sA sg p) = 75 from lkp (k := 75) d1 (by omega)), show (5 : Int32) = nI (srt (sA sg p)) by rw [d1]; rfl]
      exact h342
    rw [if_neg (show ¬ lk (sA sg p) = 75 from lkn' (c := 75) (by omega) d1)]
    by_cases d2 : sA sg p = 80
    · rw [if_pos (show lk (sA sg p) = 80 from lkp (k := 80) d2 (by omega)), show (6 : Int32) = nI (srt (sA sg p)) by rw [d2]; rfl]
      exact h342
    rw [if_neg (show ¬ lk (sA sg p) = 80 from lkn' (c := 80) (by omega) d2)]
    by_cases d3 : sA sg p = 69
    · rw [if_pos (show lk (sA sg p) = 69 from lkp (k := 69) d3 (by omega)), show (7 : Int32) = nI (srt (sA sg p)) by rw [d3]; rfl]
      exact h342
    rw [if_neg (show ¬ lk (sA sg p) = 69 from lkn' (c := 69) (by omega) d3)]
    by_cases d4 : sA sg p = 67
    · rw [if_pos (show lk (sA sg p) = 67 from lkp (k := 67) d4 (by omega)), show (8 : Int32) = nI (srt (sA sg p)) by rw [d4]; rfl]
      exact h342
    have d5 : sA sg p = 68 := by omega
    rw [if_neg (show ¬ lk (sA sg p) = 67 from lkn' (c := 67) (by omega) d4), if_pos (show lk (sA sg p) = 68 from lkp (k := 68) d5 (by omega)), show (9 : Int32) = nI (srt (sA sg p)) by rw [d5]; rfl]
    exact h342
  rw [if_neg c7]
  unfold isKn at c7
  rw [if_neg (show ¬ lk (sA sg p) = 75 from lkn' (c := 75) (by omega) (by omega)), if_neg (show ¬ lk (sA sg p) = 80 from lkn' (c := 80) (by omega) (by omega)), if_neg (show ¬ lk (sA sg p) = 69 from lkn' (c := 69) (by omega) (by omega)), if_neg (show ¬ lk (sA sg p) = 67 from lkn' (c := 67) (by omega) (by omega)), if_neg (show ¬ lk (sA sg p) = 68 from lkn' (c := 68) (by omega) (by omega)), e_X12_one_342, if_neg (show ¬ (0 : Int32) ≤ -2 by decide), ite_self]
  exact bad D1 q1 q2
