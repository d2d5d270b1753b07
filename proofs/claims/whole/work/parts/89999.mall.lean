/-! formula: all of the reference's reading -/
theorem ML_b {sg l : List Nat} (hN : sg.length ≤ 200) (hs : ∀ x, x ∈ sg → 32 ≤ x ∧ x ≤ 126) {F P d : Nat} (hF : 10000 < F) {on' : Nat → Int32 → Int32 → xDt → Option (Int32 × xDt)} {gn : Nat → Nat → R} (hq : PS sg l gn) (p0 : Nat) (hn : ∀ D p n z, p0 < p → mst sg D p n z → mP sg D n z (on' 241 (nI d) 0 D) (gn p n)) : ∀ (k fu : Nat) (t : T) (p n z i : Nat) (D : xDt), p0 ≤ p → sg.length - p < k → k ≤ fu → mst sg D p n z → i < z → nd D.1 12800 t i → sz t ≤ n → mP sg D n z (f_X12_both_7 F P xS0 on' fu 241 (nI d) (nI i) D) (pL sg 38 13 gn k t p n)
  | 0, _, _, _, _, _, _, _, _, h, _, _, _, _, _ => absurd h (by omega)
  | k + 1, 0, _, _, _, _, _, _, _, _, h, _, _, _, _ => absurd h (by omega)
  | k + 1, fu + 1, t, p, n, z, i, D, hp0, hk, hfu, h, hi, ht, hsz => by
    obtain ⟨D1, e1, q1, q2⟩ := E_mlook (F := F) (P := P) hN hs hF h
    rw [e_X12_both_7, if_neg (by rw [h.2.1]; decide), e1, Option.bind_some, pL]
    by_cases c : sA sg p = 38
    · have hpl := sA_lt (sg := sg) (p := p) (by omega)
      obtain ⟨s1, s2, s3⟩ := sk_p (sg := sg) (p := p + 1) (by omega)
      rw [if_pos (show lk (sA sg p) = 38 from lkp (k := 38) c (by omega))]
      obtain ⟨fu', rfl⟩ : ∃ fu', fu = fu' + 1 := ⟨fu - 1, by omega⟩
      have r := MJ (F := F) (P := P) (s := 13) (B := fun s0 D => f_X12_both_7 F P xS0 on' (fu' + 1) 241 (nI d) s0 D) (A := fun s0 D => f_X12_both_50 F P xS0 on' (f_X12_both_7 F P xS0 on' (fu' + 1)) 241 (nI d) (nI i) s0 D) (nx := fun D => on' 241 (nI d) 0 D) (ct := pL sg 38 13 gn k) hN hs hF (by omega) q1 c hi (nd_mfr q2 hi ht) hsz hq (fun s0 D => by
          rw [e_X12_both_50, e_X12_both_71]
          simp only [e_X12_both_71]
          rfl) (fun D' z' a => hn D' _ _ z' (by omega) a) (fun D' q a1 a2 => by
          rw [e_X12_both_7, if_pos (by rw [a1]; exact nI_pos' (by omega))]
          exact oK_some ⟨a1, fun z => mfr_rfl _ _⟩) (fun D' g p' n' z' i' a1 a2 a3 a4 => by
          obtain ⟨b1, b2, b3, b4, b5, b6, b7⟩ := a1
          exact ML_b hN hs hF hq p0 hn k (fu' + 1) (bn 13 0 t g) p' n' z' i' D' (by omega) (by omega) (by omega) a2 a3 a4 (by rw [sz]; omega))
      rcases hr : pJ sg 38 13 gn (pL sg 38 13 gn k) t p n with q | ⟨t', p', n'⟩
      · rw [hr] at r
        obtain ⟨u, e, r1, r2⟩ := r
        exact ⟨u, e, r1, mfr_trans (Nat.le_refl _) q2 r2⟩
      · rw [hr] at r
        obtain ⟨u, e, r1, r2⟩ := r
        exact ⟨u, e, mfr_trans (Nat.le_refl _) q2 r1, r2⟩
    · have := sA_127 hs p
      unfold pJ
      rw [if_neg (show ¬ lk (sA sg p) = 38 from lkn (k := 38) (by omega) (by omega) c), if_neg c]
      exact mP_k (i := i) (D' := D1) (z' := z) rfl q2 (mse_st q1) rfl (Nat.le_refl _) hi (nd_mfr q2 hi ht)
theorem ML_e {sg l : List Nat} (hN : sg.length ≤ 200) (hs : ∀ x, x ∈ sg → 32 ≤ x ∧ x ≤ 126) {F P d : Nat} (hF : 10000 < F) {on' : Nat → Int32 → xDt → Option (Int32 × xDt)} {gn : Nat → Nat → R} (hq : PS sg l gn) (p0 : Nat) (hn : ∀ D p n z, p0 < p → mst sg D p n z → mP sg D n z (on' 241 (nI d) D) (gn p n)) : ∀ (k fu : Nat) (t : T) (p n z i : Nat) (D : xDt), p0 ≤ p → sg.length - p < k → k ≤ fu → mst sg D p n z → i < z → nd D.1 12800 t i → sz t ≤ n → mP sg D n z (f_X12_either_6 F P xS0 on' fu 241 (nI d) (nI i) D) (pL sg 124 12 gn k t p n)
  | 0, _, _, _, _, _, _, _, _, h, _, _, _, _, _ => absurd h (by omega)
  | k + 1, 0, _, _, _, _, _, _, _, _, h, _, _, _, _ => absurd h (by omega)
  | k + 1, fu + 1, t, p, n, z, i, D, hp0, hk, hfu, h, hi, ht, hsz => by
    obtain ⟨D1, e1, q1, q2⟩ := E_mlook (F := F) (P := P) hN hs hF h
    rw [e_X12_either_6, if_neg (by rw [h.2.1]; decide), e1, Option.bind_some, pL]
    by_cases c : sA sg p = 124
    · have hpl := sA_lt (sg := sg) (p := p) (by omega)
      obtain ⟨s1, s2, s3⟩ := sk_p (sg := sg) (p := p + 1) (by omega)
      rw [if_pos (show lk (sA sg p) = 124 from lkp (k := 124) c (by omega))]
      obtain ⟨fu', rfl⟩ : ∃ fu', fu = fu' + 1 := ⟨fu - 1, by omega⟩
      have r := MJ (F := F) (P := P) (s := 12) (B := fun s0 D => f_X12_either_6 F P xS0 on' (fu' + 1) 241 (nI d) s0 D) (A := fun s0 D => f_X12_either_48 F P xS0 on' (f_X12_either_6 F P xS0 on' (fu' + 1)) 241 (nI d) (nI i) s0 D) (nx := fun D => on' 241 (nI d) D) (ct := pL sg 124 12 gn k) hN hs hF (by omega) q1 c hi (nd_mfr q2 hi ht) hsz hq (fun s0 D => by
          rw [e_X12_either_48, e_X12_either_69]
          simp only [e_X12_either_69]
          rfl) (fun D' z' a => hn D' _ _ z' (by omega) a) (fun D' q a1 a2 => by
          rw [e_X12_either_6, if_pos (by rw [a1]; exact nI_pos' (by omega))]
          exact oK_some ⟨a1, fun z => mfr_rfl _ _⟩) (fun D' g p' n' z' i' a1 a2 a3 a4 => by
          obtain ⟨b1, b2, b3, b4, b5, b6, b7⟩ := a1
          exact ML_e hN hs hF hq p0 hn k (fu' + 1) (bn 12 0 t g) p' n' z' i' D' (by omega) (by omega) (by omega) a2 a3 a4 (by rw [sz]; omega))
      rcases hr : pJ sg 124 12 gn (pL sg 124 12 gn k) t p n with q | ⟨t', p', n'⟩
      · rw [hr] at r
        obtain ⟨u, e, r1, r2⟩ := r
        exact ⟨u, e, r1, mfr_trans (Nat.le_refl _) q2 r2⟩
      · rw [hr] at r
        obtain ⟨u, e, r1, r2⟩ := r
        exact ⟨u, e, mfr_trans (Nat.le_refl _) q2 r1, r2⟩
    · have := sA_127 hs p
      unfold pJ
      rw [if_neg (show ¬ lk (sA sg p) = 124 from lkn (k := 124) (by omega) (by omega) c), if_neg c]
      exact mP_k (i := i) (D' := D1) (z' := z) rfl q2 (mse_st q1) rfl (Nat.le_refl _) hi (nd_mfr q2 hi ht)
/-- one reading after the other -/
theorem mP_b {sg l : List Nat} (hN : sg.length ≤ 200) {D : xDt} {p n z : Nat} {o : Option (Int32 × xDt)} {f : Int32 → xDt → Option (Int32 × xDt)} {g : Nat → Nat → R} {ct : T → Nat → Nat → R} (hq : PS sg l g) (hp : p ≤ sg.length) (hn : n ≤ 150) (h : mP sg D n z o (g p n)) (h0 : ∀ v D' q, D'.1 241 18 = nI q → q ≤ 200 → ∃ v', f v D' = some (v', D')) (h1 : ∀ t p' n' z' i D', PK sg l (p + 1) n 0 t p' n' → mst sg D' p' n' z' → i < z' → nd D'.1 12800 t i → mP sg D' n' z' (f (nI i) D') (ct t p' n')) : mP sg D n z (o.bind fun q => f q.1 q.2) (Rb (g p n) ct) := by
  have g2 := hq p n hp hn
  rcases hr : g p n with q | ⟨t, p', n'⟩
  · rw [hr] at h g2
    obtain ⟨u, e, r1, r2⟩ := h
    have hq2 : q ≤ sg.length := g2
    obtain ⟨v', e2⟩ := h0 u.1 u.2 q r1 (by omega)
    exact ⟨(v', u.2), by rw [e, Option.bind_some, e2], r1, r2⟩
  · rw [hr] at h g2
    obtain ⟨u, e, r1, z', i, k1, k2, k3, k4, k5, k6⟩ := h
    have r := h1 t p' n' z' i u.2 g2 k1 k5 k6
    dsimp only at k2
    rw [e, Option.bind_some, k4]
    show mP sg D n z (f (nI i) u.2) (ct t p' n')
    rcases hr2 : ct t p' n' with q | ⟨t', p'', n''⟩
    · rw [hr2] at r
      obtain ⟨u2, e2, v1, v2⟩ := r
      exact ⟨u2, e2, v1, mfr_trans (by omega) r1 v2⟩
    · rw [hr2] at r
      obtain ⟨u2, e2, v1, z2, i2, w1, w2, w3, w4⟩ := r
      dsimp only at w2
      exact ⟨u2, e2, mfr_trans (by omega) r1 v1, z2, i2, w1, by dsimp only; omega, by omega, w4⟩
theorem M_all {sg : List Nat} (hN : sg.length ≤ 200) (hs : ∀ x, x ∈ sg → 32 ≤ x ∧ x ≤ 126) {F P : Nat} (hF : 10000 < F) : ∀ k,
    (∀ d p n z D br, d ≤ 15 → 5 * (sg.length - p) + 5 ≤ k → mst sg D p n z → mP sg D n z ((f_X12_formulaAt_all F P xS0 k).1 241 (nI d) br D) ((pA sg k).1 d p n)) ∧
    (∀ d p n z D, d ≤ 15 → 5 * (sg.length - p) + 4 ≤ k → mst sg D p n z → mP sg D n z ((f_X12_formulaAt_all F P xS0 k).2.1 241 (nI d) D) ((pA sg k).2.1 d p n)) ∧
    (∀ d p n z D, d ≤ 15 → 5 * (sg.length - p) + 3 ≤ k → mst sg D p n z → mP sg D n z ((f_X12_formulaAt_all F P xS0 k).2.2.1 241 (nI d) D) ((pA sg k).2.2.1 d p n)) ∧
    (∀ d p n z D, d ≤ 15 → 5 * (sg.length - p) + 2 ≤ k → mst sg D p n z → mP sg D n z ((f_X12_formulaAt_all F P xS0 k).2.2.2.1 241 (nI d) D) ((pA sg k).2.2.2.1 d p n)) ∧
    (∀ d b p n z D, d ≤ 15 → b ≤ 31 → 5 * (sg.length - p) + 1 ≤ k → mst sg D p n z → mP sg D n z ((f_X12_formulaAt_all F P xS0 k).2.2.2.2 241 (nI d) (nI b) D) ((pA sg k).2.2.2.2 d b p n))
  | 0 => ⟨fun _ _ _ _ _ _ _ h => absurd h (by omega), fun _ _ _ _ _ _ h => absurd h (by omega), fun _ _ _ _ _ _ h => absurd h (by omega), fun _ _ _ _ _ _ h => absurd h (by omega), fun _ _ _ _ _ _ _ _ h => absurd h (by omega)⟩
  | k + 1 => by
    obtain ⟨hf, hi, he, hb, ho⟩ := M_all (P := P) hN hs hF k
    obtain ⟨qf, qi, qe, qb, qo⟩ := P_all sg k
    have pz : ∀ {D : xDt} {q : Nat}, D.1 241 18 = nI q → q ≤ 200 → 0 ≤ D.1 241 18 := fun a1 a2 => by rw [a1]; exact nI_pos' (by omega)
    refine ⟨fun d p n z D br hd hk h => ?_, fun d p n z D hd hk h => ?_, fun d p n z D hd hk h => ?_, fun d p n z D hd hk h => ?_, fun d b p n z D hd hb hk h => ?_⟩
    · show mP sg D n z (f_X12_formulaAt_o F P xS0 (f_X12_formulaAt_all F P xS0 k).2.1 241 (nI d) br D) (Rb ((pA sg k).2.1 d p n) (pJ sg 61 10 ((pA sg k).2.1 d) pZ))
      rw [e_X12_formulaAt_o, if_pos (show nI d ≤ 15 from (nI_leI (b := 15) (by omega) (by omega)).mpr hd)]
      refine mP_b (f := fun v D => if 0 ≤ (D.1 241 18) then (some (v, D)) else ((f_X12_look F P xS0 241 D).bind fun q2 => if q2.1 = 61 then ((f_X12_counts F P xS0 241 q2.2).bind fun q3 => (f_X12_must F P xS0 241 61 q3).bind fun q4 => if 0 ≤ (q4.1 241 18) then (f_X12_formulaAt_61 F P xS0 (f_X12_formulaAt_all F P xS0 k).2.1 241 v 0 q4) else (((f_X12_formulaAt_all F P xS0 k).2.1 241 (nI d) q4).bind fun q5 => f_X12_formulaAt_61 F P xS0 (f_X12_formulaAt_all F P xS0 k).2.1 241 v q5.1 q5.2)) else (some (v, q2.2)))) hN (qi d) (mst_p h).1 h.2.2.2.2.2.2.1 (hi d p n z D hd (by omega) h) (fun v D' q a1 a2 => ⟨v, by rw [if_pos (pz a1 a2)]⟩) (fun t p' n' z' i D' a1 a2 a3 a4 => ?_)
      obtain ⟨b1, b2, b3, b4, b5, b6, b7⟩ := a1
      obtain ⟨D1, e1, q1, q2⟩ := E_mlook (F := F) (P := P) hN hs hF a2
      rw [if_neg (by rw [a2.2.1]; decide), e1, Option.bind_some]
      by_cases c : sA sg p' = 61
      · have hpl := sA_lt (sg := sg) (p := p') (by omega)
        obtain ⟨s1, s2, s3⟩ := sk_p (sg := sg) (p := p' + 1) (by omega)
        rw [if_pos (show lk (sA sg p') = 61 from lkp (k := 61) c (by omega))]
        have r := MJ (F := F) (P := P) (s := 10) (B := fun s0 D => some (s0, D)) (A := fun s0 D => f_X12_formulaAt_61 F P xS0 (f_X12_formulaAt_all F P xS0 k).2.1 241 (nI i) s0 D) (nx := fun D => (f_X12_formulaAt_all F P xS0 k).2.1 241 (nI d) D) (ct := pZ) hN hs hF (by omega) q1 c a3 (nd_mfr q2 a3 a4) (by omega) (qi d) (fun s0 D => e_X12_formulaAt_61 F P _ (nI i) s0 D) (fun D' z' a => hi d _ _ z' D' hd (by omega) a) (fun D' q a1 a2 => oK_some ⟨a1, fun z => mfr_rfl _ _⟩) (fun D' g p' n' z' i' a1 a2 a3 a4 => mP_k (i := i') (D' := D') (z' := z') rfl (mfr_rfl _ _) a2 rfl (Nat.le_refl _) a3 a4)
        rcases hr : pJ sg 61 10 ((pA sg k).2.1 d) pZ t p' n' with q | ⟨t', p', n'⟩
        · rw [hr] at r
          obtain ⟨u, e, r1, r2⟩ := r
          exact ⟨u, e, r1, mfr_trans (Nat.le_refl _) q2 r2⟩
        · rw [hr] at r
          obtain ⟨u, e, r1, r2⟩ := r
          exact ⟨u, e, mfr_trans (Nat.le_refl _) q2 r1, r2⟩
      · have := sA_127 hs p'
        unfold pJ
        rw [if_neg (show ¬ lk (sA sg p') = 61 from lkn (k := 61) (by omega) (by omega) c), if_neg c]
        exact mP_k (i := i) (D' := D1) (z' := z') rfl q2 (mse_st q1) rfl (Nat.le_refl _) a3 (nd_mfr q2 a3 a4)
    · show mP sg D n z (f_X12_implied_o F P xS0 (f_X12_formulaAt_all F P xS0 k).2.1 (f_X12_formulaAt_all F P xS0 k).2.2.1 241 (nI d) D) (Rb ((pA sg k).2.2.1 d p n) (pJ sg 62 11 ((pA sg k).2.1 d) pZ))
      rw [e_X12_implied_o]
      refine mP_b (f := fun v D => if 0 ≤ (D.1 241 18) then (some (v, D)) else ((f_X12_look F P xS0 241 D).bind fun q2 => if q2.1 = 62 then ((f_X12_counts F P xS0 241 q2.2).bind fun q3 => (f_X12_must F P xS0 241 62 q3).bind fun q4 => if 0 ≤ (q4.1 241 18) then (f_X12_implied_48 F P xS0 (f_X12_formulaAt_all F P xS0 k).2.1 (f_X12_formulaAt_all F P xS0 k).2.2.1 241 v 0 q4) else (((f_X12_formulaAt_all F P xS0 k).2.1 241 (nI d) q4).bind fun q5 => f_X12_implied_48 F P xS0 (f_X12_formulaAt_all F P xS0 k).2.1 (f_X12_formulaAt_all F P xS0 k).2.2.1 241 v q5.1 q5.2)) else (some (v, q2.2)))) hN (qe d) (mst_p h).1 h.2.2.2.2.2.2.1 (he d p n z D hd (by omega) h) (fun v D' q a1 a2 => ⟨v, by rw [if_pos (pz a1 a2)]⟩) (fun t p' n' z' i D' a1 a2 a3 a4 => ?_)
      obtain ⟨b1, b2, b3, b4, b5, b6, b7⟩ := a1
      obtain ⟨D1, e1, q1, q2⟩ := E_mlook (F := F) (P := P) hN hs hF a2
      rw [if_neg (by rw [a2.2.1]; decide), e1, Option.bind_some]
      by_cases c : sA sg p' = 62
      · have hpl := sA_lt (sg := sg) (p := p') (by omega)
        obtain ⟨s1, s2, s3⟩ := sk_p (sg := sg) (p := p' + 1) (by omega)
        rw [if_pos (show lk (sA sg p') = 62 from lkp (k := 62) c (by omega))]
        have r := MJ (F := F) (P := P) (s := 11) (B := fun s0 D => some (s0, D)) (A := fun s0 D => f_X12_implied_48 F P xS0 (f_X12_formulaAt_all F P xS0 k).2.1 (f_X12_formulaAt_all F P xS0 k).2.2.1 241 (nI i) s0 D) (nx := fun D => (f_X12_formulaAt_all F P xS0 k).2.1 241 (nI d) D) (ct := pZ) hN hs hF (by omega) q1 c a3 (nd_mfr q2 a3 a4) (by omega) (qi d) (fun s0 D => e_X12_implied_48 F P _ _ (nI i) s0 D) (fun D' z' a => hi d _ _ z' D' hd (by omega) a) (fun D' q a1 a2 => oK_some ⟨a1, fun z => mfr_rfl _ _⟩) (fun D' g p' n' z' i' a1 a2 a3 a4 => mP_k (i := i') (D' := D') (z' := z') rfl (mfr_rfl _ _) a2 rfl (Nat.le_refl _) a3 a4)
        rcases hr : pJ sg 62 11 ((pA sg k).2.1 d) pZ t p' n' with q | ⟨t', p', n'⟩
        · rw [hr] at r
          obtain ⟨u, e, r1, r2⟩ := r
          exact ⟨u, e, r1, mfr_trans (Nat.le_refl _) q2 r2⟩
        · rw [hr] at r
          obtain ⟨u, e, r1, r2⟩ := r
          exact ⟨u, e, mfr_trans (Nat.le_refl _) q2 r1, r2⟩
      · have := sA_127 hs p'
        unfold pJ
        rw [if_neg (show ¬ lk (sA sg p') = 62 from lkn (k := 62) (by omega) (by omega) c), if_neg c]
        exact mP_k (i := i) (D' := D1) (z' := z') rfl q2 (mse_st q1) rfl (Nat.le_refl _) a3 (nd_mfr q2 a3 a4)
    · show mP sg D n z (f_X12_either_o F P xS0 (f_X12_formulaAt_all F P xS0 k).2.2.2.1 241 (nI d) D) (Rb ((pA sg k).2.2.2.1 d p n) (pL sg 124 12 ((pA sg k).2.2.2.1 d) 201))
      rw [e_X12_either_o]
      obtain ⟨F', rfl⟩ : ∃ F', F = F' + 1 := ⟨F - 1, by omega⟩
      refine mP_b (f := fun v D => f_X12_either_6 (F' + 1) P xS0 (f_X12_formulaAt_all (F' + 1) P xS0 k).2.2.2.1 (F' + 1) 241 (nI d) v D) hN (qb d) (mst_p h).1 h.2.2.2.2.2.2.1 (hb d p n z D hd (by omega) h) (fun v D' q a1 a2 => ⟨v, by rw [e_X12_either_6, if_pos (pz a1 a2)]⟩) (fun t p' n' z' i D' a1 a2 a3 a4 => ?_)
      obtain ⟨b1, b2, b3, b4, b5, b6, b7⟩ := a1
      exact ML_e hN hs hF (qb d) p (fun D p' n z hp' h => hb d p' n z D hd (by omega) h) 201 (F' + 1) t p' n' z' i D' (by omega) (by omega) (by omega) a2 a3 a4 (by omega)
    · show mP sg D n z (f_X12_both_o F P xS0 (f_X12_formulaAt_all F P xS0 k).2.2.2.2 241 (nI d) D) (Rb ((pA sg k).2.2.2.2 d 0 p n) (pL sg 38 13 ((pA sg k).2.2.2.2 d 0) 201))
      rw [e_X12_both_o]
      obtain ⟨F', rfl⟩ : ∃ F', F = F' + 1 := ⟨F - 1, by omega⟩
      refine mP_b (f := fun v D => f_X12_both_7 (F' + 1) P xS0 (f_X12_formulaAt_all (F' + 1) P xS0 k).2.2.2.2 (F' + 1) 241 (nI d) v D) hN (qo d 0) (mst_p h).1 h.2.2.2.2.2.2.1 (ho d 0 p n z D hd (by omega) (by omega) h) (fun v D' q a1 a2 => ⟨v, by rw [e_X12_both_7, if_pos (pz a1 a2)]⟩) (fun t p' n' z' i D' a1 a2 a3 a4 => ?_)
      obtain ⟨b1, b2, b3, b4, b5, b6, b7⟩ := a1
      exact ML_b hN hs hF (qo d 0) p (fun D p' n z hp' h => ho d 0 p' n z D hd (by omega) (by omega) h) 201 (F' + 1) t p' n' z' i D' (by omega) (by omega) (by omega) a2 a3 a4 (by omega)
    · refine MO hN hs hF (k := k) (fun d => PS_w (qf d)) qo hf (fun br D hk1 => ?_) ho hd hb (by omega) h
      obtain ⟨k', rfl⟩ : ∃ k', k = k' + 1 := ⟨k - 1, by omega⟩
      show f_X12_formulaAt_o F P xS0 (f_X12_formulaAt_all F P xS0 k').2.1 241 (nI 16) br D = _
      rw [e_X12_formulaAt_o, if_neg (by decide)]
      rfl
