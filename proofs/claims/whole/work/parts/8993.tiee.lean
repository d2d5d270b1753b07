/-! tieEvents -/
theorem bc32_v : ∀ b, b < 256 → (((((((nI b - ((jiushr (nI b) 1) &&& 1431655765)) &&& 858993459) + ((jiushr (nI b - ((jiushr (nI b) 1) &&& 1431655765)) 2) &&& 858993459)) + (jiushr (((nI b - ((jiushr (nI b) 1) &&& 1431655765)) &&& 858993459) + ((jiushr (nI b - ((jiushr (nI b) 1) &&& 1431655765)) 2) &&& 858993459)) 4)) &&& 252645135))) = nI (cn (fun j => b.testBit j) 8) := by decide +kernel
theorem bc32_w : ∀ c, c < 9 → ((nI c + jiushr (nI c) 8) + jiushr (nI c + jiushr (nI c) 8) 16) &&& 63 = nI c := by decide +kernel
theorem E_bc32 {F P : Nat} {S : xSt} {D : xDt} {b : Nat} (hb : b < 256) : f_J6_bitCount_0f7a4 F P S (nI b) D = some (nI (cn (fun j => b.testBit j) 8), D) := by
  unfold f_J6_bitCount_0f7a4
  simp only [xlet]
  rw [bc32_v b hb, bc32_w _ (by have := cn_le (fun j => b.testBit j) 8; omega)]
theorem nI_or (a b : Nat) : nI a ||| nI b = nI (a ||| b) := by
  apply Int32.toBitVec_inj.mp
  rw [Int32.toBitVec_or]
  show BitVec.ofNat 32 a ||| BitVec.ofNat 32 b = BitVec.ofNat 32 (a ||| b)
  apply BitVec.eq_of_getLsbD_eq
  intro i hi
  simp [BitVec.getLsbD_ofNat, hi]
theorem eb_0 : ∀ b, b < 256 → ∀ i, i < 8 → ((jishr (nI b) (nI i) &&& 1 = 0) ↔ b.testBit i = false) := by decide +kernel
theorem M_tieEvents {dA : T → Nat → Int32} {F P : Nat} (hF : 10000 < F) {D : xDt} (h : Iv dA D) (x y z : Int32) : Two dA D (f_X11_tieEvents F P xS0 0 x y z) (f_X12_tieEvents F P xS0 241 x y z) := by
  obtain ⟨W, L, t, E, sg, tx, a1, a2, a3, a4, a5, a6, a7, a8⟩ := id h
  obtain ⟨g0, g1, g2, g3, g4, g5⟩ := id a4
  rcases ag_in x with ⟨g, hg, rfl⟩ | hx
  rotate_left
  · exact Iv_same (r := -1) h (by rw [e_X11_tieEvents, E_ag0 hx]; rfl) (by rw [e_X12_tieEvents, E_mag0 hx]; rfl)
  rcases i_in E.1 y with ⟨e, he, _, rfl⟩ | hy
  rotate_left
  · refine Iv_same (r := -1) h ?_ ?_
    · rw [e_X11_tieEvents, E_ag1 hg, Option.bind_some, if_neg (show ¬ (1 : Int32) = 0 by decide), E_ev0 g1 g0 hy]; rfl
    · rw [e_X12_tieEvents, E_mag1 hg, Option.bind_some, if_neg (show ¬ (1 : Int32) = 0 by decide), E_mev0 g2 g0 hy]; rfl
  rcases i_in E.1 z with ⟨f, hf, _, rfl⟩ | hz
  rotate_left
  · refine Iv_same (r := -1) h ?_ ?_
    · rw [e_X11_tieEvents, E_ag1 hg, Option.bind_some, if_neg (show ¬ (1 : Int32) = 0 by decide), E_ev1 g1 g0 he, Option.bind_some, if_neg (show ¬ (1 : Int32) = 0 by decide), E_ev0 g1 g0 hz]; rfl
    · rw [e_X12_tieEvents, E_mag1 hg, Option.bind_some, if_neg (show ¬ (1 : Int32) = 0 by decide), E_mev1 g2 g0 he, Option.bind_some, if_neg (show ¬ (1 : Int32) = 0 by decide), E_mev0 g2 g0 hz]; rfl
  -- those that are tied now
  generalize hR : E.2.2.2 = R at g5
  obtain ⟨e1, e2, e3, e4⟩ := g5 g hg e he
  obtain ⟨f1, f2, f3, f4⟩ := g5 g hg f hf
  generalize hB : (bm (fun k => decide (k < E.1) && decide (R g k = R g e)) 8 ||| bm (fun k => decide (k < E.1) && decide (R g k = R g f)) 8) = B
  have hB1 : B < 256 := by
    rw [← hB]
    exact Nat.or_lt_two_pow (n := 8) (bm_lt _ _) (bm_lt _ _)
  have hBb : ∀ j, j < 8 → (B.testBit j = true ↔ j < E.1 ∧ (R g j = R g e ∨ R g j = R g f)) := by
    intro j hj
    rw [← hB, Nat.testBit_or, bm_bit, bm_bit]
    simp only [hj, decide_true, Bool.true_and, Bool.or_eq_true, Bool.and_eq_true, decide_eq_true_iff]
    constructor
    · rintro (⟨p1, p2⟩ | ⟨p1, p2⟩)
      · exact ⟨p1, Or.inl p2⟩
      · exact ⟨p1, Or.inr p2⟩
    · rintro ⟨p1, p2 | p2⟩
      · exact Or.inl ⟨p1, p2⟩
      · exact Or.inr ⟨p1, p2⟩
  have hcount : cn (fun j => B.testBit j) 8 = cn (fun j => decide (R g j = R g e) || decide (R g j = R g f)) E.1 := by
    have h1 := cn_more (fun j => B.testBit j && decide (j < 8)) E.1 (fun j hj => by
      cases q : B.testBit j && decide (j < 8)
      · rfl
      · rw [Bool.and_eq_true, decide_eq_true_iff] at q
        have := (hBb j q.2).mp q.1
        omega) (8 - E.1)
    rw [show E.1 + (8 - E.1) = 8 by omega] at h1
    rw [cn_congr (q := fun j => B.testBit j && decide (j < 8)) (fun j hj => by simp [hj]), h1]
    apply cn_congr
    intro j hj
    have hj8 : j < 8 := by omega
    apply b_iff
    rw [Bool.and_eq_true, hBb j hj8, Bool.or_eq_true, decide_eq_true_iff, decide_eq_true_iff, decide_eq_true_iff]
    constructor
    · rintro ⟨⟨_, p⟩, _⟩; exact p
    · intro p; exact ⟨⟨hj, p⟩, hj8⟩
  -- the class
  have c1 : f_X11_tieEvents F P xS0 0 (nI (g + 1)) (nI e) (nI f) D = some (nI (cn (fun j => B.testBit j) 8), (upP D.1 44 (g * 8) E.1 (fun j => B.testBit j) (fun _ => nI B), D.2)) := by
    rw [e_X11_tieEvents, E_ag1 hg, Option.bind_some, if_neg (show ¬ (1 : Int32) = 0 by decide), E_ev1 g1 g0 he, Option.bind_some, if_neg (show ¬ (1 : Int32) = 0 by decide), E_ev1 g1 g0 hf, Option.bind_some, if_neg (show ¬ (1 : Int32) = 0 by decide), nI_s1 (by omega), Nat.add_sub_cancel, e_X1_merge]
    simp only [xlet]
    rw [k8, nI_mul, nI_add, nI_add, xgrd_in (by omega) (by omega), xgrd_in (by omega) (by omega), nI_clamp (by omega), nI_clamp (by omega), e4, f4, nI_or, hB]
    have : f_X1_merge_30 F P xS0 F 42 (nI (g * 8)) (nI B) 0 D = some (nI (cn (fun j => B.testBit j) 8), (upP D.1 44 (g * 8) E.1 (fun j => B.testBit j) (fun _ => nI B), D.2)) := by
      refine lpu (W := fun n i (D1 : xDt) => f_X1_merge_30 F P xS0 n 42 (nI (g * 8)) (nI B) (nI i) D1 = _) (I := fun i D1 => D1 = (upP D.1 44 (g * 8) i (fun j => B.testBit j) (fun _ => nI B), D.2)) E.1 ?_ ?_ E.1 0 _ F (by omega) (by omega) (by rw [upP_0])
      · rintro n D1 rfl
        rw [e_X1_merge_30, if_pos (by dsimp only; rw [upP_na (by omega), g1]; exact Int32.le_refl _), E_bc32 hB1]
        rfl
      · rintro n i D1 hi rfl hk
        rw [e_X1_merge_30, if_neg (by dsimp only; rw [upP_na (by omega), g1, nI_leI (by omega) (by omega)]; omega)]
        simp only [e_X1_merge_61, xlet, nI_1]
        have ht := eb_0 B hB1 i (by omega)
        by_cases q : B.testBit i = true
        · rw [if_neg (fun c => by rw [ht.mp c] at q; cases q), nI_add, xgrd_in (by omega) (by omega), nI_clamp (by omega)]
          exact hk _ (by rw [upP_t q rfl])
        · have q2 : B.testBit i = false := by simpa using q
          rw [if_pos (ht.mpr q2)]
          exact hk _ (by rw [upP_f q2])
    rw [this, Option.bind_some]
  generalize hD1 : ((upP D.1 44 (g * 8) E.1 (fun j => B.testBit j) (fun _ => nI B), D.2) : xDt) = D1 at c1
  have m1 : ∀ x, x ≠ 44 → D1.1 x = D.1 x := fun x hx => by
    rw [← hD1]
    funext j
    dsimp only
    rw [upP_na hx]
  -- the reference
  have hmn : ∀ v w : Nat, (if nI w ≤ nI v then nI w else nI v) = nI (min v w) ∨ ¬ (v < 2 ^ 31 ∧ w < 2 ^ 31) := by
    intro v w
    by_cases q : v < 2 ^ 31 ∧ w < 2 ^ 31
    · left
      by_cases q2 : w ≤ v
      · rw [if_pos ((nI_leI q.2 q.1).mpr q2), Nat.min_eq_right q2]
      · rw [if_neg (fun c => q2 ((nI_leI q.2 q.1).mp c)), Nat.min_eq_left (by omega)]
    · exact Or.inr q
  have c2 : f_X12_tieEvents F P xS0 241 (nI (g + 1)) (nI e) (nI f) D1 = some (nI (cn (fun j => decide (R g j = R g e) || decide (R g j = R g f)) E.1), (upP D1.1 259 (8 * g) E.1 (fun j => decide (R g j = R g e) || decide (R g j = R g f)) (fun _ => nI (min (R g e) (R g f))), D1.2)) := by
    rw [e_X12_tieEvents, E_mag1 hg, Option.bind_some, if_neg (show ¬ (1 : Int32) = 0 by decide), E_mev1 (m := E.1) (by rw [m1 241 (by omega)]; exact g2) g0 he, Option.bind_some, if_neg (show ¬ (1 : Int32) = 0 by decide), E_mev1 (m := E.1) (by rw [m1 241 (by omega)]; exact g2) g0 hf, Option.bind_some, if_neg (show ¬ (1 : Int32) = 0 by decide), nI_s1 (by omega), Nat.add_sub_cancel]
    simp only [xlet]
    rw [k8, nI_mul, nI_add, nI_add, xgrd_in (by omega) (by omega), xgrd_in (by omega) (by omega), nI_clamp (by omega), nI_clamp (by omega), m1 259 (by omega), e3, f3]
    refine lpu (W := fun n i (s : Int32 × xDt) => f_X12_tieEvents_61 F P xS0 n 241 (nI (8 * g)) (nI (R g e)) (nI (R g f)) s.1 (nI i) s.2 = _) (I := fun i s => s.1 = nI (cn (fun j => decide (R g j = R g e) || decide (R g j = R g f)) i) ∧ s.2 = (upP D1.1 259 (8 * g) i (fun j => decide (R g j = R g e) || decide (R g j = R g f)) (fun _ => nI (min (R g e) (R g f))), D1.2)) E.1 ?_ ?_ E.1 0 (0, D1) F (by omega) (by omega) ⟨rfl, by rw [upP_0]⟩
    · rintro n ⟨v, D2⟩ ⟨rfl, rfl⟩
      dsimp only
      rw [e_X12_tieEvents_61, if_pos (by dsimp only; rw [upP_na (by omega), m1 241 (by omega), g2]; exact Int32.le_refl _)]
    · rintro n i ⟨v, D2⟩ hi ⟨rfl, rfl⟩ hk
      dsimp only
      obtain ⟨s1, s2, s3, s4⟩ := g5 g hg i hi
      rw [e_X12_tieEvents_61, if_neg (by dsimp only; rw [upP_na (by omega), m1 241 (by omega), g2, nI_leI (by omega) (by omega)]; omega), nI_add, xgrd_in (by omega) (by omega), xgrd_in (by omega) (by omega), nI_clamp (by omega)]
      have hT : upP D1.1 259 (8 * g) i (fun j => decide (R g j = R g e) || decide (R g j = R g f)) (fun _ => nI (min (R g e) (R g f))) 259 (8 * g + i) = nI (R g i) := by rw [upP_out (show 8 * g + i < 8 * g ∨ 8 * g + i ≤ 8 * g + i by omega), m1 259 (by omega), s3]
      have h123 : ∀ v : Int32, v = nI (min (R g e) (R g f)) → (decide (R g i = R g e) || decide (R g i = R g f)) = true → f_X12_tieEvents_123 F P xS0 (f_X12_tieEvents_61 F P xS0 n) 241 (nI (8 * g)) (nI (R g e)) (nI (R g f)) (nI (cn (fun j => decide (R g j = R g e) || decide (R g j = R g f)) i)) (nI i) v (nI (8 * g) + nI i) 259 (upP D1.1 259 (8 * g) i (fun j => decide (R g j = R g e) || decide (R g j = R g f)) (fun _ => nI (min (R g e) (R g f))), D1.2) = some (nI (cn (fun j => decide (R g j = R g e) || decide (R g j = R g f)) E.1), (upP D1.1 259 (8 * g) E.1 (fun j => decide (R g j = R g e) || decide (R g j = R g f)) (fun _ => nI (min (R g e) (R g f))), D1.2)) := by
        rintro v rfl q
        rw [e_X12_tieEvents_123, show xl xS0 259 = 32 by decide +kernel, nI_add, xgrd_in (by omega) (by omega), nI_clamp (by omega)]
        simp only [e_X12_tieEvents_127, xlet, nI_1]
        refine hk (_, _) ⟨?_, ?_⟩
        · dsimp only
          rw [cn, q]; rfl
        · dsimp only
          rw [upP_t (p := fun j => decide (R g j = R g e) || decide (R g j = R g f)) q rfl]
      have h100 : (decide (R g i = R g e) || decide (R g i = R g f)) = true → f_X12_tieEvents_100 F P xS0 (f_X12_tieEvents_61 F P xS0 n) 241 (nI (8 * g)) (nI (R g e)) (nI (R g f)) (nI (cn (fun j => decide (R g j = R g e) || decide (R g j = R g f)) i)) (nI i) (upP D1.1 259 (8 * g) i (fun j => decide (R g j = R g e) || decide (R g j = R g f)) (fun _ => nI (min (R g e) (R g f))), D1.2) = some (nI (cn (fun j => decide (R g j = R g e) || decide (R g j = R g f)) E.1), (upP D1.1 259 (8 * g) E.1 (fun j => decide (R g j = R g e) || decide (R g j = R g f)) (fun _ => nI (min (R g e) (R g f))), D1.2)) := by
        intro q
        rw [e_X12_tieEvents_100]
        by_cases q2 : R g f ≤ R g e
        · rw [if_pos ((nI_leI (by omega) (by omega)).mpr q2)]
          exact h123 _ (by rw [Nat.min_eq_right q2]) q
        · rw [if_neg (fun c => q2 ((nI_leI (by omega) (by omega)).mp c))]
          exact h123 _ (by rw [Nat.min_eq_left (by omega)]) q
      by_cases q1 : R g i = R g e
      · rw [if_pos (by dsimp only; rw [hT, q1])]
        exact h100 (by simp [q1])
      · rw [if_neg (by dsimp only; rw [hT, nI_eq (by omega) (by omega)]; exact q1)]
        by_cases q2 : R g i = R g f
        · rw [if_pos (by dsimp only; rw [hT, q2])]
          exact h100 (by simp [q2])
        · rw [if_neg (by dsimp only; rw [hT, nI_eq (by omega) (by omega)]; exact q2)]
          simp only [e_X12_tieEvents_127, xlet, nI_1]
          refine hk (_, _) ⟨?_, ?_⟩
          · dsimp only
            rw [cn, show (decide (R g i = R g e) || decide (R g i = R g f)) = false by simp [q1, q2]]; rfl
          · dsimp only
            rw [upP_f (p := fun j => decide (R g j = R g e) || decide (R g j = R g f)) (by simp [q1, q2])]
  rw [hcount] at c1
  generalize hD2 : ((upP D1.1 259 (8 * g) E.1 (fun j => decide (R g j = R g e) || decide (R g j = R g f)) (fun _ => nI (min (R g e) (R g f))), D1.2) : xDt) = D2 at c2
  have m2 : ∀ x, x ≠ 259 → D2.1 x = D1.1 x := fun x hx => by
    rw [← hD2]
    funext j
    dsimp only
    rw [upP_na hx]
  have mm : ∀ x, x ≠ 44 → x ≠ 259 → D2.1 x = D.1 x := fun x h1 h2 => by rw [m2 x h2, m1 x h1]
  -- how they are tied now
  generalize hR' : (fun (k i : Nat) => if k = g ∧ (R g i = R g e ∨ R g i = R g f) then min (R g e) (R g f) else R k i) = R'
  have r1 : ∀ i, (R g i = R g e ∨ R g i = R g f) → R' g i = min (R g e) (R g f) := fun i hi => by rw [← hR']; dsimp only; rw [if_pos ⟨rfl, hi⟩]
  have r2 : ∀ i, ¬ (R g i = R g e ∨ R g i = R g f) → R' g i = R g i := fun i hi => by rw [← hR']; dsimp only; rw [if_neg (fun c => hi c.2)]
  have r3 : ∀ k i, k ≠ g → R' k i = R k i := fun k i hk => by rw [← hR']; dsimp only; rw [if_neg (fun c => hk c.1)]
  have rm : R g (min (R g e) (R g f)) = min (R g e) (R g f) := by
    by_cases q : R g e ≤ R g f
    · rw [Nat.min_eq_left q]; exact e2
    · rw [Nat.min_eq_right (by omega)]; exact f2
  have rmu : R g (min (R g e) (R g f)) = R g e ∨ R g (min (R g e) (R g f)) = R g f := by
    rw [rm]; omega
  refine ⟨_, D1, D2, c1, c2, Iv_ev h (fun x h1 h2 h3 => m1 x h2) (by rw [← hD1]) (by rw [← hD2]; exact ch_ip (by simp) (ch_rfl _ _ _)) (fun j _ _ => by rw [m2 241 (by omega)]) (fun x hx hx2 j _ => by rw [m2 x (by omega)]) (E' := (E.1, E.2.1, E.2.2.1, R')) ⟨g0, by rw [mm 42 (by omega) (by omega)]; exact g1, by rw [mm 241 (by omega) (by omega)]; exact g2, fun i hi => ?_, fun i hi k hk => ?_, fun k hk i hi => ?_⟩⟩
  · obtain ⟨s1, s2⟩ := g3 i hi
    have hi8 : i < E.1 := hi
    refine ⟨sl_congr (fun x hx hx2 => mm x (by omega) (by omega)) s1, ?_⟩
    rw [mm 257 (by omega) (by omega)]
    exact sm_congr (fun a ha hb j _ _ => by rw [mm a (by omega) (by omega)]) s2
  · have hi8 : i < E.1 := hi
    rw [mm 258 (by omega) (by omega)]
    rcases g4 i hi k hk with ⟨s1, s2, s3⟩ | ⟨s1, s2⟩
    · exact Or.inl ⟨s1, by rw [mm _ (by omega) (by omega)]; exact s2, s3⟩
    · exact Or.inr ⟨sl_congr (fun x hx hx2 => mm x (by omega) (by omega)) s1, sm_congr (fun a ha hb j _ _ => by rw [mm a (by omega) (by omega)]) s2⟩
  · have hi8 : i < E.1 := hi
    obtain ⟨s1, s2, s3, s4⟩ := g5 k hk i hi8
    rw [m2 44 (by omega), ← hD2, ← hD1]
    dsimp only
    by_cases hkg : k = g
    · subst hkg
      by_cases q : R k i = R k e ∨ R k i = R k f
      · have hBi := (hBb i (by omega)).mpr ⟨hi8, q⟩
        have hr1 := r1 i q
        refine ⟨by rw [hr1]; omega, by rw [hr1]; exact r1 _ rmu, ?_, ?_⟩
        · rw [upP_in hi8 (by rw [Bool.or_eq_true, decide_eq_true_iff, decide_eq_true_iff]; exact q), hr1]
        rw [upP_in hi8 hBi]
        congr 1
        refine bm_eq hB1 (fun j hj => ?_)
        apply b_iff
        rw [hBb j hj, Bool.and_eq_true, decide_eq_true_iff, decide_eq_true_iff]
        constructor
        · rintro ⟨p1, p2⟩; exact ⟨p1, (r1 j p2).trans hr1.symm⟩
        · rintro ⟨p1, p2⟩
          rw [hr1] at p2
          refine ⟨p1, ?_⟩
          by_cases q3 : R k j = R k e ∨ R k j = R k f
          · exact q3
          · rw [r2 j q3] at p2
            rw [p2]; omega
      · have hBi : B.testBit i = false := by
          cases hc : B.testBit i
          · rfl
          · exact absurd ((hBb i (by omega)).mp hc).2 q
        have hr2 := r2 i q
        refine ⟨by rw [hr2]; exact s1, by rw [hr2, r2 _ (by rw [s2]; exact q), s2], ?_, ?_⟩
        · rw [upP_np (by rw [Bool.or_eq_false_iff, decide_eq_false_iff_not, decide_eq_false_iff_not]; exact ⟨fun c => q (Or.inl c), fun c => q (Or.inr c)⟩), upP_na (by omega), s3, hr2]
        · rw [upP_np hBi, s4]
          congr 1
          apply bm_congr
          intro j hj
          apply b_iff
          rw [Bool.and_eq_true, Bool.and_eq_true, decide_eq_true_iff, decide_eq_true_iff, decide_eq_true_iff]
          constructor
          · rintro ⟨p1, p2⟩
            exact ⟨p1, by rw [r2 j (by rw [p2]; exact q), hr2]; exact p2⟩
          · rintro ⟨p1, p2⟩
            rw [hr2] at p2
            refine ⟨p1, ?_⟩
            by_cases q3 : R k j = R k e ∨ R k j = R k f
            · rw [r1 j q3] at p2
              exfalso
              apply q
              rw [← p2]; omega
            · rw [r2 j q3] at p2; exact p2
    · have hi8' : i < 8 := by omega
      refine ⟨by rw [r3 k i hkg]; exact s1, by rw [r3 k i hkg, r3 k _ hkg]; exact s2, ?_, ?_⟩
      · rw [upP_out (by omega), upP_na (by omega), s3, r3 k i hkg]
      · rw [upP_out (by omega), s4]
        congr 1
        apply bm_congr
        intro j hj
        apply b_iff
        rw [Bool.and_eq_true, Bool.and_eq_true, decide_eq_true_iff, decide_eq_true_iff, decide_eq_true_iff, r3 k j hkg, r3 k i hkg]
