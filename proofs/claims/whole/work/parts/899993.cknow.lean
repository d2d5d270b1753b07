/-! formula: K, P, E, C, D, taken by the class -/
theorem E_ags {sg : List Nat} (hN : sg.length ≤ 200) (hs : ∀ x, x ∈ sg → 32 ≤ x ∧ x ≤ 126) {F P most : Nat} (hF : 10000 < F) (hm4 : most ≤ 4) : ∀ (k m last i p fu : Nat) (D : xDt), i + k = most → k < fu → 48 ≤ last → last < 128 → m < 16 → cg sg D → D.1 192 12 = nI p → p ≤ sg.length → f_X6_takeAgents_8 F P xS0 fu 192 (nI most) (nI m) (nI last) (nI i) D = some (nI (pG sg k m last p).1, (xup D.1 192 12 (nI (pG sg k m last p).2), D.2))
  | k, m, last, i, p, 0, _, _, h, _, _, _, _, _, _ => absurd h (by omega)
  | 0, m, last, i, p, fu + 1, D, h1, h2, h3, h4, h5, hg, h12, hp => by
    rw [e_X6_takeAgents_8, if_pos ((nI_leI (by omega) (by omega)).mpr (by omega)), pG, xup_same _ _ _ _ h12]
  | k + 1, m, last, i, p, fu + 1, D, h1, h2, h3, h4, h5, hg, h12, hp => by
    have h127 := sA_127 hs p
    rw [e_X6_takeAgents_8, if_neg (fun q => absurd ((nI_leI (by omega) (by omega)).mp q) (by omega)), hg.1, h12, pG]
    by_cases c1 : sg.length ≤ p
    · rw [if_pos ((nI_leI (by omega) (by omega)).mpr c1), if_neg (by rw [sA_end c1]; omega), xup_same _ _ _ _ h12]
    rw [if_neg (fun q => c1 ((nI_leI (by omega) (by omega)).mp q)), xgrd_in (by omega) (by omega), nI_clamp (by omega), tkAt_0 hg.2 (by omega)]
    by_cases c2 : sA sg p ≤ last
    · rw [if_pos ((nI_leI (by omega) (by omega)).mpr c2), if_neg (by omega), xup_same _ _ _ _ h12]
    rw [if_neg (fun q => c2 ((nI_leI (by omega) (by omega)).mp q)), xgrd_in (by omega) (by omega)]
    by_cases c3 : 52 < sA sg p
    · rw [if_pos (show (52 : Int32) < nI (sA sg p) from nI_lt (a := 52) c3 (by omega)), if_neg (by omega), xup_same _ _ _ _ h12]
    rw [if_neg (show ¬ (52 : Int32) < nI (sA sg p) from fun q => absurd q (Int32.not_lt.mpr ((nI_leI (b := 52) (by omega) (by omega)).mpr (by omega)))), xgrd_in (by omega) (by omega), if_pos (by omega)]
    simp only [xlet]
    rw [show (49 : Int32) = nI 49 from rfl, nI_sub (by omega), g_or m h5 (sA sg p - 49) (by omega), nI_1, E_cts hN hs hF (by omega) hg, Option.bind_some, nI_1]
    obtain ⟨s1, s2, s3⟩ := sk_p (sg := sg) (p := p + 1) (by omega)
    rw [E_ags hN hs hF hm4 k (m ||| 2 ^ (sA sg p - 49)) (sA sg p) (i + 1) (sk sg (p + 1)) fu _ (by omega) (by omega) (by omega) (by omega) (or_16 h5 (by omega)) ⟨by dsimp only; rw [xup_nk _ _ _ _ _ (by omega)]; exact hg.1, by dsimp only; rw [xup_ne _ _ _ _ (by omega)]; exact hg.2⟩ (by dsimp only; rw [xup_at]) s2, xup_xup]
theorem g_wa : ∀ m, m < 16 → ∀ c, c < 128 → nI c ||| jishl (nI m) 8 = nI (c + 256 * m) := by decide +kernel
theorem O_know {sg : List Nat} (hN : sg.length ≤ 200) (hs : ∀ x, x ∈ sg → 32 ≤ x ∧ x ≤ 126) {F P b d p : Nat} (hF : 10000 < F) {D : xDt} {L : List Nat} {c : Nat} (h0 : cb sg D d p L) (hb : b ≤ 30) (h : wn D b) (hp : p < sg.length) (hl : L.length < 150) (hk : isKn c) : ((pG sg (if c = 75 ∨ c = 80 then 1 else 4) 0 48 (sk sg (p + 1))).1 = 0 → ∃ D', f_X6_takeOne F P xS0 192 (nI c) D = some (0, D') ∧ D'.1 192 12 = nI (sk sg (p + 1)) ∧ ch [192, 194, 195, 196, 197, 198, 199, 200, 201] [] D D') ∧ ((pG sg (if c = 75 ∨ c = 80 then 1 else 4) 0 48 (sk sg (p + 1))).1 ≠ 0 → ∃ D', f_X6_takeOne F P xS0 192 (nI c) D = some (1, D') ∧ cb sg D' d (pG sg (if c = 75 ∨ c = 80 then 1 else 4) 0 48 (sk sg (p + 1))).2 (L ++ [c + 256 * (pG sg (if c = 75 ∨ c = 80 then 1 else 4) 0 48 (sk sg (p + 1))).1]) ∧ wn D' (b + 1) ∧ cfr d [] D D') := by
  have hc : c < 128 := by unfold isKn at hk; omega
  have e0 : f_X6_takeOne F P xS0 192 (nI c) D = ((f_X6_takeKnowing F P xS0 192 (nI c) D).bind fun q4 => xgrd (xb q4.1) (some (q4.1, q4.2))) := by
    rw [O_rest h0 hb h hc (by unfold isKn at hk; omega) hl, if_neg (by unfold isKn at hk; omega), if_neg (by unfold isKn at hk; omega), if_pos hk]
  rw [e0]
  obtain ⟨⟨g1, g2⟩, h9, h12, h194, h195, hl150, hpN, hsp, h196, h201, hd⟩ := h0
  obtain ⟨s1, s2, s3⟩ := sk_p (sg := sg) (p := p + 1) (by omega)
  generalize hmost : (if c = 75 ∨ c = 80 then 1 else 4) = most
  have hm4 : most ≤ 4 ∧ 1 ≤ most := by rw [← hmost]; split <;> omega
  have hg := pG_p (sg := sg) most 0 48 (sk sg (p + 1)) s2 s3 (by omega) (by omega)
  have ea := E_ags (F := F) (P := P) hN hs hF hm4.1 most 0 48 0 (sk sg (p + 1)) F (xup D.1 192 12 (nI (sk sg (p + 1))), D.2) (by omega) (by omega) (by omega) (by omega) (by omega) ⟨by dsimp only; rw [xup_nk _ _ _ _ _ (by omega)]; exact g1, by dsimp only; rw [xup_ne _ _ _ _ (by omega)]; exact g2⟩ (by dsimp only; rw [xup_at]) s2
  rw [xup_xup] at ea
  generalize pG sg most 0 48 (sk sg (p + 1)) = g at hg ea ⊢
  obtain ⟨w1, w2, w3, w4, w5, w6⟩ := hg
  generalize hD1 : ((xup D.1 192 12 (nI g.2), D.2) : xDt) = D1 at ea
  have e28 : f_X6_takeKnowing F P xS0 192 (nI c) D = if nI g.1 = 0 then some (0, D1) else ((f_X2_add F P xS0 194 (nI (c + 256 * g.1)) D1).bind fun q3 => some (1, (xup q3.2.1 192 10 ((q3.2.1 192 10) + 1), q3.2.2))) := by
    have e28' : f_X6_takeKnowing_28 F P xS0 192 (nI c) (nI most) 192 (xup D.1 192 12 (nI (sk sg (p + 1))), D.2) = if nI g.1 = 0 then some (0, D1) else ((f_X2_add F P xS0 194 (nI (c + 256 * g.1)) D1).bind fun q3 => some (1, (xup q3.2.1 192 10 ((q3.2.1 192 10) + 1), q3.2.2))) := by
      rw [e_X6_takeKnowing_28, e_X6_takeAgents, show f_X6_takeAgents_8 F P xS0 F 192 (nI most) 0 48 0 (xup D.1 192 12 (nI (sk sg (p + 1))), D.2) = some (nI g.1, D1) from ea, Option.bind_some]
      dsimp only
      rw [show f_X11_withAgents F P xS0 (nI c) (nI g.1) D1 = some (nI c ||| jishl (nI g.1) 8, D1) from rfl, g_wa g.1 w4 c hc, Option.bind_some]
      rfl
    rw [e_X6_takeKnowing, h12, nI_1, E_cts hN hs hF (by omega) ⟨g1, g2⟩, Option.bind_some, ← e28', ← hmost]
    by_cases c1 : c = 75
    · rw [if_pos (show nI c = 75 by rw [c1]; rfl), e_X6_takeKnowing_23, if_pos (Or.inl c1)]; rfl
    rw [if_neg (show ¬ nI c = 75 from nI_nk (k := 75) hc (by omega) c1)]
    by_cases c2 : c = 80
    · rw [if_pos (show nI c = 80 by rw [c2]; rfl), e_X6_takeKnowing_23, if_pos (Or.inr c2)]; rfl
    rw [if_neg (show ¬ nI c = 80 from nI_nk (k := 80) hc (by omega) c2), if_neg (show ¬ (c = 75 ∨ c = 80) by omega)]; rfl
  have q1 : ∀ x, x ≠ 192 → D1.1 x = D.1 x := fun x h1 => by rw [← hD1]; dsimp only; rw [xup_ne _ _ _ _ h1]
  have q2 : ∀ j, j ≠ 12 → D1.1 192 j = D.1 192 j := fun j h1 => by rw [← hD1]; dsimp only; rw [xup_nk _ _ _ _ _ h1]
  have q3 : D1.1 192 12 = nI g.2 := by rw [← hD1]; dsimp only; rw [xup_at]
  have q4 : cfr d [] D D1 := by rw [← hD1]; exact cfr_192 (cfr_rfl _ _ _)
  constructor
  · intro z
    refine ⟨D1, ?_, by rw [q3, w6 z], q4.1⟩
    rw [e28, if_pos (by rw [z]; rfl), Option.bind_some]
    rfl
  · intro z
    obtain ⟨D2, e2, a1, a2, a3⟩ := E_cadd (F := F) (P := P) (D := D1) (L := L) (c := c + 256 * g.1) (by rw [q1 194 (by omega)]; exact h194) (by rw [q1 195 (by omega)]; exact h195) hl
    have q5 : ∀ x, x ≠ 194 → x ≠ 195 → D2.1 x = D1.1 x := fun x h1 h2 => a3.1 x (by simp; omega)
    refine ⟨(xup D2.1 192 10 (nI (b + 1)), D2.2), ?_, ⟨⟨?_, ?_⟩, ?_, ?_, ?_, ?_, by simp; omega, w2, w3, ?_, ?_, hd⟩, ⟨?_, ?_⟩, cfr_192 (cfr_dr q4 a3)⟩
    · rw [e28, if_neg (fun q => z ((nI_eq0 (by omega)).mp q)), e2, Option.bind_some, Option.bind_some]
      dsimp only
      rw [q5 192 (by omega) (by omega), q2 10 (by omega), h.2, nI_1]
      rfl
    all_goals dsimp only
    · rw [xup_nk _ _ _ _ _ (by omega), q5 192 (by omega) (by omega), q2 1 (by omega)]; exact g1
    · rw [xup_ne _ _ _ _ (by omega), q5 193 (by omega) (by omega), q1 193 (by omega)]; exact g2
    · rw [xup_nk _ _ _ _ _ (by omega), q5 192 (by omega) (by omega), q2 9 (by omega)]; exact h9
    · rw [xup_nk _ _ _ _ _ (by omega), q5 192 (by omega) (by omega)]; exact q3
    · rw [xup_na _ _ _ _ _ (by omega)]; exact a1
    · rw [xup_ne _ _ _ _ (by omega)]; exact a2
    · rw [xup_na _ _ _ _ _ (by omega), q5 196 (by omega) (by omega), q1 196 (by omega)]; exact h196
    · rw [xup_na _ _ _ _ _ (by omega), q5 201 (by omega) (by omega), q1 201 (by omega)]; exact h201
    · rw [xup_nk _ _ _ _ _ (by omega), q5 192 (by omega) (by omega), q2 11 (by omega)]; exact h.1
    · rw [xup_at]
/-- what a piece of the class does -/
def cP (sg : List Nat) (F P d : Nat) (ex L : List Nat) (D : xDt) (s : Nat) (Q : Nat → xDt → Prop) (r : R) : Prop := RS r (fun q => ∃ D', tA F P s D = some (0, D') ∧ D'.1 192 12 = nI q ∧ ch [192, 194, 195, 196, 197, 198, 199, 200, 201] [] D D') (fun t p' _ => ∃ D' s', s' ≤ p' ∧ tA F P s D = tA F P s' D' ∧ cb sg D' d p' (L ++ tks t) ∧ D'.1 192 11 = 0 ∧ cfr d ex D D' ∧ Q p' D')
theorem cP_st {sg : List Nat} {F P d : Nat} {ex L : List Nat} {D D' : xDt} {s s' : Nat} {Q : Nat → xDt → Prop} {r : R} (h : tA F P s D = tA F P s' D') (hf : cfr d ex D D') (k : cP sg F P d ex L D' s' Q r) : cP sg F P d ex L D s Q r := by
  rcases r with q | ⟨t, p', n'⟩
  · obtain ⟨D2, e, k1, k2⟩ := k
    exact ⟨D2, by rw [h]; exact e, k1, ch_trans hf.1 k2⟩
  · obtain ⟨D2, s2, k1, k2, k3, k4, k5, k6⟩ := k
    exact ⟨D2, s2, k1, by rw [h]; exact k2, k3, k4, cfr_trans hf k5, k6⟩
theorem cP_e {sg : List Nat} {F P d : Nat} {ex L : List Nat} {D D' : xDt} {s q : Nat} {Q : Nat → xDt → Prop} (h : tA F P s D = some (0, D')) (h1 : D'.1 192 12 = nI q) (h2 : ch [192, 194, 195, 196, 197, 198, 199, 200, 201] [] D D') : cP sg F P d ex L D s Q (.error q) := ⟨D', h, h1, h2⟩
theorem cP_b {sg : List Nat} {F P d : Nat} {ex ex1 L : List Nat} {D : xDt} {s : Nat} {Q Q1 : Nat → xDt → Prop} {g : R} {ct : T → Nat → Nat → R} (h : cP sg F P d ex1 L D s Q1 g) (hex : ∀ x, x ∈ ex1 → x ∈ ex) (k : ∀ t p' n' D' s', g = .ok (t, p', n') → s' ≤ p' → cb sg D' d p' (L ++ tks t) → D'.1 192 11 = 0 → cfr d ex1 D D' → Q1 p' D' → cP sg F P d ex L D' s' Q (ct t p' n')) : cP sg F P d ex L D s Q (Rb g ct) := by
  rcases g with q | ⟨t, p', n'⟩
  · exact h
  · obtain ⟨D2, s2, k1, k2, k3, k4, k5, k6⟩ := h
    exact cP_st k2 (cfr_mono k5 hex) (k t p' n' D2 s2 rfl k1 k3 k4 k5 k6)
theorem CJ {sg l : List Nat} (hN : sg.length ≤ 200) (hs : ∀ x, x ∈ sg → 32 ≤ x ∧ x ≤ 126) {F P d : Nat} (hF : 10000 < F) {ex ex1 L : List Nat} {D : xDt} {s p n c so : Nat} {Q : Nat → xDt → Prop} {t : T} {gn : Nat → Nat → R} {ct : T → Nat → Nat → R} (h : cb sg D d p (L ++ tks t)) (hn : n = (L ++ tks t).length) (hw : D.1 192 11 = 0) (hsp : s ≤ p) (hcs : tk so 0 = c) (hc : c = 61 ∨ c = 62 ∨ c = 124 ∨ c = 38) (h61 : c = 61 → D.1 201 d = 0) (hah : ah c d D = nI L.length) (hq : PS sg l gn)
    (hstay : sA sg p ≠ c → Q p D)
    (hnx : ∀ D1, p + 1 ≤ sk sg (p + 1) → cb sg D1 d (sk sg (p + 1)) (L ++ c :: tks t) → wn D1 0 → jff c d n D D1 → cP sg F P d ex1 (L ++ c :: tks t) D1 (s + 1) (fun _ _ => True) (gn (sk sg (p + 1)) (n + 1)))
    (hct : ∀ D1 D' s' g p' n', jff c d n D D1 → cfr d ex1 D1 D' → PK sg l (p + 1) (n + 1) 0 g p' n' → cb sg D' d p' (L ++ tks (bn so 0 t g)) → D'.1 192 11 = 0 → s' ≤ p' → cP sg F P d ex L D' s' Q (ct (bn so 0 t g) p' n'))
    (hex : ∀ D1, jff c d n D D1 → cfr d ex D D1) (hex1 : ∀ x, x ∈ ex1 → x ∈ ex) : cP sg F P d ex L D s Q (pJ sg c so gn ct t p n) := by
  unfold pJ
  by_cases e : sA sg p = c
  · rw [if_pos e]
    have hpl := sA_lt (sg := sg) (p := p) (by omega)
    obtain ⟨s1, s2, s3⟩ := sk_p (sg := sg) (p := p + 1) (by omega)
    by_cases c2 : 150 ≤ n
    · rw [if_pos c2]
      have := tA_b (F := F) (P := P) (s := s) (v := 0) (D' := D) hN hF h hw hpl hsp (by rw [e]; exact E_jful h hc h61 hah (by rw [List.length_append]; omega) (by omega))
      rw [if_pos rfl] at this
      exact cP_e this h.2.2.1 (ch_rfl _ _ _)
    · rw [if_neg c2]
      obtain ⟨D1, e1, b1, b2, b3, b4⟩ := E_join (F := F) (P := P) hN hs hF h hc e h61 hah (by omega)
      rw [← hn] at b4
      have ht := tA_b (F := F) (P := P) (s := s) (v := 1) (D' := D1) hN hF h hw hpl hsp (by rw [e]; exact e1)
      rw [if_neg (by decide)] at ht
      refine cP_st ht (hex D1 b4) ?_
      have r := hnx D1 s1 b1 ⟨b2, b3⟩ b4
      have g2 := hq (sk sg (p + 1)) (n + 1) s2 (by omega)
      rcases hg : gn (sk sg (p + 1)) (n + 1) with q | ⟨g, p', n'⟩
      · rw [hg] at r
        exact r
      · rw [hg] at r g2
        obtain ⟨D2, s4, k1, k2, k3, k4, k5, _⟩ := r
        obtain ⟨w1, w2⟩ := g2
        dsimp only at w1
        refine cP_st k2 (cfr_mono k5 hex1) (hct D1 D2 s4 g p' n' b4 k5 ⟨by omega, w2⟩ ?_ k4 k1)
        rw [show L ++ tks (bn so 0 t g) = L ++ c :: tks t ++ tks g by rw [tks, hcs]; simp]
        exact k3
  · rw [if_neg e]
    exact ⟨D, s, hsp, rfl, h, hw, cfr_rfl _ _ _, hstay e⟩
