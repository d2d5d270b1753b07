/-! formula: the class reads by that grammar -/
theorem tk_kn {c m : Nat} (h : isKn c) : tk (srt c) m = c + 256 * m := by
  unfold isKn at h
  rcases h with e | e | e | e | e <;> rw [e] <;> rfl
theorem tk_lf {c : Nat} (h : isLf c) : tks (lfT c) = [c] := by
  unfold isLf at h
  unfold lfT
  by_cases c1 : c = 48
  · rw [if_pos c1, c1]; rfl
  rw [if_neg c1]
  by_cases c2 : c = 49
  · rw [if_pos c2, c2]; rfl
  rw [if_neg c2]
  show [tk 1 (c - 97)] = [c]
  rw [show tk 1 (c - 97) = 97 + (c - 97) from rfl, show 97 + (c - 97) = c by omega]
/-- what a formula leaves at its level -/
def qF (sg : List Nat) (d : Nat) (p : Nat) (D : xDt) : Prop := sA sg p = 61 → D.1 201 d = 1
theorem CO {sg : List Nat} (hN : sg.length ≤ 200) (hs : ∀ x, x ∈ sg → 32 ≤ x ∧ x ≤ 126) {F P : Nat} (hF : 10000 < F) {k : Nat} {fo : Nat → Nat → Nat → R} {on : Nat → Nat → Nat → Nat → R} (qf : ∀ d, PS sg [38, 124, 62] (fo d))
    (hfo : ∀ d p n L D s, 5 * (sg.length - p) + 5 ≤ k → cb sg D d p L → n = L.length → s ≤ p → wn D 0 → D.1 197 d = nI n → D.1 198 d = nI n → D.1 199 d = nI n → D.1 201 d = 0 → cP sg F P d [198, 199, 201] L D s (qF sg d) (fo d p n))
    (hon : ∀ d b p n L D s, b ≤ 31 → 5 * (sg.length - p) + 1 ≤ k → cb sg D d p L → n = L.length → s ≤ p → wn D b → cP sg F P d [] L D s (fun _ _ => True) (on d b p n))
    {d b p n : Nat} {L : List Nat} {D : xDt} {s : Nat} (hb : b ≤ 31) (hk : 5 * (sg.length - p) ≤ k) (h : cb sg D d p L) (hn : n = L.length) (hsp : s ≤ p) (hw : wn D b) : cP sg F P d [] L D s (fun _ _ => True) (pO sg fo on d b p n) := by
  have h127 := sA_127 hs p
  obtain ⟨⟨g1, g2⟩, h9, h12, h194, h195, hl150, hpN, hsp32, h196, h201, hd⟩ := id h
  -- where no sign is left
  by_cases hend : p = sg.length
  · have hz := sA_end (sg := sg) (p := p) (by omega)
    have hr : pO sg fo on d b p n = .error p := by
      unfold pO isLf isKn
      rw [hz]
      simp
    rw [hr]
    have ht := tA_e (F := F) (P := P) (s := s) hN hF (by rw [← hend]; exact h) (by omega)
    rw [if_neg (by rw [hw.1]; intro q; exact absurd q.2 (by decide))] at ht
    exact cP_e ht h12 (ch_rfl _ _ _)
  have hpl : p < sg.length := by omega
  obtain ⟨s1, s2, s3⟩ := sk_p (sg := sg) (p := p + 1) (by omega)
  -- a fault at this sign
  have bad : f_X6_takeOne F P xS0 192 (nI (sA sg p)) D = some (0, D) → cP sg F P d [] L D s (fun _ _ => True) (.error p) := by
    intro e
    have ht := tA_w (F := F) (P := P) (s := s) hN hF h hw.1 hpl hsp e
    rw [if_pos rfl] at ht
    exact cP_e ht h12 (ch_rfl _ _ _)
  have go : ∀ {D1 : xDt}, f_X6_takeOne F P xS0 192 (nI (sA sg p)) D = some (1, D1) → tA F P s D = tA F P (s + 1) D1 := by
    intro D1 e
    have ht := tA_w (F := F) (P := P) (s := s) hN hF h hw.1 hpl hsp e
    rw [if_neg (by decide)] at ht
    exact ht
  unfold pO
  by_cases c1 : 30 < b
  · rw [if_pos c1]; exact bad (O_far c1 hb hw)
  rw [if_neg c1]
  -- behind a formula in brackets
  have shut : ∀ (c : Nat) (D2 : xDt) (s2 p' : Nat) (L' : List Nat), cb sg D2 (d + 1) p' L' → D2.1 192 11 = 0 → s2 ≤ p' → (c = 41 ∨ c = 93 ∨ c = 125) → D2.1 196 (d + 1) = nI c → qF sg (d + 1) p' D2 → (∀ x, x ∈ [38, 124, 62] → sA sg p' ≠ x) → sA sg p' ≠ c → tA F P s2 D2 = some (0, D2) := by
    intro c D2 s2 p' L' a1 a2 a3 a4 a5 a6 a7 a8
    have h127' := sA_127 hs p'
    by_cases e : p' = sg.length
    · have ht := tA_e (F := F) (P := P) (s := s2) hN hF (by rw [← e]; exact a1) (by omega)
      rw [if_neg (by omega)] at ht
      exact ht
    · have hpl' : p' < sg.length := by have := a1.2.2.2.2.2.2.1; omega
      have ht := tA_b (F := F) (P := P) (s := s2) (v := 0) (D' := D2) hN hF a1 a2 hpl' a3 (E_rej a1 (by omega) ⟨a7 38 (by simp), a7 124 (by simp), a7 62 (by simp)⟩ a6 (by rw [a5]; exact nI_nk (by omega) (by omega) a8))
      rw [if_pos rfl] at ht
      exact ht
  -- out of the brackets
  have out : ∀ (c : Nat) (D1 D2 : xDt) (s2 p' : Nat) (L' : List Nat), cfr d [] D D1 → cfr (d + 1) [198, 199, 201] D1 D2 → D1.1 200 (d + 1) = nI b → D1.1 196 (d + 1) = nI c → cb sg D2 (d + 1) p' L' → D2.1 192 11 = 0 → s2 ≤ p' → (c = 41 ∨ c = 93 ∨ c = 125) → sA sg p' = c → ∃ D3, tA F P s2 D2 = tA F P (s2 + 1) D3 ∧ s2 + 1 ≤ sk sg (p' + 1) ∧ cb sg D3 d (sk sg (p' + 1)) L' ∧ D3.1 192 11 = (if c = 41 then 0 else 1) ∧ D3.1 192 10 = nI (b + 1) ∧ cfr d [] D1 D3 := by
    intro c D1 D2 s2 p' L' a0 a1 a2 a3 a4 a5 a6 a7 a8
    have hpl' := sA_lt (sg := sg) (p := p') (by omega)
    obtain ⟨u1, u2, u3⟩ := sk_p (sg := sg) (p := p' + 1) (by omega)
    obtain ⟨D3, e3, r1, r2, r3, r4, r5, r6⟩ := E_leave (F := F) (P := P) (o := b) hN hs hF a4 a8 a7 (by rw [a1.2 196 (by omega) (by omega) (d + 1) (Or.inr ⟨rfl, by decide⟩)]; exact a3) (by rw [a1.2 200 (by omega) (by omega) (d + 1) (Or.inr ⟨rfl, by decide⟩)]; exact a2)
    have ht := tA_b (F := F) (P := P) (s := s2) (v := 1) (D' := D3) hN hF a4 a5 hpl' a6 (by rw [a8]; exact e3)
    rw [if_neg (by decide)] at ht
    have q : ∀ x, x ≠ 192 → D3.1 x = D2.1 x := fun x hx => r6.1 x (by simp; exact hx)
    obtain ⟨_, _, _, z194, z195, zl, _, _, _, _, _⟩ := a4
    have f1 : cfr d [] D1 D3 := ⟨ch_trans a1.1 (ch_mono r6 (fun x hx => by simp at hx ⊢; omega) (fun _ h => h)), fun x hx hx2 j hj => by rw [q x (by omega), a1.2 x hx hx2 j (Or.inl (by omega))]⟩
    have f2 := cfr_trans a0 f1
    exact ⟨D3, ht, by omega, ⟨r5, r1, r4, by rw [q 194 (by omega)]; exact z194, by rw [q 195 (by omega)]; exact z195, zl, u2, u3, by rw [f2.2 196 (by omega) (by omega) d (Or.inr ⟨rfl, by simp⟩)]; exact h196, by rw [f2.2 201 (by omega) (by omega) d (Or.inr ⟨rfl, by simp⟩)]; exact h201, hd⟩, r3, r2, f1⟩
  by_cases c2 : sA sg p = 40
  · rw [if_pos c2]
    obtain ⟨o1, o2⟩ := O_open (F := F) (P := P) hN hs hF h (by omega) hw hpl (Or.inl c2) (fun q => absurd c2 q)
    by_cases c3 : 15 ≤ d
    · rw [if_pos c3]; exact bad (o1 c3)
    rw [if_neg c3]
    obtain ⟨D1, e1, r1, r2, r3, r4, r5, r6, r7, r8, r9⟩ := o2 (by omega)
    rw [if_pos c2, List.append_nil] at r1 r6 r7 r8
    rw [if_pos c2] at r3
    refine cP_st (go e1) r9 ?_
    have rr := hfo (d + 1) (sk sg (p + 1)) n L D1 (s + 1) (by omega) r1 hn (by omega) r2 (by rw [hn]; exact r6) (by rw [hn]; exact r7) (by rw [hn]; exact r8) r5
    have gg := qf (d + 1) (sk sg (p + 1)) n s2 (by omega)
    rcases hg : fo (d + 1) (sk sg (p + 1)) n with q | ⟨t, p', n'⟩
    · rw [hg] at rr; exact rr
    rw [hg] at rr gg
    obtain ⟨D2, s4, k1, k2, k3, k4, k5, k6⟩ := rr
    obtain ⟨w1, w2, w3, w4, w5, w6, w7⟩ := id gg
    dsimp only at w1 w2 w3 w4 w5 w6 w7
    refine cP_st k2 (cfr_up k5) ?_
    show cP sg F P d [] L D2 s4 (fun _ _ => True) (if sA sg p' = 41 then .ok (t, sk sg (p' + 1), n') else .error p')
    by_cases c4 : sA sg p' = 41
    · rw [if_pos c4]
      obtain ⟨D3, v1, v2, v3, v4, v5, v6⟩ := out 41 D1 D2 s4 p' _ r9 k5 r4 r3 k3 k4 k1 (by omega) c4
      refine ⟨D3, s4 + 1, v2, v1, v3, v4, ?_, trivial⟩
      refine ⟨?_, fun x hx hx2 j hj => ?_⟩
      · refine ⟨fun x hx => ?_, fun x hx => ?_⟩
        · rw [v6.1.1 x hx, k5.1.1 x hx]
        · rw [v6.1.2 x hx, k5.1.2 x hx]
      · rw [v6.2 x hx hx2 j hj, k5.2 x hx hx2 j (Or.inl (by omega))]
    · rw [if_neg c4]
      exact cP_e (shut 41 D2 s4 p' _ k3 k4 k1 (by omega) (by rw [k5.2 196 (by omega) (by omega) (d + 1) (Or.inr ⟨rfl, by decide⟩)]; exact r3) k6 w7 c4) k3.2.2.1 (ch_rfl _ _ _)
  rw [if_neg c2]
  by_cases c3 : 150 ≤ n
  · rw [if_pos c3]; exact bad (O_full h (by omega) hw (by omega) c2 (by omega))
  rw [if_neg c3]
  by_cases c4 : isLf (sA sg p)
  · rw [if_pos c4]
    obtain ⟨D1, e1, r1, r2, r3, r4⟩ := O_leaf (F := F) (P := P) hN hs hF h (by omega) hw hpl (by omega) (Or.inr c4)
    rw [if_neg (by unfold isLf at c4; omega)] at r2
    refine ⟨D1, s + 1, by dsimp only; omega, go e1, ?_, r2, r4, trivial⟩
    dsimp only
    rw [tk_lf c4]
    exact r1
  rw [if_neg c4]
  by_cases c5 : sA sg p = 91 ∨ sA sg p = 123
  · rw [if_pos c5]
    obtain ⟨o1, o2⟩ := O_open (F := F) (P := P) hN hs hF h (by omega) hw hpl (Or.inr c5) (fun _ => by omega)
    by_cases c6 : 15 ≤ d
    · rw [if_pos c6]; exact bad (o1 c6)
    rw [if_neg c6]
    obtain ⟨D1, e1, r1, r2, r3, r4, r5, r6, r7, r8, r9⟩ := o2 (by omega)
    rw [if_neg c2] at r1 r3 r6 r7 r8
    have hn1 : n + 1 = (L ++ [sA sg p]).length := by simp; omega
    refine cP_st (go e1) r9 ?_
    have rr := hfo (d + 1) (sk sg (p + 1)) (n + 1) (L ++ [sA sg p]) D1 (s + 1) (by omega) r1 hn1 (by omega) r2 (by rw [hn1]; exact r6) (by rw [hn1]; exact r7) (by rw [hn1]; exact r8) r5
    have gg := qf (d + 1) (sk sg (p + 1)) (n + 1) s2 (by omega)
    rcases hg : fo (d + 1) (sk sg (p + 1)) (n + 1) with q | ⟨t, p', n'⟩
    · rw [hg] at rr; exact rr
    rw [hg] at rr gg
    obtain ⟨D2, s4, k1, k2, k3, k4, k5, k6⟩ := rr
    obtain ⟨w1, w2, w3, w4, w5, w6, w7⟩ := id gg
    dsimp only at w1 w2 w3 w4 w5 w6 w7
    refine cP_st k2 (cfr_up k5) ?_
    show cP sg F P d [] L D2 s4 (fun _ _ => True) (if sA sg p' = sA sg p + 2 then Rb (on d (b + 1) (sk sg (p' + 1)) n') fun g q n => .ok (bn (if sA sg p = 91 then 14 else 15) 0 t g, q, n) else .error p')
    by_cases c7 : sA sg p' = sA sg p + 2
    · rw [if_pos c7]
      obtain ⟨D3, v1, v2, v3, v4, v5, v6⟩ := out (sA sg p + 2) D1 D2 s4 p' _ r9 k5 r4 r3 k3 k4 k1 (by omega) c7
      rw [if_neg (by omega)] at v4
      have f23 : cfr d [] D2 D3 := by
        refine ⟨⟨fun x hx => ?_, fun x hx => ?_⟩, fun x hx hx2 j hj => ?_⟩
        · rw [v6.1.1 x hx, k5.1.1 x hx]
        · rw [v6.1.2 x hx, k5.1.2 x hx]
        · rw [v6.2 x hx hx2 j hj, k5.2 x hx hx2 j (Or.inl (by omega))]
      refine cP_st v1 f23 ?_
      have hpl' := sA_lt (sg := sg) (p := p') (by omega)
      obtain ⟨u1, u2, u3⟩ := sk_p (sg := sg) (p := p' + 1) (by omega)
      have rr2 := hon d (b + 1) (sk sg (p' + 1)) n' _ D3 (s4 + 1) (by omega) (by omega) v3 (by rw [List.length_append, ← hn1, tks_len]; omega) v2 ⟨v4, v5⟩
      rcases hg2 : on d (b + 1) (sk sg (p' + 1)) n' with q | ⟨g, p'', n''⟩
      · rw [hg2] at rr2; exact rr2
      rw [hg2] at rr2
      obtain ⟨D4, s5, y1, y2, y3, y4, y5, _⟩ := rr2
      refine ⟨D4, s5, y1, y2, ?_, y4, y5, trivial⟩
      dsimp only
      have : L ++ tks (bn (if sA sg p = 91 then 14 else 15) 0 t g) = L ++ [sA sg p] ++ tks t ++ tks g := by
        rw [tks, show tk (if sA sg p = 91 then 14 else 15) 0 = sA sg p by
          by_cases z : sA sg p = 91
          · rw [if_pos z, z]; rfl
          · rw [if_neg z, c5.resolve_left z]; rfl]
        simp
      rw [this]
      exact y3
    · rw [if_neg c7]
      exact cP_e (shut (sA sg p + 2) D2 s4 p' _ k3 k4 k1 (by omega) (by rw [k5.2 196 (by omega) (by omega) (d + 1) (Or.inr ⟨rfl, by decide⟩)]; exact r3) k6 w7 c7) k3.2.2.1 (ch_rfl _ _ _)
  rw [if_neg c5]
  by_cases c6 : sA sg p = 126
  · rw [if_pos c6]
    obtain ⟨D1, e1, r1, r2, r3, r4⟩ := O_leaf (F := F) (P := P) hN hs hF h (by omega) hw hpl (by omega) (Or.inl c6)
    rw [if_pos c6] at r2
    refine cP_st (go e1) r4 ?_
    have rr := hon d (b + 1) (sk sg (p + 1)) (n + 1) _ D1 (s + 1) (by omega) (by omega) r1 (by simp; omega) (by omega) ⟨r2, r3⟩
    rcases hg : on d (b + 1) (sk sg (p + 1)) (n + 1) with q | ⟨t, p', n'⟩
    · rw [hg] at rr; exact rr
    rw [hg] at rr
    obtain ⟨D2, s4, k1, k2, k3, k4, k5, k6⟩ := rr
    refine ⟨D2, s4, k1, k2, ?_, k4, k5, trivial⟩
    dsimp only
    have : L ++ tks (bn 4 0 t nil) = L ++ [sA sg p] ++ tks t := by
      rw [tks, c6, tks, show tk 4 0 = 126 from rfl]; simp
    rw [this]
    exact k3
  rw [if_neg c6]
  by_cases c7 : isKn (sA sg p)
  · rw [if_pos c7]
    obtain ⟨o1, o2⟩ := O_know (F := F) (P := P) hN hs hF h (by omega) hw hpl (by omega) c7
    have hg := pG_p (sg := sg) (if sA sg p = 75 ∨ sA sg p = 80 then 1 else 4) 0 48 (sk sg (p + 1)) s2 s3 (by omega) (by omega)
    generalize pG sg (if sA sg p = 75 ∨ sA sg p = 80 then 1 else 4) 0 48 (sk sg (p + 1)) = g at hg o1 o2 ⊢
    by_cases c8 : g.1 = 0
    · rw [if_pos c8]
      obtain ⟨D1, e1, r1, r2⟩ := o1 c8
      have ht := tA_w (F := F) (P := P) (s := s) hN hF h hw.1 hpl hsp e1
      rw [if_pos rfl] at ht
      exact cP_e ht r1 r2
    rw [if_neg c8]
    obtain ⟨D1, e1, r1, r2, r3⟩ := o2 c8
    refine cP_st (go e1) r3 ?_
    have rr := hon d (b + 1) g.2 (n + 1) _ D1 (s + 1) (by omega) (by omega) r1 (by simp; omega) (by omega) r2
    rcases hg2 : on d (b + 1) g.2 (n + 1) with q | ⟨t, p', n'⟩
    · rw [hg2] at rr; exact rr
    rw [hg2] at rr
    obtain ⟨D2, s4, k1, k2, k3, k4, k5, k6⟩ := rr
    refine ⟨D2, s4, k1, k2, ?_, k4, k5, trivial⟩
    dsimp only
    have : L ++ tks (bn (srt (sA sg p)) g.1 t nil) = L ++ [sA sg p + 256 * g.1] ++ tks t := by
      rw [tks, tk_kn c7, tks]; simp
    rw [this]
    exact k3
  rw [if_neg c7]
  exact bad (by rw [O_rest h (by omega) hw (by omega) c2 (by omega), if_neg (by omega), if_neg (by omega), if_neg c7, if_neg (fun q => q.elim c6 c4)])
theorem CL_b {sg l : List Nat} (hN : sg.length ≤ 200) (hs : ∀ x, x ∈ sg → 32 ≤ x ∧ x ≤ 126) {F P d : Nat} (hF : 10000 < F) {L : List Nat} {gn : Nat → Nat → R} (hq : PS sg l gn) (p0 : Nat) (hn : ∀ D p n L s, p0 < p → cb sg D d p L → n = L.length → s ≤ p → wn D 0 → cP sg F P d [] L D s (fun _ _ => True) (gn p n)) : ∀ (k : Nat) (t : T) (p n : Nat) (D : xDt) (s : Nat), p0 ≤ p → sg.length - p < k → cb sg D d p (L ++ tks t) → n = (L ++ tks t).length → D.1 192 11 = 0 → s ≤ p → D.1 199 d = nI L.length → cP sg F P d [] L D s (fun _ _ => True) (pL sg 38 13 gn k t p n)
  | 0, _, _, _, _, _, _, h, _, _, _, _, _ => absurd h (by omega)
  | k + 1, t, p, n, D, s, h1, h2, h3, h4, h5, h6, h7 => by
    rw [pL]
    refine CJ (ex1 := []) hN hs hF h3 h4 h5 h6 rfl (by omega) (fun q => absurd q (by omega)) (by rw [ah, if_neg (by omega), if_pos rfl]; exact h7) hq (fun _ => trivial) (fun D1 a0 a1 a2 a3 => ?_) (fun D1 D' s' g p' n' a1 a2 a3 a4 a5 a6 => ?_) (fun D1 a => jff_cfr a (by omega) (by omega) (by omega)) (fun _ h => h)
    · exact hn D1 _ _ _ (s + 1) (by omega) a1 (by rw [h4]; simp; omega) (by omega) a2
    · obtain ⟨b1, b2, b3, b4, b5, b6, b7⟩ := a3
      refine CL_b hN hs hF hq p0 hn k (bn 13 0 t g) p' n' D' s' (by omega) (by omega) a4 ?_ a5 a6 ?_
      · rw [List.length_append, tks_len, sz]
        rw [List.length_append, tks_len] at h4
        omega
      · rw [a2.2 199 (by omega) (by omega) d (Or.inr ⟨rfl, by simp⟩), a1.2.2.2.2.1, if_pos rfl]; exact h7
theorem CL_e {sg l : List Nat} (hN : sg.length ≤ 200) (hs : ∀ x, x ∈ sg → 32 ≤ x ∧ x ≤ 126) {F P d : Nat} (hF : 10000 < F) {L : List Nat} {gn : Nat → Nat → R} (hq : PS sg l gn) (p0 : Nat) (hn : ∀ D p n L s, p0 < p → cb sg D d p L → n = L.length → s ≤ p → wn D 0 → D.1 199 d = nI n → cP sg F P d [] L D s (fun _ _ => True) (gn p n)) : ∀ (k : Nat) (t : T) (p n : Nat) (D : xDt) (s : Nat), p0 ≤ p → sg.length - p < k → cb sg D d p (L ++ tks t) → n = (L ++ tks t).length → D.1 192 11 = 0 → s ≤ p → D.1 198 d = nI L.length → cP sg F P d [199] L D s (fun _ _ => True) (pL sg 124 12 gn k t p n)
  | 0, _, _, _, _, _, _, h, _, _, _, _, _ => absurd h (by omega)
  | k + 1, t, p, n, D, s, h1, h2, h3, h4, h5, h6, h7 => by
    rw [pL]
    refine CJ (ex1 := []) hN hs hF h3 h4 h5 h6 rfl (by omega) (fun q => absurd q (by omega)) (by rw [ah, if_neg (by omega), if_neg (by omega)]; exact h7) hq (fun _ => trivial) (fun D1 a0 a1 a2 a3 => ?_) (fun D1 D' s' g p' n' a1 a2 a3 a4 a5 a6 => ?_) (fun D1 a => jff_cfr a (by omega) (by simp) (by omega)) (fun _ h => absurd h (by simp))
    · exact hn D1 _ _ _ (s + 1) (by omega) a1 (by rw [h4]; simp; omega) (by omega) a2 (by rw [a3.2.2.2.2.1, if_neg (by omega)])
    · obtain ⟨b1, b2, b3, b4, b5, b6, b7⟩ := a3
      refine CL_e hN hs hF hq p0 hn k (bn 12 0 t g) p' n' D' s' (by omega) (by omega) a4 ?_ a5 a6 ?_
      · rw [List.length_append, tks_len, sz]
        rw [List.length_append, tks_len] at h4
        omega
      · rw [a2.2 198 (by omega) (by omega) d (Or.inr ⟨rfl, by simp⟩), a1.2.2.2.1, if_neg (by omega)]; exact h7
theorem C_all {sg : List Nat} (hN : sg.length ≤ 200) (hs : ∀ x, x ∈ sg → 32 ≤ x ∧ x ≤ 126) {F P : Nat} (hF : 10000 < F) : ∀ k,
    (∀ d p n L D s, 5 * (sg.length - p) + 5 ≤ k → cb sg D d p L → n = L.length → s ≤ p → wn D 0 → D.1 197 d = nI n → D.1 198 d = nI n → D.1 199 d = nI n → D.1 201 d = 0 → cP sg F P d [198, 199, 201] L D s (qF sg d) ((pA sg k).1 d p n)) ∧
    (∀ d p n L D s, 5 * (sg.length - p) + 4 ≤ k → cb sg D d p L → n = L.length → s ≤ p → wn D 0 → D.1 198 d = nI n → D.1 199 d = nI n → cP sg F P d [198, 199] L D s (fun _ _ => True) ((pA sg k).2.1 d p n)) ∧
    (∀ d p n L D s, 5 * (sg.length - p) + 3 ≤ k → cb sg D d p L → n = L.length → s ≤ p → wn D 0 → D.1 198 d = nI n → D.1 199 d = nI n → cP sg F P d [199] L D s (fun _ _ => True) ((pA sg k).2.2.1 d p n)) ∧
    (∀ d p n L D s, 5 * (sg.length - p) + 2 ≤ k → cb sg D d p L → n = L.length → s ≤ p → wn D 0 → D.1 199 d = nI n → cP sg F P d [] L D s (fun _ _ => True) ((pA sg k).2.2.2.1 d p n)) ∧
    (∀ d b p n L D s, b ≤ 31 → 5 * (sg.length - p) + 1 ≤ k → cb sg D d p L → n = L.length → s ≤ p → wn D b → cP sg F P d [] L D s (fun _ _ => True) ((pA sg k).2.2.2.2 d b p n))
  | 0 => ⟨fun _ _ _ _ _ _ h => absurd h (by omega), fun _ _ _ _ _ _ h => absurd h (by omega), fun _ _ _ _ _ _ h => absurd h (by omega), fun _ _ _ _ _ _ h => absurd h (by omega), fun _ _ _ _ _ _ _ _ h => absurd h (by omega)⟩
  | k + 1 => by
    obtain ⟨hf, hi, he, hb, ho⟩ := C_all (P := P) hN hs hF k
    obtain ⟨qf, qi, qe, qb, qo⟩ := P_all sg k
    -- what the first reading gives
    have pk : ∀ {l : List Nat} {g : Nat → Nat → R} {p n : Nat} {L : List Nat} {t : T} {p' n' : Nat}, PS sg l g → p ≤ sg.length → n = L.length → n ≤ 150 → g p n = .ok (t, p', n') → p + 1 ≤ p' ∧ p' ≤ sg.length ∧ n' = (L ++ tks t).length := by
      intro l g p n L t p' n' a1 a2 a3 a4 a5
      have gg := a1 p n a2 a4
      rw [a5] at gg
      obtain ⟨w1, w2, w3, w4, w5, w6, w7⟩ := gg
      dsimp only at w1 w2 w4
      rw [List.length_append, tks_len]
      omega
    refine ⟨fun d p n L D s hk h hn hsp hw h197 h198 h199 h201 => ?_, fun d p n L D s hk h hn hsp hw h198 h199 => ?_, fun d p n L D s hk h hn hsp hw h198 h199 => ?_, fun d p n L D s hk h hn hsp hw h199 => ?_, fun d b p n L D s hb hk h hn hsp hw => ?_⟩
    · have hp := h.2.2.2.2.2.2.1
      have hl := h.2.2.2.2.2.1
      refine cP_b (ex1 := [198, 199]) (hi d p n L D s (by omega) h hn hsp hw h198 h199) (fun x hx => by simp at hx ⊢; omega) (fun t p' n' D' s' a1 a2 a3 a4 a5 _ => ?_)
      obtain ⟨b1, b2, b3⟩ := pk (qi d) hp hn (by omega) a1
      have z201 : D'.1 201 d = 0 := by rw [a5.2 201 (by omega) (by omega) d (Or.inr ⟨rfl, by decide⟩)]; exact h201
      refine CJ (ex1 := [198, 199]) hN hs hF a3 b3 a4 a2 rfl (by omega) (fun _ => z201) ?_ (qi d) (fun c q => absurd q c) (fun D1 y0 y1 y2 y3 => ?_) (fun D1 D2 s2 g p2 n2 y1 y2 y3 y4 y5 y6 => ?_) (fun D1 a => jff_cfr a (by simp) (by simp) (by simp)) (fun x hx => by simp at hx ⊢; omega)
      · rw [ah, if_pos rfl, a5.2 197 (by omega) (by omega) d (Or.inr ⟨rfl, by decide⟩), h197, hn]
      · exact hi d _ _ _ D1 (s' + 1) (by omega) y1 (by rw [b3]; simp; omega) (by omega) y2 (by rw [y3.2.2.2.1, if_pos (by omega)]) (by rw [y3.2.2.2.2.1, if_neg (by omega)])
      · refine ⟨D2, s2, y6, rfl, y4, y5, cfr_rfl _ _ _, fun _ => ?_⟩
        rw [y2.2 201 (by omega) (by omega) d (Or.inr ⟨rfl, by decide⟩), y1.2.2.2.2.2, if_pos rfl]
    · have hp := h.2.2.2.2.2.2.1
      have hl := h.2.2.2.2.2.1
      refine cP_b (ex1 := [199]) (he d p n L D s (by omega) h hn hsp hw h198 h199) (fun x hx => by simp at hx ⊢; omega) (fun t p' n' D' s' a1 a2 a3 a4 a5 _ => ?_)
      obtain ⟨b1, b2, b3⟩ := pk (qe d) hp hn (by omega) a1
      refine CJ (ex1 := [198, 199]) hN hs hF a3 b3 a4 a2 rfl (by omega) (fun q => absurd q (by omega)) ?_ (qi d) (fun _ => trivial) (fun D1 y0 y1 y2 y3 => ?_) (fun D1 D2 s2 g p2 n2 y1 y2 y3 y4 y5 y6 => ?_) (fun D1 a => jff_cfr a (by simp) (by simp) (by omega)) (fun x hx => hx)
      · rw [ah, if_neg (by omega), if_neg (by omega), a5.2 198 (by omega) (by omega) d (Or.inr ⟨rfl, by decide⟩), h198, hn]
      · exact hi d _ _ _ D1 (s' + 1) (by omega) y1 (by rw [b3]; simp; omega) (by omega) y2 (by rw [y3.2.2.2.1, if_pos (by omega)]) (by rw [y3.2.2.2.2.1, if_neg (by omega)])
      · exact ⟨D2, s2, y6, rfl, y4, y5, cfr_rfl _ _ _, trivial⟩
    · have hp := h.2.2.2.2.2.2.1
      have hl := h.2.2.2.2.2.1
      refine cP_b (ex1 := []) (hb d p n L D s (by omega) h hn hsp hw h199) (fun x hx => absurd hx (by simp)) (fun t p' n' D' s' a1 a2 a3 a4 a5 _ => ?_)
      obtain ⟨b1, b2, b3⟩ := pk (qb d) hp hn (by omega) a1
      exact CL_e hN hs hF (qb d) p (fun D p' n L s hp' y1 y2 y3 y4 y5 => hb d p' n L D s (by omega) y1 y2 y3 y4 y5) 201 t p' n' D' s' (by omega) (by omega) a3 b3 a4 a2 (by rw [a5.2 198 (by omega) (by omega) d (Or.inr ⟨rfl, by simp⟩), h198, hn])
    · have hp := h.2.2.2.2.2.2.1
      have hl := h.2.2.2.2.2.1
      refine cP_b (ex1 := []) (ho d 0 p n L D s (by omega) (by omega) h hn hsp hw) (fun x hx => absurd hx (by simp)) (fun t p' n' D' s' a1 a2 a3 a4 a5 _ => ?_)
      obtain ⟨b1, b2, b3⟩ := pk (qo d 0) hp hn (by omega) a1
      exact CL_b hN hs hF (qo d 0) p (fun D p' n L s hp' y1 y2 y3 y4 => ho d 0 p' n L D s (by omega) (by omega) y1 y2 y3 y4) 201 t p' n' D' s' (by omega) (by omega) a3 b3 a4 a2 (by rw [a5.2 199 (by omega) (by omega) d (Or.inr ⟨rfl, by simp⟩), h199, hn])
    · exact CO hN hs hF (k := k) qf hf ho hb (by omega) h hn hsp hw
