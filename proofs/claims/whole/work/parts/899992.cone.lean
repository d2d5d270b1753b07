/-! formula: a sign of a one, taken by the class -/
theorem E_cSay {F P : Nat} {D : xDt} {c : Nat} (hc : c < 128) : f_X11_isSaying F P xS0 (nI c) D = some (if c = 91 ∨ c = 123 then 1 else 0, D) := by
  unfold f_X11_isSaying f_X11_isSaying_12
  by_cases c1 : c = 91
  · rw [if_pos (show nI c = 91 by rw [c1]; rfl), if_pos (by omega)]
  rw [if_neg (show ¬ nI c = 91 from nI_nk (k := 91) hc (by omega) c1)]
  by_cases c2 : c = 123
  · rw [if_pos (show nI c = 123 by rw [c2]; rfl), if_pos (by omega)]
  rw [if_neg (show ¬ nI c = 123 from nI_nk (k := 123) hc (by omega) c2), if_neg (by omega)]
theorem E_cKn {F P : Nat} {D : xDt} {c : Nat} (hc : c < 128) : f_X11_isKnowing F P xS0 (nI c) D = some (if isKn c then 1 else 0, D) := by
  unfold f_X11_isKnowing f_X11_isKnowing_30 isKn
  by_cases c1 : c = 75
  · rw [if_pos (show nI c = 75 by rw [c1]; rfl), if_pos (by omega)]
  rw [if_neg (show ¬ nI c = 75 from nI_nk (k := 75) hc (by omega) c1)]
  by_cases c2 : c = 80
  · rw [if_pos (show nI c = 80 by rw [c2]; rfl), if_pos (by omega)]
  rw [if_neg (show ¬ nI c = 80 from nI_nk (k := 80) hc (by omega) c2)]
  by_cases c3 : c = 69
  · rw [if_pos (show nI c = 69 by rw [c3]; rfl), if_pos (by omega)]
  rw [if_neg (show ¬ nI c = 69 from nI_nk (k := 69) hc (by omega) c3)]
  by_cases c4 : c = 67
  · rw [if_pos (show nI c = 67 by rw [c4]; rfl), if_pos (by omega)]
  rw [if_neg (show ¬ nI c = 67 from nI_nk (k := 67) hc (by omega) c4)]
  by_cases c5 : c = 68
  · rw [if_pos (show nI c = 68 by rw [c5]; rfl), if_pos (by omega)]
  rw [if_neg (show ¬ nI c = 68 from nI_nk (k := 68) hc (by omega) c5), if_neg (by omega)]
theorem E_cLf {F P : Nat} {D : xDt} {c : Nat} (hc : c < 128) : f_X11_isLeaf F P xS0 (nI c) D = some (if isLf c then 1 else 0, D) := by
  have e12 : ¬ (97 ≤ c ∧ c ≤ 104) → f_X11_isLeaf_12 F P xS0 (nI c) D = some (if isLf c then 1 else 0, D) := by
    intro h
    unfold f_X11_isLeaf_12 f_X11_isLeaf_24 isLf
    by_cases c1 : c = 48
    · rw [if_pos (show nI c = 48 by rw [c1]; rfl), if_pos (by omega)]
    rw [if_neg (show ¬ nI c = 48 from nI_nk (k := 48) hc (by omega) c1)]
    by_cases c2 : c = 49
    · rw [if_pos (show nI c = 49 by rw [c2]; rfl), if_pos (by omega)]
    rw [if_neg (show ¬ nI c = 49 from nI_nk (k := 49) hc (by omega) c2), if_neg (by omega)]
  unfold f_X11_isLeaf
  by_cases c1 : c < 97
  · rw [if_pos (show nI c < 97 from nI_lt (b := 97) c1 (by omega)), e12 (by omega)]
  rw [if_neg (show ¬ nI c < 97 from fun q => absurd q (Int32.not_lt.mpr ((nI_leI (a := 97) (by omega) (by omega)).mpr (by omega))))]
  by_cases c2 : c ≤ 104
  · rw [if_pos (show nI c ≤ 104 from (nI_leI (b := 104) (by omega) (by omega)).mpr c2), if_pos (show isLf c from Or.inl ⟨by omega, c2⟩)]
    rfl
  · rw [if_neg (show ¬ nI c ≤ 104 from fun q => c2 ((nI_leI (b := 104) (by omega) (by omega)).mp q)), e12 (by omega)]
/-- the class wants a one -/
def wn (D : xDt) (b : Nat) : Prop := D.1 192 11 = 1 ∧ D.1 192 10 = nI b
theorem O_far {F P b : Nat} {D : xDt} {c : Int32} (hb : 30 < b) (hb2 : b ≤ 31) (h : wn D b) : f_X6_takeOne F P xS0 192 c D = some (0, D) := by
  rw [e_X6_takeOne, h.2, if_neg (show ¬ nI b ≤ 30 from fun q => absurd ((nI_leI (b := 30) (by omega) (by omega)).mp q) (by omega))]
theorem O_full {sg : List Nat} {F P b d p : Nat} {D : xDt} {L : List Nat} {c : Nat} (h0 : cb sg D d p L) (hb : b ≤ 30) (h : wn D b) (hc : c < 128) (hc2 : c ≠ 40) (hl : 150 ≤ L.length) : f_X6_takeOne F P xS0 192 (nI c) D = some (0, D) := by
  obtain ⟨⟨g1, g2⟩, h9, h12, h194, h195, hl150, hpN, hsp, h196, h201, hd⟩ := h0
  rw [e_X6_takeOne, h.2, if_pos (show nI b ≤ 30 from (nI_leI (b := 30) (by omega) (by omega)).mpr hb), if_neg (show ¬ nI c = 40 from nI_nk (k := 40) hc (by omega) hc2), h194, if_neg (show ¬ nI L.length < 150 from fun q => absurd q (Int32.not_lt.mpr ((nI_leI (a := 150) (by omega) (by omega)).mpr hl)))]
/-- for the rest of the signs -/
theorem O_rest {sg : List Nat} {F P b d p : Nat} {D : xDt} {L : List Nat} {c : Nat} (h0 : cb sg D d p L) (hb : b ≤ 30) (h : wn D b) (hc : c < 128) (hc2 : c ≠ 40) (hl : L.length < 150) : f_X6_takeOne F P xS0 192 (nI c) D = if c = 91 then f_X6_takeOne_62 F P xS0 93 (nI c) 192 D else if c = 123 then f_X6_takeOne_62 F P xS0 125 (nI c) 192 D else if isKn c then ((f_X6_takeKnowing F P xS0 192 (nI c) D).bind fun q4 => xgrd (xb q4.1) (some (q4.1, q4.2))) else if c = 126 ∨ isLf c then f_X6_takeOne_94 F P xS0 192 (nI c) D else some (0, D) := by
  obtain ⟨⟨g1, g2⟩, h9, h12, h194, h195, hl150, hpN, hsp, h196, h201, hd⟩ := h0
  rw [e_X6_takeOne, h.2, if_pos (show nI b ≤ 30 from (nI_leI (b := 30) (by omega) (by omega)).mpr hb), if_neg (show ¬ nI c = 40 from nI_nk (k := 40) hc (by omega) hc2), h194, if_pos (show nI L.length < 150 from nI_lt (b := 150) hl (by omega)), E_cSay hc, Option.bind_some]
  by_cases c1 : c = 91
  · rw [if_pos (show c = 91 ∨ c = 123 by omega), if_neg (show ¬ (1 : Int32) = 0 by decide), if_pos (show nI c = 91 by rw [c1]; rfl), if_pos c1]
  rw [if_neg c1]
  by_cases c2 : c = 123
  · rw [if_pos (show c = 91 ∨ c = 123 by omega), if_neg (show ¬ (1 : Int32) = 0 by decide), if_neg (show ¬ nI c = 91 from nI_nk (k := 91) hc (by omega) c1), if_pos c2]
  rw [if_neg c2, if_neg (show ¬ (c = 91 ∨ c = 123) by omega), if_pos rfl, E_cKn hc, Option.bind_some]
  by_cases c3 : isKn c
  · rw [if_pos c3, if_neg (show ¬ (1 : Int32) = 0 by decide), if_pos c3]
  rw [if_neg c3, if_pos rfl, if_neg c3]
  by_cases c4 : c = 126
  · rw [if_pos (show nI c = 126 by rw [c4]; rfl), if_pos (Or.inl c4)]
  rw [if_neg (show ¬ nI c = 126 from nI_nk (k := 126) hc (by omega) c4), E_cLf hc, Option.bind_some]
  by_cases c5 : isLf c
  · rw [if_pos c5, if_neg (show ¬ (1 : Int32) = 0 by decide), if_pos (Or.inr c5)]
  · rw [if_neg c5, if_pos rfl, if_neg (fun q => q.elim c4 c5)]
theorem O_leaf {sg : List Nat} (hN : sg.length ≤ 200) (hs : ∀ x, x ∈ sg → 32 ≤ x ∧ x ≤ 126) {F P b d p : Nat} (hF : 10000 < F) {D : xDt} {L : List Nat} {c : Nat} (h0 : cb sg D d p L) (hb : b ≤ 30) (h : wn D b) (hp : p < sg.length) (hl : L.length < 150) (hcc : c = 126 ∨ isLf c) : ∃ D', f_X6_takeOne F P xS0 192 (nI c) D = some (1, D') ∧ cb sg D' d (sk sg (p + 1)) (L ++ [c]) ∧ D'.1 192 11 = (if c = 126 then 1 else 0) ∧ D'.1 192 10 = nI (b + 1) ∧ cfr d [] D D' := by
  have hc : c < 128 := by unfold isLf at hcc; omega
  have hk : ¬ isKn c := by unfold isKn; unfold isLf at hcc; omega
  rw [O_rest h0 hb h hc (by unfold isLf at hcc; omega) hl, if_neg (by unfold isLf at hcc; omega), if_neg (by unfold isLf at hcc; omega), if_neg hk, if_pos hcc]
  obtain ⟨⟨g1, g2⟩, h9, h12, h194, h195, hl150, hpN, hsp, h196, h201, hd⟩ := h0
  obtain ⟨s1, s2, s3⟩ := sk_p (sg := sg) (p := p + 1) (by omega)
  obtain ⟨D1, e1, a1, a2, a3⟩ := E_cadd (F := F) (P := P) (c := c) h194 h195 hl
  have q1 : ∀ x, x ≠ 194 → x ≠ 195 → D1.1 x = D.1 x := fun x h1 h2 => a3.1 x (by simp; omega)
  generalize hv : (if c = 126 then (1 : Int32) else 0) = v
  have hvb : xb v = true := by rw [← hv]; split <;> decide
  generalize hD2 : ((xup (xup D1.1 192 11 v) 192 10 (nI (b + 1)), D1.2) : xDt) = D2
  have b1 : ∀ j, j ≠ 10 → j ≠ 11 → D2.1 192 j = D.1 192 j := fun j h1 h2 => by rw [← hD2]; dsimp only; rw [xup_nk _ _ _ _ _ h1, xup_nk _ _ _ _ _ h2, q1 192 (by omega) (by omega)]
  have b2 : ∀ x, x ≠ 192 → D2.1 x = D1.1 x := fun x h1 => by rw [← hD2]; dsimp only; rw [xup_ne _ _ _ _ h1, xup_ne _ _ _ _ h1]
  have gc : cg sg D2 := ⟨by rw [b1 1 (by omega) (by omega)]; exact g1, by rw [b2 193 (by omega), q1 193 (by omega) (by omega)]; exact g2⟩
  have e115 : f_X6_takeOne_115 F P xS0 192 v 192 D1 = some (1, (xup D2.1 192 12 (nI (sk sg (p + 1))), D2.2)) := by
    rw [e_X6_takeOne_115, hvb, xgrd_t]
    simp only [xlet]
    rw [xup_nk _ _ _ _ _ (show 10 ≠ 11 by omega), q1 192 (by omega) (by omega), h.2, nI_1, hD2, show xup (xup D1.1 192 11 v) 192 10 (nI (b + 1)) 192 12 = nI p by rw [xup_nk _ _ _ _ _ (by omega), xup_nk _ _ _ _ _ (by omega), q1 192 (by omega) (by omega)]; exact h12, nI_1, E_cts hN hs hF (by omega) gc]
    rfl
  refine ⟨(xup D2.1 192 12 (nI (sk sg (p + 1))), D2.2), ?_, ⟨⟨?_, ?_⟩, ?_, ?_, ?_, ?_, by simp; omega, s2, s3, ?_, ?_, hd⟩, ?_, ?_, ?_⟩
  · rw [e_X6_takeOne_94, e1, Option.bind_some, ← e115, ← hv]
    by_cases c1 : c = 126
    · rw [if_pos (show nI c = 126 by rw [c1]; rfl), if_pos c1]
    · rw [if_neg (show ¬ nI c = 126 from nI_nk (k := 126) hc (by omega) c1), if_neg c1]
  all_goals try dsimp only
  · rw [xup_nk _ _ _ _ _ (by omega)]; exact gc.1
  · rw [xup_ne _ _ _ _ (by omega)]; exact gc.2
  · rw [xup_nk _ _ _ _ _ (by omega), b1 9 (by omega) (by omega)]; exact h9
  · rw [xup_at]
  · rw [xup_na _ _ _ _ _ (by omega), b2 194 (by omega)]; exact a1
  · rw [xup_ne _ _ _ _ (by omega), b2 195 (by omega)]; exact a2
  · rw [xup_na _ _ _ _ _ (by omega), b2 196 (by omega), q1 196 (by omega) (by omega)]; exact h196
  · rw [xup_na _ _ _ _ _ (by omega), b2 201 (by omega), q1 201 (by omega) (by omega)]; exact h201
  · rw [xup_nk _ _ _ _ _ (by omega), ← hD2]; dsimp only; rw [xup_nk _ _ _ _ _ (by omega), xup_at]
  · rw [xup_nk _ _ _ _ _ (by omega), ← hD2]; dsimp only; rw [xup_at]
  · rw [← hD2]
    exact cfr_192 (D' := (xup (xup D1.1 192 11 v) 192 10 (nI (b + 1)), D1.2)) (cfr_192 (D' := (xup D1.1 192 11 v, D1.2)) (cfr_192 (cfr_dr (cfr_rfl _ _ _) a3)))
/-- a bracket opens -/
theorem O_enter {sg : List Nat} (hN : sg.length ≤ 200) (hs : ∀ x, x ∈ sg → 32 ≤ x ∧ x ≤ 126) {F P b d p : Nat} (hF : 10000 < F) {D : xDt} {L : List Nat} {c : Nat} (h0 : cb sg D d p L) (h : wn D b) (hp : p < sg.length) (hd15 : d < 15) (hcc : c = 41 ∨ c = 93 ∨ c = 125) : ∃ D', f_X6_takeOpening_26 F P xS0 192 (nI c) D = some (1, D') ∧ cb sg D' (d + 1) (sk sg (p + 1)) L ∧ wn D' 0 ∧ D'.1 196 (d + 1) = nI c ∧ D'.1 200 (d + 1) = nI b ∧ D'.1 201 (d + 1) = 0 ∧ D'.1 197 (d + 1) = nI L.length ∧ D'.1 198 (d + 1) = nI L.length ∧ D'.1 199 (d + 1) = nI L.length ∧ cfr d [] D D' := by
  obtain ⟨⟨g1, g2⟩, h9, h12, h194, h195, hl150, hpN, hsp, h196, h201, hd⟩ := h0
  obtain ⟨s1, s2, s3⟩ := sk_p (sg := sg) (p := p + 1) (by omega)
  obtain ⟨D1, e1, a1, a2, a3, a4, a5, a6, a7, a8, a9, a10, a11, a12⟩ := E_enter (F := F) (P := P) (D := D) (e := d + 1) (c := c) (by rw [h9, nI_1]) (by omega) (by omega)
  have gc : cg sg D1 := ⟨by rw [a4 1 (by omega) (by omega) (by omega)]; exact g1, by rw [a12.1 193 (by decide)]; exact g2⟩
  have q1 : D1.1 194 = D.1 194 := a12.1 194 (by decide)
  have q2 : D1.1 195 = D.1 195 := a12.1 195 (by decide)
  refine ⟨(xup D1.1 192 12 (nI (sk sg (p + 1))), D1.2), ?_, ⟨⟨?_, ?_⟩, ?_, ?_, ?_, ?_, hl150, s2, s3, ?_, ?_, by omega⟩, ⟨?_, ?_⟩, ?_, ?_, ?_, ?_, ?_, ?_, ?_⟩
  · rw [e_X6_takeOpening_26, e1, Option.bind_some, a4 12 (by omega) (by omega) (by omega), h12, nI_1, E_cts hN hs hF (by omega) gc]
    rfl
  all_goals try dsimp only
  · rw [xup_nk _ _ _ _ _ (by omega)]; exact gc.1
  · rw [xup_ne _ _ _ _ (by omega)]; exact gc.2
  · rw [xup_nk _ _ _ _ _ (by omega)]; exact a1
  · rw [xup_at]
  · rw [xup_na _ _ _ _ _ (by omega), q1]; exact h194
  · rw [xup_ne _ _ _ _ (by omega), q2]; exact h195
  · rw [xup_na _ _ _ _ _ (by omega), a5]
    rcases hcc with rfl | rfl | rfl
    · exact Or.inr (Or.inl rfl)
    · exact Or.inr (Or.inr (Or.inl rfl))
    · exact Or.inr (Or.inr (Or.inr rfl))
  · rw [xup_na _ _ _ _ _ (by omega), a7]; exact Or.inl rfl
  · rw [xup_nk _ _ _ _ _ (by omega)]; exact a3
  · rw [xup_nk _ _ _ _ _ (by omega)]; exact a2
  · rw [xup_na _ _ _ _ _ (by omega)]; exact a5
  · rw [xup_na _ _ _ _ _ (by omega), a6]; exact h.2
  · rw [xup_na _ _ _ _ _ (by omega)]; exact a7
  · rw [xup_na _ _ _ _ _ (by omega), a8]; exact h194
  · rw [xup_na _ _ _ _ _ (by omega), a9]; exact h194
  · rw [xup_na _ _ _ _ _ (by omega), a10]; exact h194
  · refine cfr_192 ⟨ch_mono a12 (fun x hx => by simp at hx ⊢; omega) (fun _ h => h), fun x hx hx2 j hj => a11 x hx hx2 j (by omega)⟩
theorem O_open {sg : List Nat} (hN : sg.length ≤ 200) (hs : ∀ x, x ∈ sg → 32 ≤ x ∧ x ≤ 126) {F P b d p : Nat} (hF : 10000 < F) {D : xDt} {L : List Nat} {c : Nat} (h0 : cb sg D d p L) (hb : b ≤ 30) (h : wn D b) (hp : p < sg.length) (hcc : c = 40 ∨ c = 91 ∨ c = 123) (hl : c ≠ 40 → L.length < 150) : (15 ≤ d → f_X6_takeOne F P xS0 192 (nI c) D = some (0, D)) ∧ (d < 15 → ∃ D', f_X6_takeOne F P xS0 192 (nI c) D = some (1, D') ∧ cb sg D' (d + 1) (sk sg (p + 1)) (L ++ if c = 40 then [] else [c]) ∧ wn D' 0 ∧ D'.1 196 (d + 1) = nI (if c = 40 then 41 else c + 2) ∧ D'.1 200 (d + 1) = nI b ∧ D'.1 201 (d + 1) = 0 ∧ D'.1 197 (d + 1) = nI (L ++ if c = 40 then [] else [c]).length ∧ D'.1 198 (d + 1) = nI (L ++ if c = 40 then [] else [c]).length ∧ D'.1 199 (d + 1) = nI (L ++ if c = 40 then [] else [c]).length ∧ cfr d [] D D') := by
  have h9 := h0.2.1
  have hd := h0.2.2.2.2.2.2.2.2.2.2
  by_cases c0 : c = 40
  · have e0 : f_X6_takeOne F P xS0 192 (nI c) D = (f_X6_takeOpening F P xS0 192 (nI c) 41 D).bind fun q6 => xgrd (xb q6.1) (some (q6.1, q6.2)) := by
      rw [e_X6_takeOne, h.2, if_pos (show nI b ≤ 30 from (nI_leI (b := 30) (by omega) (by omega)).mpr hb), if_pos (show nI c = 40 by rw [c0]; rfl)]
    constructor
    · intro hd15
      rw [e0, e_X6_takeOpening, h9, if_neg (show ¬ nI d < 15 from fun q => absurd q (Int32.not_lt.mpr ((nI_leI (a := 15) (by omega) (by omega)).mpr hd15))), Option.bind_some]
      rfl
    · intro hd15
      obtain ⟨D', e1, r⟩ := O_enter (F := F) (P := P) (c := 41) hN hs hF h0 h hp hd15 (by omega)
      refine ⟨D', ?_, ?_⟩
      · rw [e0, e_X6_takeOpening, h9, if_pos (show nI d < 15 from nI_lt (b := 15) hd15 (by omega)), if_pos (show nI c = 40 by rw [c0]; rfl), show f_X6_takeOpening_26 F P xS0 192 41 D = some (1, D') from e1, Option.bind_some]
        rfl
      · rw [if_pos c0, if_pos c0, List.append_nil]
        exact r
  · have hl' := hl c0
    have e0 : ∀ e, e = c + 2 → f_X6_takeOne_62 F P xS0 (nI e) (nI c) 192 D = f_X6_takeOne F P xS0 192 (nI c) D := by
      rintro e rfl
      rw [O_rest h0 hb h (by omega) c0 hl']
      by_cases c1 : c = 91
      · rw [if_pos c1, c1]
        rfl
      · rw [if_neg c1, if_pos (by omega), show c = 123 by omega]
        rfl
    have e2 : f_X6_takeOne_62 F P xS0 (nI (c + 2)) (nI c) 192 D = (f_X6_takeOpening F P xS0 192 (nI c) (nI (c + 2)) D).bind fun q1 => xgrd (xb q1.1) (some (q1.1, q1.2)) := rfl
    rw [← e0 (c + 2) rfl, e2]
    constructor
    · intro hd15
      rw [e_X6_takeOpening, h9, if_neg (show ¬ nI d < 15 from fun q => absurd q (Int32.not_lt.mpr ((nI_leI (a := 15) (by omega) (by omega)).mpr hd15))), Option.bind_some]
      rfl
    · intro hd15
      obtain ⟨⟨g1, g2⟩, h9, h12, h194, h195, hl150, hpN, hsp, h196, h201, hd⟩ := id h0
      obtain ⟨D1, e1, a1, a2, a3⟩ := E_cadd (F := F) (P := P) (c := c) h194 h195 hl'
      have q1 : ∀ x, x ≠ 194 → x ≠ 195 → D1.1 x = D.1 x := fun x h1 h2 => a3.1 x (by simp; omega)
      have h1 : cb sg D1 d p (L ++ [c]) := ⟨⟨by rw [q1 192 (by omega) (by omega)]; exact g1, by rw [q1 193 (by omega) (by omega)]; exact g2⟩, by rw [q1 192 (by omega) (by omega)]; exact h9, by rw [q1 192 (by omega) (by omega)]; exact h12, a1, a2, by simp; omega, hpN, hsp, by rw [q1 196 (by omega) (by omega)]; exact h196, by rw [q1 201 (by omega) (by omega)]; exact h201, hd⟩
      obtain ⟨D', e3, r⟩ := O_enter (F := F) (P := P) (c := c + 2) hN hs hF h1 ⟨by rw [q1 192 (by omega) (by omega)]; exact h.1, by rw [q1 192 (by omega) (by omega)]; exact h.2⟩ hp hd15 (by omega)
      refine ⟨D', ?_, ?_⟩
      · rw [e_X6_takeOpening, h9, if_pos (show nI d < 15 from nI_lt (b := 15) hd15 (by omega)), if_neg (show ¬ nI c = 40 from nI_nk (k := 40) (by omega) (by omega) c0), e1, Option.bind_some, e3, Option.bind_some]
        rfl
      · rw [if_neg c0, if_neg c0]
        obtain ⟨r1, r2, r3, r4, r5, r6, r7, r8, r9⟩ := r
        exact ⟨r1, r2, r3, r4, r5, r6, r7, r8, cfr_trans (cfr_dr (cfr_rfl _ _ _) a3) r9⟩
