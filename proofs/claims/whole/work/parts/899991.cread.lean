/-! formula: a sign taken by the class -/
theorem E_cJoin {F P : Nat} {D : xDt} {c : Nat} (hc : c < 128) : f_X11_isJoin F P xS0 (nI c) D = some (if c = 61 ∨ c = 62 ∨ c = 124 ∨ c = 38 then 1 else 0, D) := by
  have n : ∀ k, k < 128 → c ≠ k → ¬ nI c = nI k := fun k hk h q => h ((nI_eq (by omega) (by omega)).mp q)
  unfold f_X11_isJoin f_X11_isJoin_24
  by_cases c1 : c = 61
  · rw [if_pos (show nI c = 61 by rw [c1]; rfl), if_pos (by omega)]
  rw [if_neg (show ¬ nI c = 61 from n 61 (by omega) c1)]
  by_cases c2 : c = 62
  · rw [if_pos (show nI c = 62 by rw [c2]; rfl), if_pos (by omega)]
  rw [if_neg (show ¬ nI c = 62 from n 62 (by omega) c2)]
  by_cases c3 : c = 124
  · rw [if_pos (show nI c = 124 by rw [c3]; rfl), if_pos (by omega)]
  rw [if_neg (show ¬ nI c = 124 from n 124 (by omega) c3)]
  by_cases c4 : c = 38
  · rw [if_pos (show nI c = 38 by rw [c4]; rfl), if_pos (by omega)]
  rw [if_neg (show ¬ nI c = 38 from n 38 (by omega) c4), if_neg (by omega)]
theorem nI_nk {c k : Nat} (hc : c < 128) (hk : k < 128) (h : c ≠ k) : ¬ nI c = nI k := fun q => h ((nI_eq (by omega) (by omega)).mp q)
/-- a join changes its level so -/
def jff (c d n : Nat) (D D1 : xDt) : Prop := ch [192, 194, 195, 196, 197, 198, 199, 200, 201] [] D D1 ∧ (∀ x, 196 ≤ x → x ≤ 201 → ∀ j, j ≠ d → D1.1 x j = D.1 x j) ∧ (∀ x, x = 196 ∨ x = 197 ∨ x = 200 → D1.1 x d = D.1 x d) ∧ D1.1 198 d = (if c = 61 ∨ c = 62 then nI (n + 1) else D.1 198 d) ∧ D1.1 199 d = (if c = 38 then D.1 199 d else nI (n + 1)) ∧ D1.1 201 d = (if c = 61 then 1 else D.1 201 d)
theorem jff_cfr {c d n : Nat} {D D1 : xDt} {ex : List Nat} (h : jff c d n D D1) (h1 : c = 61 ∨ c = 62 → 198 ∈ ex) (h2 : c ≠ 38 → 199 ∈ ex) (h3 : c = 61 → 201 ∈ ex) : cfr d ex D D1 := by
  obtain ⟨a1, a2, a3, a4, a5, a6⟩ := h
  refine ⟨a1, fun x hx hx2 j hj => ?_⟩
  by_cases e : j = d
  · subst e
    have hne : x ∉ ex := (hj.resolve_left (by omega)).2
    have : x = 196 ∨ x = 197 ∨ x = 198 ∨ x = 199 ∨ x = 200 ∨ x = 201 := by omega
    rcases this with rfl | rfl | rfl | rfl | rfl | rfl
    · exact a3 _ (by omega)
    · exact a3 _ (by omega)
    · rw [a4, if_neg (fun q => hne (h1 q))]
    · rw [a5, if_pos (Decidable.not_not.mp (fun q => hne (h2 q)))]
    · exact a3 _ (by omega)
    · rw [a6, if_neg (fun q => hne (h3 q))]
  · exact a2 x hx hx2 j e
def ah (c d : Nat) (D : xDt) : Int32 := if c = 61 then D.1 197 d else if c = 38 then D.1 199 d else D.1 198 d
theorem E_j192 {F P d : Nat} {D : xDt} {x : Int32} (hd : d ≤ 15) : f_X6_takeJoin_192 F P xS0 192 x (nI d) 199 D = some (1, (xup (xup (xup D.1 199 d x) 192 10 0) 192 11 1, D.2)) := by
  rw [e_X6_takeJoin_192, l195.2.2.2.1, xgrd_in (by omega) (by omega), nI_clamp (by omega)]
  simp only [xlet, e_X6_wantFirstOne, Option.bind_some]
theorem E_j158 {F P d n c : Nat} {D : xDt} {y : Int32} (hd : d ≤ 15) (hc : c < 128) (h9 : D.1 192 9 = nI d) (h1 : D.1 194 1 = nI n) : f_X6_takeJoin_158 F P xS0 192 (nI c) y (nI d) 198 D = some (1, (xup (xup (xup (xup D.1 198 d y) 199 d (if c = 38 then D.1 199 d else nI n)) 192 10 0) 192 11 1, D.2)) := by
  rw [e_X6_takeJoin_158, l195.2.2.1, xgrd_in (by omega) (by omega), nI_clamp (by omega)]
  simp only [xlet]
  by_cases c1 : c = 38
  · rw [if_pos (show nI c = 38 by rw [c1]; rfl), if_pos c1, xup_na _ _ _ _ _ (show 192 ≠ 198 by omega), h9, xgrd_in (by omega) (by omega), nI_clamp (by omega), xup_na _ _ _ _ _ (show 199 ≠ 198 by omega), E_j192 hd]
  · rw [if_neg (show ¬ nI c = 38 from nI_nk (k := 38) hc (by omega) c1), if_neg c1, xup_na _ _ _ _ _ (show 192 ≠ 198 by omega), h9, xup_na _ _ _ _ _ (show 194 ≠ 198 by omega), h1, E_j192 hd]
theorem E_j118 {F P d n c : Nat} {D : xDt} {z : Int32} (hd : d ≤ 15) (hc : c < 128) (h9 : D.1 192 9 = nI d) (h1 : D.1 194 1 = nI n) : f_X6_takeJoin_118 F P xS0 192 (nI c) z (nI d) 201 D = some (1, (xup (xup (xup (xup (xup D.1 201 d (z &&& 1)) 198 d (if c = 61 ∨ c = 62 then nI n else D.1 198 d)) 199 d (if c = 38 then D.1 199 d else nI n)) 192 10 0) 192 11 1, D.2)) := by
  rw [e_X6_takeJoin_118, l195.2.2.2.2, xgrd_in (by omega) (by omega), nI_clamp (by omega)]
  simp only [xlet]
  have e9 : xup D.1 201 d (z &&& 1) 192 9 = nI d := by rw [xup_na _ _ _ _ _ (by omega)]; exact h9
  have e1 : xup D.1 201 d (z &&& 1) 194 1 = nI n := by rw [xup_na _ _ _ _ _ (by omega)]; exact h1
  have e99 : xup D.1 201 d (z &&& 1) 199 d = D.1 199 d := by rw [xup_na _ _ _ _ _ (by omega)]
  have r : ∀ y, f_X6_takeJoin_158 F P xS0 192 (nI c) y (nI d) 198 (xup D.1 201 d (z &&& 1), D.2) = some (1, (xup (xup (xup (xup (xup D.1 201 d (z &&& 1)) 198 d y) 199 d (if c = 38 then D.1 199 d else nI n)) 192 10 0) 192 11 1, D.2)) := fun y => by
    rw [E_j158 (D := (xup D.1 201 d (z &&& 1), D.2)) hd hc e9 e1]
    dsimp only
    rw [e99]
  by_cases c1 : c = 61
  · rw [if_pos (show nI c = 61 by rw [c1]; rfl), e_X6_takeJoin_139, if_pos (show c = 61 ∨ c = 62 by omega)]
    dsimp only
    rw [e9, e1, r]
  by_cases c2 : c = 62
  · rw [if_neg (show ¬ nI c = 61 from nI_nk (k := 61) hc (by omega) c1), if_pos (show nI c = 62 by rw [c2]; rfl), e_X6_takeJoin_139, if_pos (show c = 61 ∨ c = 62 by omega)]
    dsimp only
    rw [e9, e1, r]
  rw [if_neg (show ¬ nI c = 61 from nI_nk (k := 61) hc (by omega) c1), if_neg (show ¬ nI c = 62 from nI_nk (k := 62) hc (by omega) c2), if_neg (show ¬ (c = 61 ∨ c = 62) by omega), e9, xgrd_in (by omega) (by omega), nI_clamp (by omega), r, xup_na _ _ _ _ _ (show 198 ≠ 201 by omega)]
theorem E_join {sg : List Nat} (hN : sg.length ≤ 200) (hs : ∀ x, x ∈ sg → 32 ≤ x ∧ x ≤ 126) {F P : Nat} (hF : 10000 < F) {D : xDt} {d p c : Nat} {A B : List Nat} (h : cb sg D d p (A ++ B)) (hc : c = 61 ∨ c = 62 ∨ c = 124 ∨ c = 38) (hp : sA sg p = c) (h61 : c = 61 → D.1 201 d = 0) (hah : ah c d D = nI A.length) (hl : (A ++ B).length < 150) : ∃ D', f_X6_takeBehindOne F P xS0 192 (nI c) D = some (1, D') ∧ cb sg D' d (sk sg (p + 1)) (A ++ c :: B) ∧ D'.1 192 11 = 1 ∧ D'.1 192 10 = 0 ∧ jff c d (A ++ B).length D D' := by
  obtain ⟨⟨g1, g2⟩, h9, h12, h194, h195, hl150, hpN, hsp, h196, h201, hd⟩ := h
  have hpl := sA_lt (sg := sg) (p := p) (by omega)
  obtain ⟨s1, s2, s3⟩ := sk_p (sg := sg) (p := p + 1) (by omega)
  obtain ⟨D1, e1, a1, a2, a3⟩ := E_ins (F := F) (P := P) (c := c) hF h194 h195 hl
  have q1 : ∀ x, x ≠ 194 → x ≠ 195 → D1.1 x = D.1 x := fun x h1 h2 => a3.1 x (by simp; omega)
  have hlen : (A ++ c :: B).length = (A ++ B).length + 1 := by simp; omega
  -- what the join writes
  generalize hD2 : ((xup (xup (xup (xup (xup D1.1 201 d (if c = 61 then 1 else D.1 201 d)) 198 d (if c = 61 ∨ c = 62 then nI (A ++ c :: B).length else D1.1 198 d)) 199 d (if c = 38 then D1.1 199 d else nI (A ++ c :: B).length)) 192 10 0) 192 11 1, D1.2) : xDt) = D2
  have e72 : f_X6_takeJoin_72 F P xS0 192 (nI c) (nI A.length) D = some (1, D2) := by
    rw [e_X6_takeJoin_72, e1, Option.bind_some, if_neg (show ¬ (1 : Int32) = 0 by decide)]
    dsimp only
    rw [q1 192 (by omega) (by omega), q1 201 (by omega) (by omega), h9, xgrd_in (by omega) (by omega), nI_clamp (by omega)]
    have h9' : D1.1 192 9 = nI d := by rw [q1 192 (by omega) (by omega)]; exact h9
    by_cases c1 : c = 61
    · rw [if_pos (h61 c1), if_pos (show nI c = 61 by rw [c1]; rfl), e_X6_takeJoin_113, E_j118 hd (by omega) h9' a1, ← hD2, if_pos c1]
      rfl
    · rcases h201 with z | z
      · rw [if_pos z, if_neg (show ¬ nI c = 61 from nI_nk (k := 61) (by omega) (by omega) c1), E_j118 hd (by omega) h9' a1, ← hD2, if_neg c1, z]
        rfl
      · rw [if_neg (by rw [z]; decide), e_X6_takeJoin_113, E_j118 hd (by omega) h9' a1, ← hD2, if_neg c1, z]
        rfl
  have e27 : f_X6_takeJoin_27 F P xS0 192 (nI c) D = some (1, D2) := by
    rw [e_X6_takeJoin_27, h9, xgrd_in (by omega) (by omega), xgrd_in (by omega) (by omega), xgrd_in (by omega) (by omega), nI_clamp (by omega), ← e72, ← hah]
    unfold ah
    by_cases c1 : c = 61
    · rw [if_pos (show nI c = 61 by rw [c1]; rfl), if_pos c1]
    rw [if_neg (show ¬ nI c = 61 from nI_nk (k := 61) (by omega) (by omega) c1), if_neg c1]
    by_cases c2 : c = 38
    · rw [if_pos (show nI c = 38 by rw [c2]; rfl), if_pos c2]
    rw [if_neg (show ¬ nI c = 38 from nI_nk (k := 38) (by omega) (by omega) c2), if_neg c2]
  have ej : f_X6_takeJoin F P xS0 192 (nI c) D = some (1, D2) := by
    rw [e_X6_takeJoin, E_cJoin (by omega), if_pos hc, Option.bind_some, if_neg (show ¬ (1 : Int32) = 0 by decide)]
    dsimp only
    rw [h9, xgrd_in (by omega) (by omega), nI_clamp (by omega), e27]
    by_cases c1 : c = 61
    · rw [if_pos (show nI c = 61 by rw [c1]; rfl), if_pos (h61 c1)]
    · rw [if_neg (show ¬ nI c = 61 from nI_nk (k := 61) (by omega) (by omega) c1)]
  have b1 : ∀ j, j ≠ 10 → j ≠ 11 → D2.1 192 j = D.1 192 j := fun j h1 h2 => by rw [← hD2]; dsimp only; rw [xup_nk _ _ _ _ _ h2, xup_nk _ _ _ _ _ h1, xup_na _ _ _ _ _ (by omega), xup_na _ _ _ _ _ (by omega), xup_na _ _ _ _ _ (by omega), q1 192 (by omega) (by omega)]
  have b2 : ∀ x, x ≠ 192 → x ≠ 198 → x ≠ 199 → x ≠ 201 → D2.1 x = D1.1 x := fun x h1 h2 h3 h4 => by rw [← hD2]; dsimp only; rw [xup_ne _ _ _ _ h1, xup_ne _ _ _ _ h1, xup_ne _ _ _ _ h3, xup_ne _ _ _ _ h2, xup_ne _ _ _ _ h4]
  have b3 : D2.1 192 10 = 0 ∧ D2.1 192 11 = 1 := by rw [← hD2]; dsimp only; exact ⟨by rw [xup_nk _ _ _ _ _ (by omega), xup_at], by rw [xup_at]⟩
  have b4 : ∀ x, x ≠ 192 → x ≠ 194 → x ≠ 195 → ∀ j, j ≠ d → D2.1 x j = D.1 x j := fun x h1 h2 h3 j hj => by rw [← hD2]; dsimp only; rw [xup_na _ _ _ _ _ h1, xup_na _ _ _ _ _ h1, xup_nk _ _ _ _ _ hj, xup_nk _ _ _ _ _ hj, xup_nk _ _ _ _ _ hj, q1 x h2 h3]
  have b5 : D2.1 198 d = (if c = 61 ∨ c = 62 then nI ((A ++ B).length + 1) else D.1 198 d) ∧ D2.1 199 d = (if c = 38 then D.1 199 d else nI ((A ++ B).length + 1)) ∧ D2.1 201 d = (if c = 61 then 1 else D.1 201 d) := by
    rw [← hD2, hlen]
    dsimp only
    refine ⟨?_, ?_, ?_⟩
    · rw [xup_na _ _ _ _ _ (by omega), xup_na _ _ _ _ _ (by omega), xup_na _ _ _ _ _ (by omega), xup_at, q1 198 (by omega) (by omega)]
    · rw [xup_na _ _ _ _ _ (by omega), xup_na _ _ _ _ _ (by omega), xup_at, q1 199 (by omega) (by omega)]
    · rw [xup_na _ _ _ _ _ (by omega), xup_na _ _ _ _ _ (by omega), xup_na _ _ _ _ _ (by omega), xup_na _ _ _ _ _ (by omega), xup_at]
  have b6 : ch [192, 194, 195, 196, 197, 198, 199, 200, 201] [] D D2 := by
    refine ⟨fun x hx => ?_, fun x _ => ?_⟩
    · simp only [List.mem_cons, List.not_mem_nil, or_false, not_or] at hx
      rw [b2 x hx.1 (by omega) (by omega) (by omega), q1 x (by omega) (by omega)]
    · rw [← hD2]; exact a3.2 x (by simp)
  have gc : cg sg D2 := ⟨by rw [b1 1 (by omega) (by omega)]; exact g1, by rw [b2 193 (by omega) (by omega) (by omega) (by omega), q1 193 (by omega) (by omega)]; exact g2⟩
  refine ⟨(xup D2.1 192 12 (nI (sk sg (p + 1))), D2.2), ?_, ⟨⟨?_, ?_⟩, ?_, ?_, ?_, ?_, by omega, s2, s3, ?_, ?_, hd⟩, ?_, ?_, ⟨ch_i (by simp) b6, fun x hx hx2 j hj => ?_, fun x hx => ?_, ?_, ?_, ?_⟩⟩
  · rw [e_X6_takeBehindOne, h9, xgrd_in (by omega) (by omega), nI_clamp (by omega), if_neg, ej, Option.bind_some, e_X6_takeBehindOne_26, if_neg (show ¬ (1 : Int32) = 0 by decide)]
    · dsimp only
      rw [b1 12 (by omega) (by omega), h12, nI_1, E_cts hN hs hF (by omega) gc]
      rfl
    · rcases h196 with z | z | z | z <;> rw [z] <;> exact nI_nk (by omega) (by omega) (by omega)
  all_goals dsimp only
  · rw [xup_nk _ _ _ _ _ (by omega)]; exact gc.1
  · rw [xup_ne _ _ _ _ (by omega)]; exact gc.2
  · rw [xup_nk _ _ _ _ _ (by omega), b1 9 (by omega) (by omega)]; exact h9
  · rw [xup_at]
  · rw [xup_na _ _ _ _ _ (by omega), b2 194 (by omega) (by omega) (by omega) (by omega)]; exact a1
  · rw [xup_ne _ _ _ _ (by omega), b2 195 (by omega) (by omega) (by omega) (by omega)]; exact a2
  · rw [xup_na _ _ _ _ _ (by omega), b2 196 (by omega) (by omega) (by omega) (by omega), q1 196 (by omega) (by omega)]; exact h196
  · rw [xup_na _ _ _ _ _ (by omega), b5.2.2]
    by_cases c1 : c = 61
    · rw [if_pos c1]; exact Or.inr rfl
    · rw [if_neg c1]; exact h201
  · rw [xup_nk _ _ _ _ _ (by omega)]; exact b3.2
  · rw [xup_nk _ _ _ _ _ (by omega)]; exact b3.1
  · rw [xup_na _ _ _ _ _ (by omega), b4 x (by omega) (by omega) (by omega) j hj]
  · rw [xup_na _ _ _ _ _ (by omega), b2 x (by omega) (by omega) (by omega) (by omega), q1 x (by omega) (by omega)]
  · rw [xup_na _ _ _ _ _ (by omega)]; exact b5.1
  · rw [xup_na _ _ _ _ _ (by omega)]; exact b5.2.1
  · rw [xup_na _ _ _ _ _ (by omega)]; exact b5.2.2
/-- a sign that can't come behind -/
theorem E_rej {sg : List Nat} {F P : Nat} {D : xDt} {d p c : Nat} {L : List Nat} (h : cb sg D d p L) (hc : c < 128) (h1 : c ≠ 38 ∧ c ≠ 124 ∧ c ≠ 62) (h61 : c = 61 → D.1 201 d = 1) (hcl : ¬ nI c = D.1 196 d) : f_X6_takeBehindOne F P xS0 192 (nI c) D = some (0, D) := by
  obtain ⟨⟨g1, g2⟩, h9, h12, h194, h195, hl150, hpN, hsp, h196, h201, hd⟩ := h
  have ej : f_X6_takeJoin F P xS0 192 (nI c) D = some (0, D) := by
    rw [e_X6_takeJoin, E_cJoin hc, Option.bind_some]
    by_cases c1 : c = 61
    · rw [if_pos (show c = 61 ∨ c = 62 ∨ c = 124 ∨ c = 38 by omega), if_neg (show ¬ (1 : Int32) = 0 by decide), if_pos (show nI c = 61 by rw [c1]; rfl)]
      dsimp only
      rw [h9, xgrd_in (by omega) (by omega), nI_clamp (by omega), if_neg (by rw [h61 c1]; decide)]
    · rw [if_neg (show ¬ (c = 61 ∨ c = 62 ∨ c = 124 ∨ c = 38) by omega), if_pos rfl]
  rw [e_X6_takeBehindOne, h9, xgrd_in (by omega) (by omega), nI_clamp (by omega), if_neg hcl, ej, Option.bind_some, e_X6_takeBehindOne_26, if_pos rfl]
  rfl
/-- a join for which there is no room -/
theorem E_jful {sg : List Nat} {F P : Nat} {D : xDt} {d p c a : Nat} {L : List Nat} (h : cb sg D d p L) (hc : c = 61 ∨ c = 62 ∨ c = 124 ∨ c = 38) (h61 : c = 61 → D.1 201 d = 0) (hah : ah c d D = nI a) (ha : a ≤ L.length) (hl : 150 ≤ L.length) : f_X6_takeBehindOne F P xS0 192 (nI c) D = some (0, D) := by
  obtain ⟨⟨g1, g2⟩, h9, h12, h194, h195, hl150, hpN, hsp, h196, h201, hd⟩ := h
  have e72 : f_X6_takeJoin_72 F P xS0 192 (nI c) (nI a) D = some (0, D) := by
    rw [e_X6_takeJoin_72, E_ins0 h194 hl (by omega) ha, Option.bind_some, if_pos rfl]
  have e27 : f_X6_takeJoin_27 F P xS0 192 (nI c) D = some (0, D) := by
    rw [e_X6_takeJoin_27, h9, xgrd_in (by omega) (by omega), xgrd_in (by omega) (by omega), xgrd_in (by omega) (by omega), nI_clamp (by omega), ← e72, ← hah]
    unfold ah
    by_cases c1 : c = 61
    · rw [if_pos (show nI c = 61 by rw [c1]; rfl), if_pos c1]
    rw [if_neg (show ¬ nI c = 61 from nI_nk (k := 61) (by omega) (by omega) c1), if_neg c1]
    by_cases c2 : c = 38
    · rw [if_pos (show nI c = 38 by rw [c2]; rfl), if_pos c2]
    rw [if_neg (show ¬ nI c = 38 from nI_nk (k := 38) (by omega) (by omega) c2), if_neg c2]
  have ej : f_X6_takeJoin F P xS0 192 (nI c) D = some (0, D) := by
    rw [e_X6_takeJoin, E_cJoin (by omega), if_pos hc, Option.bind_some, if_neg (show ¬ (1 : Int32) = 0 by decide)]
    dsimp only
    rw [h9, xgrd_in (by omega) (by omega), nI_clamp (by omega), e27]
    by_cases c1 : c = 61
    · rw [if_pos (show nI c = 61 by rw [c1]; rfl), if_pos (h61 c1)]
    · rw [if_neg (show ¬ nI c = 61 from nI_nk (k := 61) (by omega) (by omega) c1)]
  rw [e_X6_takeBehindOne, h9, xgrd_in (by omega) (by omega), nI_clamp (by omega), if_neg, ej, Option.bind_some, e_X6_takeBehindOne_26, if_pos rfl]
  · rfl
  · rcases h196 with z | z | z | z <;> rw [z] <;> exact nI_nk (by omega) (by omega) (by omega)
/-- out of a bracket -/
theorem E_leave {sg : List Nat} (hN : sg.length ≤ 200) (hs : ∀ x, x ∈ sg → 32 ≤ x ∧ x ≤ 126) {F P : Nat} (hF : 10000 < F) {D : xDt} {e p c o : Nat} {L : List Nat} (h : cb sg D (e + 1) p L) (hp : sA sg p = c) (hc : c = 41 ∨ c = 93 ∨ c = 125) (hcl : D.1 196 (e + 1) = nI c) (ho : D.1 200 (e + 1) = nI o) : ∃ D', f_X6_takeBehindOne F P xS0 192 (nI c) D = some (1, D') ∧ D'.1 192 9 = nI e ∧ D'.1 192 10 = nI (o + 1) ∧ D'.1 192 11 = (if c = 41 then 0 else 1) ∧ D'.1 192 12 = nI (sk sg (p + 1)) ∧ cg sg D' ∧ ch [192] [] D D' := by
  obtain ⟨⟨g1, g2⟩, h9, h12, h194, h195, hl150, hpN, hsp, h196, h201, hd⟩ := h
  have hpl := sA_lt (sg := sg) (p := p) (by omega)
  generalize hD2 : ((xup (xup (xup D.1 192 11 (if c = 41 then 0 else 1)) 192 10 (nI (o + 1))) 192 9 (nI e), D.2) : xDt) = D2
  have e21 : ∀ v : Int32, v = (if c = 41 then 0 else 1) → f_X6_leave_21 F P xS0 192 v 192 D = some (1, D2) := by
    rintro v rfl
    have hb : xb (if c = 41 then 0 else 1) = true := by split <;> decide
    rw [e_X6_leave_21, hb, xgrd_t]
    simp only [xlet]
    rw [xup_nk _ _ _ _ _ (show 9 ≠ 11 by omega), h9, xgrd_in (by omega) (by omega), nI_clamp (by omega), xup_na _ _ _ _ _ (show 200 ≠ 192 by omega), ho, nI_1, xup_nk _ _ _ _ _ (show 9 ≠ 10 by omega), xup_nk _ _ _ _ _ (show 9 ≠ 11 by omega), h9, nI_s1 (by omega), Nat.add_sub_cancel, hD2]
  have el : f_X6_leave F P xS0 192 (nI c) D = some (1, D2) := by
    rw [e_X6_leave, h9, if_neg (fun q => absurd ((nI_eq0 (by omega)).mp q) (by omega))]
    by_cases c1 : c = 41
    · rw [if_pos (show nI c = 41 by rw [c1]; rfl), e21 0 (by rw [if_pos c1])]
    · rw [if_neg (show ¬ nI c = 41 from nI_nk (k := 41) (by omega) (by omega) c1), e21 1 (by rw [if_neg c1])]
  have gc : cg sg D2 := ⟨by rw [← hD2]; dsimp only; rw [xup_nk _ _ _ _ _ (by omega), xup_nk _ _ _ _ _ (by omega), xup_nk _ _ _ _ _ (by omega)]; exact g1, by rw [← hD2]; dsimp only; rw [xup_ne _ _ _ _ (by omega), xup_ne _ _ _ _ (by omega), xup_ne _ _ _ _ (by omega)]; exact g2⟩
  refine ⟨(xup D2.1 192 12 (nI (sk sg (p + 1))), D2.2), ?_, ?_, ?_, ?_, ?_, ⟨?_, ?_⟩, ?_⟩
  · rw [e_X6_takeBehindOne, h9, xgrd_in (by omega) (by omega), nI_clamp (by omega), if_pos hcl.symm, el, Option.bind_some, e_X6_takeBehindOne_26, if_neg (show ¬ (1 : Int32) = 0 by decide)]
    dsimp only
    rw [show D2.1 192 12 = nI p by rw [← hD2]; dsimp only; rw [xup_nk _ _ _ _ _ (by omega), xup_nk _ _ _ _ _ (by omega), xup_nk _ _ _ _ _ (by omega)]; exact h12, nI_1, E_cts hN hs hF (by omega) gc]
    rfl
  all_goals try dsimp only
  · rw [xup_nk _ _ _ _ _ (by omega), ← hD2]; dsimp only; rw [xup_at]
  · rw [xup_nk _ _ _ _ _ (by omega), ← hD2]; dsimp only; rw [xup_nk _ _ _ _ _ (by omega), xup_at]
  · rw [xup_nk _ _ _ _ _ (by omega), ← hD2]; dsimp only; rw [xup_nk _ _ _ _ _ (by omega), xup_nk _ _ _ _ _ (by omega), xup_at]
  · rw [xup_at]
  · rw [xup_nk _ _ _ _ _ (by omega)]; exact gc.1
  · rw [xup_ne _ _ _ _ (by omega)]; exact gc.2
  · rw [← hD2]
    exact ch_i (D' := (xup (xup (xup D.1 192 11 (if c = 41 then 0 else 1)) 192 10 (nI (o + 1))) 192 9 (nI e), D.2)) (by simp) (ch_i (D' := (xup (xup D.1 192 11 (if c = 41 then 0 else 1)) 192 10 (nI (o + 1)), D.2)) (by simp) (ch_i (D' := (xup D.1 192 11 (if c = 41 then 0 else 1), D.2)) (by simp) (ch_i (by simp) (ch_rfl _ _ _))))
