/-! reduce: whether a sort stands in a formula; the reference's answer -/
def tha (p : Nat → Bool) : T → Bool
  | .leaf => false
  | .inner s _ _ l r => p s || tha p l || tha p r
theorem E_mhas {F P lo : Nat} {bits : Int32} {p : Nat → Bool} (hp : ∀ s, s < 16 → ((jishr bits (nI s)) &&& 1 = 1 ↔ p s = true)) {D : xDt} : ∀ (t : T) (i n : Nat), wfT t → nd D.1 lo t i → sz t < n → f_X12_has F P xS0 n 241 (nI i) bits D = some (if tha p t = true then 1 else 0, D)
  | .leaf, _, _, h, _, _ => absurd h (by simp [wfT])
  | .inner s m () l r, i, 0, _, _, h => absurd h (by omega)
  | .inner s m () l r, i, n + 1, hw, hd, hn => by
    obtain ⟨w1, w2, w3, w4⟩ := id hw
    obtain ⟨d1, d2, d3, d4, d5, d6, d7⟩ := id hd
    rw [sz] at hn
    have h37 : (if tha p r = true then (1 : Int32) else 0) = (if tha p r = true then 1 else 0) := rfl
    have e37 : f_X12_has_37 F P xS0 (f_X12_has F P xS0 n) 241 (nI i) bits D = some (if tha p r = true then 1 else 0, D) := by
      rw [e_X12_has_37, xgrd_in (by omega) (by omega), nI_clamp (by omega)]
      rcases d7 with ⟨rfl, e7⟩ | ⟨i2, hi2, e7, d7⟩
      · rw [e7, if_pos (by decide)]
        rfl
      · rw [e7, if_neg (nI_pos (by have := (nd_ge d7).2; omega)), xgrd_in (by omega) (by omega)]
        have wr : wfT r := by
          rcases w4 with ⟨_, _, rfl⟩ | ⟨_, _, _, rfl⟩ | ⟨_, _, wr⟩
          · exact absurd d7 (by simp [nd])
          · exact absurd d7 (by simp [nd])
          · exact wr
        rw [E_mhas hp r i2 n wr d7 (by omega), Option.bind_some]
        by_cases c : tha p r = true
        · rw [if_pos c, if_neg (show ¬ (1 : Int32) = 0 by decide)]; rfl
        · rw [if_neg c, if_pos rfl]; rfl
    show f_X12_has_o F P xS0 (f_X12_has F P xS0 n) 241 (nI i) bits D = _
    rw [e_X12_has_o, xgrd_in (by omega) (by omega), nI_clamp (by omega), d3, tha]
    by_cases c1 : p s = true
    · rw [if_pos ((hp s (by omega)).mpr c1), c1]
      rfl
    rw [if_neg (fun q => c1 ((hp s (by omega)).mp q)), xgrd_in (by omega) (by omega), Bool.eq_false_iff.mpr c1, Bool.false_or, e37]
    rcases d6 with ⟨rfl, e6⟩ | ⟨i1, hi1, e6, d6⟩
    · rw [e6, if_pos (by decide)]
      rfl
    · rw [e6, if_neg (nI_pos (by have := (nd_ge d6).2; omega)), xgrd_in (by omega) (by omega)]
      have wl : wfT l := by
        rcases w4 with ⟨_, rfl, _⟩ | ⟨_, _, wl, _⟩ | ⟨_, wl, _⟩
        · exact absurd d6 (by simp [nd])
        · exact wl
        · exact wl
      rw [E_mhas hp l i1 n wl d6 (by omega), Option.bind_some]
      by_cases c : tha p l = true
      · rw [if_pos c, if_neg (show ¬ (1 : Int32) = 0 by decide), c]; rfl
      · rw [if_neg c, if_pos rfl, Bool.eq_false_iff.mpr c]
        dsimp only
        rw [e37, Bool.false_or]
def isE (s : Nat) : Bool := decide (7 ≤ s) && decide (s ≤ 9)
theorem isE_b : ∀ s, s < 16 → ((jishr 896 (nI s)) &&& 1 = 1 ↔ isE s = true) := by decide +kernel
theorem tnE_iff : ∀ {t : T}, tha isE t = false ↔ tnE t
  | .leaf => ⟨fun _ => trivial, fun _ => rfl⟩
  | .inner s m () l r => by
    rw [tha, tnE, ← tnE_iff (t := l), ← tnE_iff (t := r)]
    unfold isE
    simp only [Bool.or_eq_false_iff, Bool.and_eq_false_iff, decide_eq_false_iff_not]
    constructor
    · rintro ⟨⟨a, b⟩, c⟩; exact ⟨by omega, b, c⟩
    · rintro ⟨a, b, c⟩; exact ⟨⟨by omega, b⟩, c⟩
/-- the reference's answer -/
theorem E_mreduce {F P : Nat} (hF : 10000 < F) (hP : 2005 < P) {D : xDt} {t : T} {i : Nat} (hw : wfT t) (hz : sz t ≤ 2000) (hp : sz t ≤ 150 ∨ plT t) (hi : i < 2000) (h14 : D.1 241 14 = nI i) (hd : nd D.1 0 t i) : (¬ tnE t → f_X12_reduce F P xS0 241 D = some (-1, D)) ∧ (tnE t → (2000 < sz (trd t) → ∃ D', f_X12_reduce F P xS0 241 D = some (-3, D') ∧ ch [241, 247, 248, 249, 250, 251] [] D D' ∧ (∀ j, j ≠ 13 → j ≠ 36 → D'.1 241 j = D.1 241 j) ∧ ∀ x, x ≠ 241 → ∀ j, j < 12800 → D'.1 x j = D.1 x j) ∧ (sz (trd t) ≤ 2000 → ∃ D', f_X12_reduce F P xS0 241 D = some (nI (sz (trd t)), D') ∧ ch [241, 247, 248, 249, 250, 251] [] D D' ∧ (∀ j, j ≠ 13 → j ≠ 14 → j ≠ 36 → D'.1 241 j = D.1 241 j) ∧ (∀ x, x ≠ 241 → ∀ j, 2000 ≤ j → j < 12800 → D'.1 x j = D.1 x j) ∧ D'.1 241 14 = nI (sz (trd t) - 1) ∧ nd D'.1 0 (trd t) (sz (trd t) - 1))) := by
  have e1 := E_mhas (F := F) (P := P) isE_b t i P hw hd (by omega)
  constructor
  · intro c
    have : tha isE t = true := by
      rcases h : tha isE t with _ | _
      · exact absurd (tnE_iff.mp h) c
      · rfl
    rw [e_X12_reduce, h14, e1, Option.bind_some, this, if_neg (show ¬ (if true = true then (1 : Int32) else 0) = 0 by decide)]
  · intro hn
    have hf : tha isE t = false := tnE_iff.mpr hn
    generalize hD1 : ((xup (xup D.1 241 13 12800) 241 36 0, D.2) : xDt) = D1
    have d1 : ∀ x, x ≠ 241 → D1.1 x = D.1 x := fun x h1 => by rw [← hD1]; dsimp only; rw [xup_ne _ _ _ _ h1, xup_ne _ _ _ _ h1]
    have d2 : ∀ j, j ≠ 13 → j ≠ 36 → D1.1 241 j = D.1 241 j := fun j h1 h2 => by rw [← hD1]; dsimp only; rw [xup_nk _ _ _ _ _ h2, xup_nk _ _ _ _ _ h1]
    have d3 : D1.1 241 36 = 0 ∧ D1.1 241 13 = nI 12800 := by
      rw [← hD1]; dsimp only; exact ⟨by rw [xup_at], by rw [xup_nk _ _ _ _ _ (by omega), xup_at]; rfl⟩
    have f0 : ch [241, 247, 248, 249, 250, 251] [] D D1 := ⟨fun x hx => d1 x (by simp at hx; omega), fun x _ => by rw [← hD1]⟩
    have hd1 : nd D1.1 0 t i := nd_congr (fun x hx hx2 j _ _ => by rw [d1 x (by omega)]) hd
    obtain ⟨⟨v, D2⟩, e2, r1, r2⟩ := E_rd (F := F) (P := P) t P 12800 i D1 hw hn (hp.symm) (by omega) (hp.symm.imp (fun q => q) (fun q => by omega)) d3.1 d3.2 (by omega) (by omega) hd1 (by omega)
    dsimp only at r1 r2
    have e3 : f_X12_reduce F P xS0 241 D = if D2.1 241 36 = 0 then (xgrd (xin v 92800) (if (D2.1 251 (v).toNatClampNeg) ≤ 2000 then (xgrd (xin v 92800) ((f_X12_moved F P xS0 241 v (D2.1 241 13) (D2.1 251 (v).toNatClampNeg) D2).bind fun q9 => some (D2.1 251 (v).toNatClampNeg, (xup q9.2.1 241 14 q9.1, q9.2.2)))) else (some ((-3), D2)))) else (some ((-3), D2)) := by
      rw [e_X12_reduce, h14, e1, Option.bind_some, hf, if_pos (show (if false = true then (1 : Int32) else 0) = 0 from rfl)]
      simp only [xlet]
      rw [hD1, show xup (xup D.1 241 13 12800) 241 36 0 241 14 = nI i by rw [xup_nk _ _ _ _ _ (by omega), xup_nk _ _ _ _ _ (by omega)]; exact h14, show f_X12_reduced F P xS0 P 241 (nI i) D1 = some (v, D2) from e2, Option.bind_some]
    constructor
    · intro hg
      rcases r2 with ⟨a1, a2⟩ | ⟨_, z', _, _, _, _, j, _, _, _, a3⟩
      · refine ⟨D2, by rw [e3, if_neg (by rw [a1]; decide)], ch_trans f0 r1.1, fun j h1 h2 => by rw [r1.2.1 j h1 h2, d2 j h1 h2], fun x hx j hj => by rw [r1.2.2 x hx j hj, d1 x hx]⟩
      · omega
    · intro hg
      have hmk := tmk_le hw hn
      obtain ⟨w1, w2⟩ := trd_w hw hn
      have hsz := sz_pos w1
      rcases r2 with ⟨a1, a2⟩ | ⟨a1, z', a2, a3, a4, a5, j, rfl, a6, a7, a8⟩
      · have := a2 hg; omega
      · obtain ⟨⟨v, D4⟩, e4, k1, k2, k3, k4, k5⟩ := E_moved (F := F) (P := P) hF hP (D := D2) w1 a7 a6 (by omega) a3 (by omega) a2
        dsimp only at k1 k2 k3 k4 k5
        subst k1
        refine ⟨(xup D4.1 241 14 (nI (sz (trd t) - 1)), D4.2), ?_, ch_i (by simp) (ch_trans f0 (ch_trans r1.1 k2)), fun j h1 h2 h3 => ?_, fun x hx j hj hj2 => ?_, by dsimp only; rw [xup_at], nd_congr (fun x hx hx2 j _ _ => by dsimp only; rw [xup_na _ _ _ _ _ (by omega)]) k5⟩
        · rw [e3, if_pos a1, xgrd_in (nd_ge a7).2 (by omega), nI_clamp (by have := (nd_ge a7).2; omega), nd_sz a7, if_pos (show nI (sz (trd t)) ≤ 2000 from (nI_leI (b := 2000) (by omega) (by omega)).mpr hg), xgrd_in (nd_ge a7).2 (by omega), a2, e4, Option.bind_some]
        · dsimp only; rw [xup_nk _ _ _ _ _ h2, k3 j h1, r1.2.1 j h1 h3, d2 j h1 h3]
        · dsimp only; rw [xup_na _ _ _ _ _ hx, k4 x hx j hj hj2, r1.2.2 x hx j hj2, d1 x hx]
