/-! reduce -/
theorem pl_say : ∀ {t : T}, wfT t → tnE t → (tha (pS 1) t = false ↔ plT t)
  | .leaf, h, _ => absurd h (by simp [wfT])
  | .inner s m () l r, hw, hn => by
    obtain ⟨w1, w2, w3, w4⟩ := id hw
    obtain ⟨n1, n2, n3⟩ := id hn
    have hp : pS 1 s = decide (14 ≤ s) := rfl
    rw [tha, plT, hp]
    rcases w4 with ⟨_, rfl, rfl⟩ | ⟨_, _, wl, rfl⟩ | ⟨_, wl, wr⟩
    · simp only [tha, plT, Bool.or_false, decide_eq_false_iff_not]
      constructor
      · intro h; exact ⟨by omega, trivial, trivial⟩
      · rintro ⟨h, _⟩; omega
    · rw [← pl_say wl n2]
      simp only [tha, plT, Bool.or_false, Bool.or_eq_false_iff, decide_eq_false_iff_not]
      constructor
      · rintro ⟨h, h2⟩; exact ⟨by omega, h2, trivial⟩
      · rintro ⟨h, h2, _⟩; exact ⟨by omega, h2⟩
    · rw [← pl_say wl n2, ← pl_say wr n3]
      simp only [Bool.or_eq_false_iff, decide_eq_false_iff_not]
      constructor
      · rintro ⟨⟨h, h2⟩, h3⟩; exact ⟨by omega, h2, h3⟩
      · rintro ⟨h, h2, h3⟩; exact ⟨⟨by omega, h2⟩, h3⟩
theorem E_capply {F P : Nat} (hF : 10000 < F) {D : xDt} {t : T} (hw : wfT t) (hz : sz t ≤ 2000) (hp : sz t ≤ 150 ∨ plT t) (hf : fmC D 202 203 t) : (¬ tnE t → f_X7_apply F P xS0 217 202 D = some (-1, D)) ∧ (tnE t → (2000 < sz (trd t) → ∃ D', f_X7_apply F P xS0 217 202 D = some (-3, D') ∧ ch [217, 218, 219, 220, 221] [] D D') ∧ (sz (trd t) ≤ 2000 → ∃ D', f_X7_apply F P xS0 217 202 D = some (nI (sz (trd t)), D') ∧ ch [202, 203, 217, 218, 219, 220, 221] [] D D' ∧ fmC D' 202 203 (trd t))) := by
  have e1 := E_hasAny (F := F) (P := P) (v := 0) hF (by omega) hw hz hf
  have e2 := E_hasAny (F := F) (P := P) (v := 1) hF (by omega) hw hz hf
  have h0 : tha (pS 0) t = tha isE t := rfl
  rw [h0] at e1
  constructor
  · intro c
    have : tha isE t = true := by
      rcases h : tha isE t with _ | _
      · exact absurd (tnE_iff.mp h) c
      · rfl
    rw [e_X7_apply, e1, Option.bind_some, this, if_neg (show ¬ (if true = true then (1 : Int32) else 0) = 0 by decide)]
  intro hn
  have hf1 : tha isE t = false := tnE_iff.mpr hn
  rw [hf1] at e1
  obtain ⟨i1, i2⟩ := trd_w hw hn
  have q1 := sz_pos i1
  by_cases c : tha (pS 1) t = false
  · have hpl := (pl_say hw hn).mp c
    rw [trd_pl hpl]
    refine ⟨fun q => absurd q (by omega), fun _ => ⟨D, ?_, ch_rfl _ _ _, hf⟩⟩
    rw [c] at e2
    rw [e_X7_apply, e1, Option.bind_some, if_pos (show (if false = true then (1 : Int32) else 0) = 0 from rfl)]
    dsimp only
    rw [e2, Option.bind_some, if_pos (show (if false = true then (1 : Int32) else 0) = 0 from rfl), hf.1]
  have ct : tha (pS 1) t = true := by
    rcases h : tha (pS 1) t with _ | _
    · exact absurd h c
    · rfl
  have h150 : sz t ≤ 150 := hp.resolve_right (fun q => c ((pl_say hw hn).mpr q))
  rw [ct] at e2
  generalize hD1 : ((xup (xup D.1 217 3 2000) 217 4 0, D.2) : xDt) = D1
  have d1 : ∀ x, x ≠ 217 → D1.1 x = D.1 x := fun x h1 => by rw [← hD1]; dsimp only; rw [xup_ne _ _ _ _ h1, xup_ne _ _ _ _ h1]
  have d2 : rs D1 2000 0 := by
    rw [← hD1]; exact ⟨by dsimp only; rw [xup_nk _ _ _ _ _ (by omega), xup_at]; rfl, by dsimp only; rw [xup_at]; rfl⟩
  have f0 : ch [217, 218, 219, 220, 221] [] D D1 := ⟨fun x hx => d1 x (by simp at hx; omega), fun x _ => by rw [← hD1]⟩
  obtain ⟨fu, hfu⟩ : ∃ fu, F = (fu + 1) + sz t := ⟨F - 1 - sz t, by omega⟩
  have r := E_rrun (F := F) (P := P) hF t 0 2000 0 D1 (fu + 1) hw hn (by rw [d1 203 (by omega)]; exact hf.2) (by omega) (by omega) (by omega) d2
  have e3 : f_X7_apply F P xS0 217 202 D = f_X7_apply_44 F P xS0 ((fu + 1) + sz t) 217 202 (nI (0 + sz t) - 1) D1 := by
    rw [e_X7_apply, e1, Option.bind_some, if_pos (show (if false = true then (1 : Int32) else 0) = 0 from rfl)]
    dsimp only
    rw [e2, Option.bind_some, if_neg (show ¬ (if true = true then (1 : Int32) else 0) = 0 by decide)]
    simp only [xlet]
    rw [hD1, ← hfu, Nat.zero_add, xup_na _ _ _ _ _ (by omega), xup_na _ _ _ _ _ (by omega), hf.1]
  rw [e3]
  refine ⟨fun q => ?_, fun q => ?_⟩
  · obtain ⟨D2, a1, a2⟩ := r.2 q
    exact ⟨D2, a1, ch_trans f0 a2⟩
  · obtain ⟨D2, a1, a2, a3, a4, a5, a6, a7⟩ := r.1 q
    have k2 := ch_trans f0 a1
    rw [a7]
    generalize hD5 : ((xup D2.1 202 1 0, D2.2) : xDt) = D5
    have g1 : ∀ x, x ≠ 202 → D5.1 x = D2.1 x := fun x h1 => by rw [← hD5]; dsimp only; rw [xup_ne _ _ _ _ h1]
    have ea := E_addAll (F := F) (P := P) (D := D5) (a := 202) (ta := 203) (row := 218) (f := 2000 - sz (trd t)) (e := 2000) (s := 0) rr202 (by rw [← hD5]; dsimp only; rw [xup_at]; rfl) (by omega) (by omega) (by rw [l221.2.2]; omega) (by rw [ll203]; omega) (by rw [ll203]; omega) (by rw [l221.2.2]; omega)
    refine ⟨(xup (xcp D5.1 218 203 (2000 - sz (trd t)) 0 (2000 - (2000 - sz (trd t)))) 202 1 (nI (0 + (2000 - (2000 - sz (trd t))))), D5.2), ?_, ⟨fun x hx => ?_, fun x hx => ?_⟩, ⟨?_, ?_⟩⟩
    · rw [e_X7_apply_44, if_pos (show nI 0 - 1 < 0 by decide)]
      simp only [xlet]
      rw [hD5, xup_na _ _ _ _ _ (show 217 ≠ 202 by omega), a2.1, show f_X2_addAll F P xS0 202 218 (nI (2000 - sz (trd t))) 2000 D5 = _ from ea, Option.bind_some]
      dsimp only
      rw [xup_at]
      congr 3; omega
    · simp only [List.mem_cons, List.not_mem_nil, or_false, not_or] at hx
      dsimp only
      rw [xup_ne _ _ _ _ (by omega), xcp_ne _ _ _ _ _ _ (by omega), g1 x (by omega), k2.1 x (by simp; omega)]
    · dsimp only
      rw [← hD5]
      exact k2.2 x hx
    · dsimp only
      rw [xup_at]
      congr 1; omega
    · dsimp only
      rw [xup_ne _ _ _ _ (by omega), xcp_eq]
      intro i hi
      unfold va_cpy
      rw [tks_len] at hi
      rw [if_pos (by omega), g1 218 (by omega), ← a6 i (by rw [tks_len]; exact hi), show 2000 - sz (trd t) + (0 + i - 0) = 2000 - sz (trd t) + i by omega]
theorem M_reduce {dA : T → Nat → Int32} {F P : Nat} (hF : 10000 < F) (hP : 2005 < P) {D : xDt} (h : Iv dA D) : Two dA D (f_X11_reduce F P xS0 0) (f_X12_reduce F P xS0 241) := by
  obtain ⟨W, L, t, E, sg, tx, a1, a2, a3, a4, a5, a6, a7, a8⟩ := id h
  obtain ⟨b1, b2, b3, b4, i, b5, b6, b7⟩ := id a3
  have rc := E_capply (F := F) (P := P) hF b1 b2 b3 b4
  by_cases hn : tnE t
  rotate_left
  · have rm := E_mreduce (F := F) (P := P) hF hP b1 b2 b3 b5 b6 b7
    exact Iv_same (r := -1) h (by rw [e_X11_reduce, rc.1 hn, Option.bind_some, if_pos (show (-1 : Int32) ≤ 0 by decide)]) (rm.1 hn)
  obtain ⟨w1, w2⟩ := trd_w b1 hn
  have hsz := sz_pos w1
  by_cases hg : 2000 < sz (trd t)
  · obtain ⟨D1, e1, c2⟩ := (rc.2 hn).1 hg
    have rm := E_mreduce (F := F) (P := P) hF hP (D := D1) b1 b2 b3 b5 (by rw [c2.1 241 (by decide)]; exact b6) (nd_congr (fun x hx hx2 j _ _ => by rw [c2.1 x (by simp; omega)]) b7)
    obtain ⟨D2, e2, m2, m3, m4⟩ := (rm.2 hn).1 hg
    have q : ∀ x, x < 217 ∨ (221 < x ∧ x < 241) ∨ (241 < x ∧ x < 247) ∨ 251 < x → D2.1 x = D.1 x := fun x hx => by rw [m2.1 x (by simp; omega), c2.1 x (by simp; omega)]
    have qL : ∀ x, D2.2 x = D.2 x := fun x => by rw [m2.2 x (by simp), c2.2 x (by simp)]
    have q1 : ∀ j, j ≠ 13 → j ≠ 36 → D2.1 241 j = D.1 241 j := fun j h1 h2 => by rw [m3 j h1 h2, c2.1 241 (by decide)]
    have qn : ∀ x, 247 ≤ x → x ≤ 251 → ∀ j, j < 12800 → D2.1 x j = D.1 x j := fun x h1 h2 j hj => by rw [m4 x (by omega) j hj, c2.1 x (by simp; omega)]
    refine ⟨_, D1, D2, by rw [e_X11_reduce, e1, Option.bind_some, if_pos (show (-3 : Int32) ≤ 0 by decide)], e2, W, L, t, E, sg, tx, ?_, ?_, ?_, ?_, ?_, ?_, ?_, ?_⟩
    · exact iW_congr (congrFun (q 1 (by omega)) 0) (qL 2) (qL 3) (q1 1 (by omega) (by omega)) (q 242 (by omega)) (q 243 (by omega)) a1
    · exact iK_congr (q 4 (by omega)) (q1 7 (by omega) (by omega)) (fun x hx hx2 => ⟨q x (by omega), qL x⟩) (fun x hx hx2 => q x (by omega)) a2
    · exact iT_congr (congrFun (q 202 (by omega)) 1) (q 203 (by omega)) (q1 14 (by omega) (by omega)) (fun x hx hx2 j hj => qn x hx hx2 j (by omega)) a3
    · exact iE_congr (congrFun (q 42 (by omega)) 0) (q1 25 (by omega) (by omega)) (fun x hx => q x (by omega)) (fun x hx hx2 j _ hj => qn x hx hx2 j hj) a4
    · exact iS_congr (congrFun (q 192 (by omega)) 1) (q 193 (by omega)) (q1 16 (by omega) (by omega)) (q 252 (by omega)) a5
    · exact iX_congr (congrFun (q 204 (by omega)) 1) (q 205 (by omega)) (q1 21 (by omega) (by omega)) (q 253 (by omega)) a6
    · exact iJ_congr (congrFun (q 0 (by omega)) 13) (qL 0) a7
    · exact iD_congr (congrFun (q 0 (by omega)) 14) (q 223 (by omega)) a8
  · obtain ⟨D1, e1, c2, c3⟩ := (rc.2 hn).2 (by omega)
    generalize hD1' : ((xup (xup D1.1 0 13 0) 0 14 0, D1.2) : xDt) = D1'
    have k1 : ∀ x, x ≠ 0 → D1'.1 x = D1.1 x := fun x h1 => by rw [← hD1']; dsimp only; rw [xup_ne _ _ _ _ h1, xup_ne _ _ _ _ h1]
    have k2 : D1'.1 0 13 = 0 ∧ D1'.1 0 14 = 0 := by rw [← hD1']; dsimp only; exact ⟨by rw [xup_nk _ _ _ _ _ (by omega), xup_at], by rw [xup_at]⟩
    have k3 : D1'.2 = D1.2 := by rw [← hD1']
    have rm := E_mreduce (F := F) (P := P) hF hP (D := D1') b1 b2 b3 b5 (by rw [k1 241 (by omega), c2.1 241 (by decide)]; exact b6) (nd_congr (fun x hx hx2 j _ _ => by rw [k1 x (by omega), c2.1 x (by simp; omega)]) b7)
    obtain ⟨D2, e2, m2, m3, m4, m5, m6⟩ := (rm.2 hn).2 (by omega)
    have q : ∀ x, (0 < x ∧ x < 202) ∨ (204 ≤ x ∧ x < 217) ∨ (221 < x ∧ x < 241) ∨ (241 < x ∧ x < 247) ∨ 251 < x → D2.1 x = D.1 x := fun x hx => by rw [m2.1 x (by simp; omega), k1 x (by omega), c2.1 x (by simp; omega)]
    have qL : ∀ x, D2.2 x = D.2 x := fun x => by rw [m2.2 x (by simp), k3, c2.2 x (by simp)]
    have q1 : ∀ j, j ≠ 13 → j ≠ 14 → j ≠ 36 → D2.1 241 j = D.1 241 j := fun j h1 h2 h3 => by rw [m3 j h1 h2 h3, k1 241 (by omega), c2.1 241 (by decide)]
    have qn : ∀ x, 247 ≤ x → x ≤ 251 → ∀ j, 2000 ≤ j → j < 12800 → D2.1 x j = D.1 x j := fun x h1 h2 j hj hj2 => by rw [m4 x (by omega) j hj hj2, k1 x (by omega), c2.1 x (by simp; omega)]
    have q2 : ∀ x, 202 ≤ x → x ≤ 203 → D2.1 x = D1.1 x := fun x h1 h2 => by rw [m2.1 x (by simp; omega), k1 x (by omega)]
    refine ⟨_, D1', D2, ?_, e2, W, L, trd t, E, sg, tx, ?_, ?_, ⟨w1, by omega, Or.inr w2, ⟨by rw [q2 202 (by omega) (by omega)]; exact c3.1, by rw [q2 203 (by omega) (by omega)]; exact c3.2⟩, sz (trd t) - 1, by omega, m5, m6⟩, ?_, ?_, ?_, Or.inl ?_, Or.inl ?_⟩
    · rw [e_X11_reduce, e1, Option.bind_some, if_neg (show ¬ nI (sz (trd t)) ≤ 0 from fun c => absurd ((nI_leI (b := 0) (by omega) (by omega)).mp c) (by omega)), e_X11_handChanged]
      simp only [xlet]
      rw [hD1', Option.bind_some]
    · exact iW_congr (congrFun (q 1 (by omega)) 0) (qL 2) (qL 3) (q1 1 (by omega) (by omega) (by omega)) (q 242 (by omega)) (q 243 (by omega)) a1
    · exact iK_congr (q 4 (by omega)) (q1 7 (by omega) (by omega) (by omega)) (fun x hx hx2 => ⟨q x (by omega), qL x⟩) (fun x hx hx2 => q x (by omega)) a2
    · exact iE_congr (congrFun (q 42 (by omega)) 0) (q1 25 (by omega) (by omega) (by omega)) (fun x hx => q x (by omega)) (fun x hx hx2 j hj hj2 => qn x hx hx2 j hj hj2) a4
    · exact iS_congr (congrFun (q 192 (by omega)) 1) (q 193 (by omega)) (q1 16 (by omega) (by omega) (by omega)) (q 252 (by omega)) a5
    · exact iX_congr (congrFun (q 204 (by omega)) 1) (q 205 (by omega)) (q1 21 (by omega) (by omega) (by omega)) (q 253 (by omega)) a6
    · rw [m2.1 0 (by decide)]; exact k2.1
    · rw [m2.1 0 (by decide)]; exact k2.2
