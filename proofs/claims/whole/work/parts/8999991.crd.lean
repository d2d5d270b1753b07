/-! reduce: the class unsays -/
theorem E_uloop {F P : Nat} {f mi e : Nat} {xs : List Nat} : ∀ (ys : List Nat) (i n : Nat) (D : xDt) (L : List Nat), (∀ k, k ∈ ys → ∃ s m, k = tk s m ∧ 1 ≤ s ∧ s ≤ 15 ∧ mOK s m) → dr D L → L.length ≤ 2000 → D.1 217 3 = nI f → tkAt (D.1 218) f xs → f + xs.length = mi → mi ≤ 2000 → tkAt (D.1 218) i ys → i + ys.length = e → e ≤ 2000 → ys.length < n → ((L ++ ys.flatMap (tpsh xs)).length ≤ 2000 → ∃ D', dr D' (L ++ ys.flatMap (tpsh xs)) ∧ ch [220, 221] [] D D' ∧ f_X7_unsay_90 F P xS0 n 217 (nI mi) (nI e) 1 (nI i) D = f_X7_unsay_121 F P xS0 217 (nI e) 1 D') ∧ (2000 < (L ++ ys.flatMap (tpsh xs)).length → ∃ D', f_X7_unsay_90 F P xS0 n 217 (nI mi) (nI e) 1 (nI i) D = some (0, D') ∧ ch [220, 221] [] D D')
  | _, _, 0, _, _, _, _, _, _, _, _, _, _, _, _, h => absurd h (by omega)
  | [], i, n + 1, D, L, h1, h2, h3, h4, h5, h6, h7, h8, h9, h10, h11 => by
    have e1 : L ++ ([] : List Nat).flatMap (tpsh xs) = L := by simp
    rw [e1]
    refine ⟨fun _ => ⟨D, h2, ch_rfl _ _ _, ?_⟩, fun q => absurd q (by omega)⟩
    rw [e_X7_unsay_90, if_neg (show ¬ (1 : Int32) = 0 by decide), if_pos (by rw [← h9]; exact Int32.le_refl _)]
  | k :: ys, i, n + 1, D, L, h1, h2, h3, h4, h5, h6, h7, h8, h9, h10, h11 => by
    rw [List.length_cons] at h9 h11
    obtain ⟨t1, t2⟩ := tkAt_cons.mp h8
    obtain ⟨s, m, rfl, w1, w2, w3⟩ := h1 k (by simp)
    have e1 : L ++ (tk s m :: ys).flatMap (tpsh xs) = (L ++ tpsh xs (tk s m)) ++ ys.flatMap (tpsh xs) := by rw [List.flatMap_cons, List.append_assoc]
    rw [e1]
    have hp := E_dpush (F := F) (P := P) h2 h3 h4 h5 h6 h7 w1 w2 w3
    have e2 : f_X7_unsay_90 F P xS0 (n + 1) 217 (nI mi) (nI e) 1 (nI i) D = (f_X7_push F P xS0 217 (nI (tk s m)) (nI mi) D).bind fun q2 => f_X7_unsay_90 F P xS0 n 217 (nI mi) (nI e) q2.1 (nI (i + 1)) q2.2 := by
      rw [e_X7_unsay_90, if_neg (show ¬ (1 : Int32) = 0 by decide), if_neg (by rw [nI_leI (by omega) (by omega)]; omega), xgrd_in (by omega) (by omega), nI_clamp (by omega), t1]
      simp only [xlet, nI_1]
    rw [e2]
    by_cases c : (L ++ tpsh xs (tk s m)).length ≤ 2000
    · obtain ⟨D1, p1, p2, p3⟩ := hp.1 c
      have r := E_uloop (F := F) (P := P) ys (i + 1) n D1 (L ++ tpsh xs (tk s m)) (fun k hk => h1 k (by simp [hk])) p2 c (by rw [p3.1 217 (by decide)]; exact h4) (by rw [p3.1 218 (by decide)]; exact h5) h6 h7 (by rw [p3.1 218 (by decide)]; exact t2) (by omega) h10 (by omega)
      rw [p1, Option.bind_some]
      dsimp only
      refine ⟨fun q => ?_, fun q => ?_⟩
      · obtain ⟨D2, a1, a2, a3⟩ := r.1 q
        exact ⟨D2, a1, ch_trans p3 a2, a3⟩
      · obtain ⟨D2, a1, a2⟩ := r.2 q
        exact ⟨D2, a1, ch_trans p3 a2⟩
    · refine ⟨fun q => absurd q (by rw [List.length_append]; omega), fun _ => ?_⟩
      obtain ⟨D1, p1, p3⟩ := hp.2 (by omega)
      obtain ⟨n', rfl⟩ : ∃ n', n = n' + 1 := ⟨n - 1, by omega⟩
      refine ⟨D1, ?_, p3⟩
      rw [p1, Option.bind_some]
      dsimp only
      rw [e_X7_unsay_90, if_pos rfl, e_X7_unsay_121, if_pos rfl]
theorem E_unsay {F P : Nat} (hF : 10000 < F) {D : xDt} {s h f mi e : Nat} {xs ys : List Nat} (hs : s = 14 ∨ s = 15) (hh : h + 2 ≤ 150) (h4 : D.1 217 4 = nI (h + 2)) (g1 : D.1 219 (h + 1) = nI mi) (g2 : D.1 219 h = nI e) (h3 : D.1 217 3 = nI f) (hx : tkAt (D.1 218) f xs) (hy : tkAt (D.1 218) mi ys) (hm : f + xs.length = mi) (he : mi + ys.length = e) (he2 : e ≤ 2000) (hk : ∀ k, k ∈ ys → ∃ s m, k = tk s m ∧ 1 ≤ s ∧ s ≤ 15 ∧ mOK s m) (L : List Nat) (hL : L = (if s = 14 then [] else 126 :: tpsh xs 126) ++ ys.flatMap (tpsh xs)) : (L.length ≤ e → ∃ D', f_X7_unsay F P xS0 217 (nI (sgn s 0)) D = some (1, D') ∧ D'.1 217 3 = nI (e - L.length) ∧ D'.1 217 4 = nI (h + 1) ∧ tkAt (D'.1 218) (e - L.length) L ∧ (∀ j, e ≤ j → D'.1 218 j = D.1 218 j) ∧ ch [217, 218, 220, 221] [] D D') ∧ (e < L.length → ∃ D', f_X7_unsay F P xS0 217 (nI (sgn s 0)) D = some (0, D') ∧ ch [217, 218, 220, 221] [] D D') := by
  generalize hD6 : ((xup (xup D.1 217 4 (nI (h + 1))) 220 1 0, D.2) : xDt) = D6
  have d1 : ∀ x, x ≠ 217 → x ≠ 220 → D6.1 x = D.1 x := fun x h1 h2 => by rw [← hD6]; dsimp only; rw [xup_ne _ _ _ _ h2, xup_ne _ _ _ _ h1]
  have d2 : D6.1 217 3 = nI f ∧ D6.1 217 4 = nI (h + 1) := by
    rw [← hD6]; dsimp only
    exact ⟨by rw [xup_na _ _ _ _ _ (by omega), xup_nk _ _ _ _ _ (by omega)]; exact h3, by rw [xup_na _ _ _ _ _ (by omega), xup_at]⟩
  have d3 : dr D6 [] := ⟨by rw [← hD6]; dsimp only; rw [xup_at]; rfl, fun i hi => absurd hi (by simp)⟩
  have f0 : ch [217, 218, 220, 221] [] D D6 := ⟨fun x hx => d1 x (by simp at hx; omega) (by simp at hx; omega), fun x _ => by rw [← hD6]⟩
  have e0 : f_X7_unsay F P xS0 217 (nI (sgn s 0)) D = if nI (sgn s 0) = 91 then (f_X7_unsay_80 F P xS0 217 (nI mi) (nI e) D6) else ((f_X2_add F P xS0 220 126 D6).bind fun q7 => if q7.1 = 0 then (f_X7_unsay_84 F P xS0 217 (nI mi) (nI e) q7.2) else ((f_X7_push F P xS0 217 126 (nI mi) q7.2).bind fun q8 => if q8.1 = 0 then (f_X7_unsay_84 F P xS0 217 (nI mi) (nI e) q8.2) else (f_X7_unsay_80 F P xS0 217 (nI mi) (nI e) q8.2))) := by
    rw [e_X7_unsay, h4, if_pos (show (2 : Int32) ≤ nI (h + 2) from (nI_leI (a := 2) (by omega) (by omega)).mpr (by omega)), show nI (h + 2) - 1 = nI (h + 1) by rw [nI_s1 (by omega)]; rfl, show nI (h + 2) - 2 = nI h by rw [k2, nI_sub (by omega)]; rfl, xgrd_in (by omega) (by omega), nI_clamp (by omega), g1, nI_clamp (by omega), g2]
    simp only [xlet]
    rw [xgrd_in (by omega) (by omega), hD6]
  -- from the loop on
  have fin : ∀ (D7 : xDt) (L0 : List Nat), dr D7 L0 → L0.length ≤ 2000 → ch [220, 221] [] D6 D7 → L = L0 ++ ys.flatMap (tpsh xs) → (L.length ≤ e → ∃ D', f_X7_unsay_80 F P xS0 217 (nI mi) (nI e) D7 = some (1, D') ∧ D'.1 217 3 = nI (e - L.length) ∧ D'.1 217 4 = nI (h + 1) ∧ tkAt (D'.1 218) (e - L.length) L ∧ (∀ j, e ≤ j → D'.1 218 j = D.1 218 j) ∧ ch [217, 218, 220, 221] [] D D') ∧ (e < L.length → ∃ D', f_X7_unsay_80 F P xS0 217 (nI mi) (nI e) D7 = some (0, D') ∧ ch [217, 218, 220, 221] [] D D') := by
    intro D7 L0 k1 k2 k3 k4
    have f7 : ch [217, 218, 220, 221] [] D D7 := ch_trans f0 (ch_mono k3 (fun x hx => by simp at hx ⊢; omega) (fun _ h => h))
    have r := E_uloop (F := F) (P := P) (f := f) (mi := mi) (e := e) (xs := xs) ys mi F D7 L0 hk k1 k2 (by rw [k3.1 217 (by decide)]; exact d2.1) (by rw [k3.1 218 (by decide), d1 218 (by omega) (by omega)]; exact hx) hm (by omega) (by rw [k3.1 218 (by decide), d1 218 (by omega) (by omega)]; exact hy) he he2 (by omega)
    rw [← k4] at r
    rw [e_X7_unsay_80, e_X7_unsay_85]
    by_cases c : L.length ≤ 2000
    · obtain ⟨D8, a1, a2, a3⟩ := r.1 c
      have f8 := ch_trans f7 (ch_mono a2 (fun x hx => by simp at hx ⊢; omega) (fun _ h => h) : ch [217, 218, 220, 221] [] D7 D8)
      have q217 : ∀ j, D8.1 217 j = D6.1 217 j := fun j => by rw [a2.1 217 (by decide), k3.1 217 (by decide)]
      have q218 : ∀ j, D8.1 218 j = D.1 218 j := fun j => by rw [a2.1 218 (by decide), k3.1 218 (by decide), d1 218 (by omega) (by omega)]
      rw [a3, e_X7_unsay_121, if_neg (show ¬ (1 : Int32) = 0 by decide), a1.1]
      refine ⟨fun hz => ?_, fun hz => ?_⟩
      · rw [if_pos ((nI_leI (by omega) (by omega)).mpr hz), nI_sub hz]
        simp only [xlet]
        rw [xup_at, xup_na _ _ _ _ _ (show 220 ≠ 217 by omega), a1.1, show (0 : Int32).toNatClampNeg = 0 from rfl, nI_clamp (by omega), nI_clamp (by omega)]
        have hc : xcpin 0 (nI (e - L.length)) (nI L.length) 2000 2000 = true := by
          unfold xcpin
          rw [nI_clamp (by omega), nI_clamp (by omega)]
          have z1 : e - L.length + L.length ≤ 2000 := by omega
          have z2 : (0 : Int32).toNatClampNeg + L.length ≤ 2000 := by rw [show (0 : Int32).toNatClampNeg = 0 from rfl]; omega
          rw [decide_eq_true (show (0 : Int32) ≤ 0 by decide), decide_eq_true (nI_pos' (show e - L.length < 2 ^ 31 by omega)), decide_eq_true (nI_pos' (show L.length < 2 ^ 31 by omega)), decide_eq_true z1, decide_eq_true z2]
          rfl
        rw [hc, xgrd_t]
        refine ⟨_, rfl, ?_, ?_, ?_, fun j hj => ?_, ?_⟩
        · dsimp only; rw [xcp_ne _ _ _ _ _ _ (by omega), xup_at]
        · dsimp only; rw [xcp_ne _ _ _ _ _ _ (by omega), xup_nk _ _ _ _ _ (by omega), q217]; exact d2.2
        · dsimp only
          rw [xcp_eq, xup_ne _ _ _ _ (by omega)]
          intro i hi
          unfold va_cpy
          rw [if_pos (by omega)]
          have := a1.2 i hi
          rw [Nat.zero_add] at this
          rw [show 0 + (e - L.length + i - (e - L.length)) = i by omega, this]
        · dsimp only
          rw [xcp_eq]
          unfold va_cpy
          rw [if_neg (by omega), xup_ne _ _ _ _ (by omega), q218]
        · refine ⟨fun x hx => ?_, fun x hx => f8.2 x hx⟩
          have := f8.1 x hx
          simp only [List.mem_cons, List.not_mem_nil, or_false, not_or] at hx
          dsimp only
          rw [xcp_ne _ _ _ _ _ _ (by omega), xup_ne _ _ _ _ (by omega)]
          exact this
      · rw [if_neg (fun q => by rw [nI_leI (by omega) (by omega)] at q; omega)]
        exact ⟨D8, rfl, f8⟩
    · refine ⟨fun q => absurd q (by omega), fun _ => ?_⟩
      obtain ⟨D8, a1, a2⟩ := r.2 (by omega)
      exact ⟨D8, a1, ch_trans f7 (ch_mono a2 (fun x hx => by simp at hx ⊢; omega) (fun _ h => h))⟩
  have f84 : ∀ D', f_X7_unsay_84 F P xS0 217 (nI mi) (nI e) D' = some (0, D') := by
    intro D'
    obtain ⟨n', hn⟩ : ∃ n', F = n' + 1 := ⟨F - 1, by omega⟩
    rw [e_X7_unsay_84, e_X7_unsay_85]
    have : ∀ n, f_X7_unsay_90 F P xS0 (n + 1) 217 (nI mi) (nI e) 0 (nI mi) D' = some (0, D') := fun n => by rw [e_X7_unsay_90, if_pos rfl, e_X7_unsay_121, if_pos rfl]
    have h2 := this n'
    rw [← hn] at h2
    exact h2
  rcases hs with rfl | rfl
  · rw [if_pos rfl] at hL
    rw [e0, if_pos (show nI (sgn 14 0) = 91 by decide)]
    exact fin D6 [] d3 (by simp) (ch_rfl _ _ _) hL
  · rw [if_neg (by omega)] at hL
    rw [e0, if_neg (show ¬ nI (sgn 15 0) = 91 by decide)]
    obtain ⟨D7, p1, p2, p3⟩ := (E_dadd (F := F) (P := P) (c := 126) d3 (by simp)).1 (by simp)
    have p := E_dpush (F := F) (P := P) (D := D7) (s := 4) (m := 0) p2 (by simp) (by rw [p3.1 217 (by decide)]; exact d2.1) (by rw [p3.1 218 (by decide), d1 218 (by omega) (by omega)]; exact hx) hm (by omega) (by omega) (by omega) (Or.inr (Or.inl ⟨by omega, rfl⟩))
    rw [show f_X2_add F P xS0 220 126 D6 = some (1, D7) from p1, Option.bind_some, if_neg (show ¬ (1 : Int32) = 0 by decide)]
    dsimp only
    have e9 : [] ++ [126] ++ tpsh xs (tk 4 0) = 126 :: tpsh xs 126 := rfl
    rw [e9] at p
    by_cases c : (126 :: tpsh xs 126).length ≤ 2000
    · obtain ⟨D8, u1, u2, u3⟩ := p.1 c
      rw [show f_X7_push F P xS0 217 126 (nI mi) D7 = some (1, D8) from u1, Option.bind_some, if_neg (show ¬ (1 : Int32) = 0 by decide)]
      exact fin D8 _ u2 c (ch_trans p3 u3) hL
    · obtain ⟨D8, u1, u3⟩ := p.2 (by omega)
      rw [show f_X7_push F P xS0 217 126 (nI mi) D7 = some (0, D8) from u1, Option.bind_some, if_pos (show (0 : Int32) = 0 from rfl), f84]
      refine ⟨fun q => absurd q ?_, fun _ => ⟨D8, rfl, ch_trans f0 (ch_mono (ch_trans p3 u3) (fun x hx => by simp at hx ⊢; omega) (fun _ h => h))⟩⟩
      rw [hL, List.length_append]; omega
