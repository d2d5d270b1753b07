/-! differ, contract -/
theorem fx_pos {W : Wd} {lk : Nat → Nat} (hg : gk W lk) {u : Nat} (hu : u < W.1) : 0 < fx W lk := by
  have h0 := (hg 0 (by omega)).1
  have h1 : (fun w => decide (lk w = w)) 0 = true := by
    rw [decide_eq_true_iff]; omega
  have := cn_lt2 (p := fun w => decide (lk w = w)) h1 (k := W.1) (by omega)
  unfold fx; omega
theorem E_dif {F P : Nat} (hF : 10000 < F) {W : Wd} (hW : wOK W) {u v : Nat} (hu : u < W.1) (hv : v < W.1) : ∀ (m : Nat) (lk : Nat → Nat) (d : Nat), gk W lk → W.1 - fx W lk < m → d < fx W lk → lk u = lk v → ∃ r : Int32, (∀ (D : xDt) (n : Nat), wC D 1 2 3 W → (∀ w, w < W.1 → D.1 213 w = nI (lk w)) → m + 1 < n → ∃ D', f_X4_difference_8 F P xS0 n 212 1 (nI u) (nI v) (nI d) D = some (r, D') ∧ ch [213, 215] [214] D D') ∧ (∀ (D : xDt) (n : Nat), wM (D.1 241 1) (D.1 242) (D.1 243) W → (∀ w, w < W.1 → D.1 265 w = nI (lk w)) → m + 1 < n → ∃ D', f_X12_differ_46 F P xS0 n 241 (nI u) (nI v) (nI d) 1 D = some (r, D') ∧ ch [265, 266] [] D D')
  | 0, _, _, _, h, _, _ => absurd h (by omega)
  | m + 1, lk, d, hg, hm, hd, huv => by
    have hn := hW.1
    have hfx := fx_le W lk
    -- one step of each
    have compS : ∀ (D : xDt) (n : Nat), wC D 1 2 3 W → (∀ w, w < W.1 → D.1 213 w = nI (lk w)) → ∃ (r1 : Int32) (D1 : xDt), f_X4_difference_8 F P xS0 (n + 1) 212 1 (nI u) (nI v) (nI d) D = (if r1 = 0 then some (-2, D1) else f_X4_difference_8 F P xS0 n 212 1 (nI u) (nI v) (nI (d + 1)) D1) ∧ ch [213, 215] [214] D D1 ∧ (∀ w, w < W.1 → D1.1 213 w = nI (lkS W lk w)) ∧ (r1 = 0 ↔ ∀ w, w < W.1 → lkS W lk w = lk w) := by
      intro D n hC hl
      obtain ⟨⟨r1, D1⟩, e1, c1, c2, c3, c4⟩ := E_refine (F := F) (P := P) hF hW hC hg hl
      refine ⟨r1, D1, ?_, c1, c2, c4⟩
      rw [e_X4_difference_8, if_neg (show ¬ 64 < nI d from fun c => by have := (nI_ltI (a := 64) (by omega) (by omega)).mp c; omega), xgrd_in (by omega) (by omega), xgrd_in (by omega) (by omega), nI_clamp (by omega), nI_clamp (by omega), hl u hu, hl v hv, if_pos (by rw [huv]), e1, Option.bind_some]
      simp only [xlet]
      rw [nI_1]
    have modS : ∀ (D : xDt) (n : Nat), wM (D.1 241 1) (D.1 242) (D.1 243) W → (∀ w, w < W.1 → D.1 265 w = nI (lk w)) → ∃ (r1 : Int32) (D1 : xDt), f_X12_differ_46 F P xS0 (n + 1) 241 (nI u) (nI v) (nI d) 1 D = (if nI (lkS W lk u) = nI (lkS W lk v) then f_X12_differ_46 F P xS0 n 241 (nI u) (nI v) (nI (d + 1)) r1 D1 else some (nI (d + 1), D1)) ∧ ch [265, 266] [] D D1 ∧ (∀ w, w < W.1 → D1.1 265 w = nI (lkS W lk w)) ∧ (r1 = 0 ∨ r1 = 1) ∧ (r1 = 0 ↔ ∀ w, w < W.1 → lkS W lk w = lk w) := by
      intro D n hM hl
      obtain ⟨⟨r1, D1⟩, e1, c1, c2, c3, c4⟩ := E_mrefine (F := F) (P := P) hF hW hM hg hl
      refine ⟨r1, D1, ?_, c1, c2, c3, c4⟩
      dsimp only at c2
      rw [e_X12_differ_46, if_neg (by decide), e1, Option.bind_some]
      simp only [xlet]
      rw [nI_1, xgrd_in (by omega) (by omega), xgrd_in (by omega) (by omega), nI_clamp (by omega), nI_clamp (by omega), c2 u hu, c2 v hv]
    have b1 := (lkS_p (lk := lk) hu).1
    have b2 := (lkS_p (lk := lk) hv).1
    by_cases hst : ∀ w, w < W.1 → lkS W lk w = lk w
    · refine ⟨-2, fun D n hC hl hn1 => ?_, fun D n hM hl hn1 => ?_⟩
      · obtain ⟨n', rfl⟩ : ∃ n', n = n' + 1 := ⟨n - 1, by omega⟩
        obtain ⟨r1, D1, e1, c1, c2, c3⟩ := compS D n' hC hl
        exact ⟨D1, by rw [e1, if_pos (c3.mpr hst)], c1⟩
      · obtain ⟨n', rfl⟩ : ∃ n', n = n' + 1 + 1 := ⟨n - 2, by omega⟩
        obtain ⟨r1, D1, e1, c1, c2, c3, c4⟩ := modS D (n' + 1) hM hl
        refine ⟨D1, ?_, c1⟩
        have h0 : r1 = 0 := c4.mpr hst
        rw [e1, if_pos (by rw [hst u hu, hst v hv, huv]), h0, e_X12_differ_46, if_pos rfl, xgrd_in (by omega) (by omega), xgrd_in (by omega) (by omega), nI_clamp (by omega), nI_clamp (by omega), c2 u hu, c2 v hv, if_pos (by rw [hst u hu, hst v hv, huv])]
    · have hgr := fx_grow hg hst
      have hle := fx_le W (lkS W lk)
      by_cases huv2 : lkS W lk u = lkS W lk v
      · obtain ⟨r, h1, h2⟩ := E_dif (F := F) (P := P) hF hW hu hv m (lkS W lk) (d + 1) (lkS_g W lk) (by omega) (by omega) huv2
        refine ⟨r, fun D n hC hl hn1 => ?_, fun D n hM hl hn1 => ?_⟩
        · obtain ⟨n', rfl⟩ : ∃ n', n = n' + 1 := ⟨n - 1, by omega⟩
          obtain ⟨r1, D1, e1, c1, c2, c3⟩ := compS D n' hC hl
          obtain ⟨D2, e2, d2⟩ := h1 D1 n' (wC_congr (by rw [c1.1 1 (by decide)]) (c1.2 2 (by decide)) (c1.2 3 (by decide)) hC) c2 (by omega)
          exact ⟨D2, by rw [e1, if_neg (fun c => hst (c3.mp c)), e2], ch_trans c1 d2⟩
        · obtain ⟨n', rfl⟩ : ∃ n', n = n' + 1 := ⟨n - 1, by omega⟩
          obtain ⟨r1, D1, e1, c1, c2, c3, c4⟩ := modS D n' hM hl
          obtain ⟨D2, e2, d2⟩ := h2 D1 n' (by rw [c1.1 241 (by decide), c1.1 242 (by decide), c1.1 243 (by decide)]; exact hM) c2 (by omega)
          have h1' : r1 = 1 := c3.resolve_left (fun c => hst (c4.mp c))
          exact ⟨D2, by rw [e1, if_pos (by rw [huv2]), h1', e2], ch_trans c1 d2⟩
      · refine ⟨nI (d + 1), fun D n hC hl hn1 => ?_, fun D n hM hl hn1 => ?_⟩
        · obtain ⟨n', rfl⟩ : ∃ n', n = n' + 1 + 1 := ⟨n - 2, by omega⟩
          obtain ⟨r1, D1, e1, c1, c2, c3⟩ := compS D (n' + 1) hC hl
          refine ⟨D1, ?_, c1⟩
          rw [e1, if_neg (fun c => hst (c3.mp c)), e_X4_difference_8, if_neg (show ¬ 64 < nI (d + 1) from fun c => by have := (nI_ltI (a := 64) (by omega) (by omega)).mp c; omega), xgrd_in (by omega) (by omega), xgrd_in (by omega) (by omega), nI_clamp (by omega), nI_clamp (by omega), c2 u hu, c2 v hv, if_neg (by rw [nI_eq (by omega) (by omega)]; exact huv2)]
        · obtain ⟨n', rfl⟩ : ∃ n', n = n' + 1 := ⟨n - 1, by omega⟩
          obtain ⟨r1, D1, e1, c1, c2, c3, c4⟩ := modS D n' hM hl
          exact ⟨D1, by rw [e1, if_neg (by rw [nI_eq (by omega) (by omega)]; exact huv2)], c1⟩
theorem M_differ {dA : T → Nat → Int32} {F P : Nat} (hF : 10000 < F) {D : xDt} (h : Iv dA D) (x y : Int32) : Two dA D (f_X11_differ F P xS0 0 x y) (f_X12_differ F P xS0 241 x y) := by
  obtain ⟨W, L, t, E, sg, tx, a1, a2, a3, a4, a5, a6, a7, a8⟩ := id h
  have hn := a1.1.1
  rcases i_in W.1 x with ⟨u, hu, _, rfl⟩ | hx
  rotate_left
  · exact Iv_same (r := -1) h (by rw [e_X11_differ, E_has0 a1.2.1.1 hn hx]; rfl) (by rw [e_X12_differ, E_isW0 a1.2.2.1 hn hx]; rfl)
  rcases i_in W.1 y with ⟨v, hv, _, rfl⟩ | hy
  rotate_left
  · refine Iv_same (r := -1) h ?_ ?_
    · rw [e_X11_differ, E_has1 a1.2.1.1 hn hu, Option.bind_some, if_neg (show ¬ (1 : Int32) = 0 by decide), E_has0 a1.2.1.1 hn hy]; rfl
    · rw [e_X12_differ, E_isW1 a1.2.2.1 hn hu, Option.bind_some, if_neg (show ¬ (1 : Int32) = 0 by decide), E_isW0 a1.2.2.1 hn hy]; rfl
  obtain ⟨D1, e1, c1, c2⟩ := E_start (F := F) (P := P) hF a1.1 a1.2.1
  have hC1 : wC D1 1 2 3 W := wC_congr (by rw [c1.1 1 (by decide)]) (c1.2 2 (by simp)) (c1.2 3 (by simp)) a1.2.1
  have hx1 : f_X11_differ F P xS0 0 (nI u) (nI v) D = ((f_X4_difference_8 F P xS0 F 212 1 (nI u) (nI v) 0 D1).bind fun q3 => some (q3.1, q3.2)) := by
    rw [e_X11_differ, E_has1 a1.2.1.1 hn hu, Option.bind_some, if_neg (show ¬ (1 : Int32) = 0 by decide), E_has1 a1.2.1.1 hn hv, Option.bind_some, if_neg (show ¬ (1 : Int32) = 0 by decide), e_X4_difference, e1, Option.bind_some]
  have hg := lk0_g W
  have b1 := (hg u hu).1
  have b2 := (hg v hv).1
  -- what the reference does behind any such cells
  have mod : ∀ D2 : xDt, wM (D2.1 241 1) (D2.1 242) (D2.1 243) W → ∃ D3, f_X12_differ F P xS0 241 (nI u) (nI v) D2 = (if nI (lk0 W u) = nI (lk0 W v) then f_X12_differ_46 F P xS0 F 241 (nI u) (nI v) 0 1 D3 else f_X12_differ_46 F P xS0 F 241 (nI u) (nI v) 0 0 D3) ∧ ch [265] [] D2 D3 ∧ ∀ w, w < W.1 → D3.1 265 w = nI (lk0 W w) := by
    intro D2 hM
    obtain ⟨D3, e3, d1, d2⟩ := E_mbegin (F := F) (P := P) hF a1.1 hM
    refine ⟨D3, ?_, d1, d2⟩
    rw [e_X12_differ, E_isW1 hM.1 hn hu, Option.bind_some, if_neg (show ¬ (1 : Int32) = 0 by decide), E_isW1 hM.1 hn hv, Option.bind_some, if_neg (show ¬ (1 : Int32) = 0 by decide), e3, Option.bind_some, xgrd_in (by omega) (by omega), xgrd_in (by omega) (by omega), nI_clamp (by omega), nI_clamp (by omega), d2 u hu, d2 v hv]
    simp only [e_X12_differ_44]
  have fin : ∀ (D2 D4 : xDt), ch [213, 215, 216] [214] D D2 → ch [265, 266] [] D2 D4 → Iv dA D4 := fun D2 D4 k1 k2 => by
    have f1 : fr D D2 := fr_ch (by decide) k1
    have f2 : fr D2 D4 := fr_ch (by decide) k2
    exact Iv_fr h (fr_trans f1 f2) (by rw [k2.1 0 (by decide), k1.1 0 (by decide)]) (by rw [k2.2 0 (by simp), k1.2 0 (by decide)])
  have hMof : ∀ D2 : xDt, ch [213, 215, 216] [214] D D2 → wM (D2.1 241 1) (D2.1 242) (D2.1 243) W := fun D2 k => by rw [k.1 241 (by decide), k.1 242 (by decide), k.1 243 (by decide)]; exact a1.2.2
  by_cases q : lk0 W u = lk0 W v
  · obtain ⟨r, h1, h2⟩ := E_dif (F := F) (P := P) hF a1.1 hu hv 100 (lk0 W) 0 hg (by have := fx_le W (lk0 W); omega) (fx_pos hg hu) q
    obtain ⟨D2, e2, d2⟩ := h1 D1 F hC1 c2 (by omega)
    have k2 : ch [213, 215, 216] [214] D D2 := ch_trans (ch_mono c1 (by intro x hx; simp at hx ⊢; omega) (by intro x hx; simp at hx)) (ch_mono d2 (by intro x hx; simp at hx ⊢; omega) (fun _ h => h))
    obtain ⟨D3, e3, d3, d4⟩ := mod D2 (hMof D2 k2)
    obtain ⟨D4, e4, d5⟩ := h2 D3 F (by rw [d3.1 241 (by decide), d3.1 242 (by decide), d3.1 243 (by decide)]; exact hMof D2 k2) d4 (by omega)
    refine ⟨r, D2, D4, ?_, ?_, fin D2 D4 k2 (ch_trans (ch_mono d3 (by intro x hx; simp at hx ⊢; omega) (fun _ h => h)) d5)⟩
    · rw [hx1, show f_X4_difference_8 F P xS0 F 212 1 (nI u) (nI v) 0 D1 = _ from e2]; rfl
    · rw [e3, if_pos (by rw [q])]
      exact e4
  · obtain ⟨F', rfl⟩ : ∃ F', F = F' + 1 := ⟨F - 1, by omega⟩
    have k1' : ch [213, 215, 216] [214] D D1 := ch_mono c1 (by intro x hx; simp at hx ⊢; omega) (by intro x hx; simp at hx)
    obtain ⟨D3, e3, d3, d4⟩ := mod D1 (hMof D1 k1')
    refine ⟨0, D1, D3, ?_, ?_, fin D1 D3 k1' (ch_mono d3 (by intro x hx; simp at hx ⊢; omega) (fun _ h => h))⟩
    · rw [hx1, e_X4_difference_8, if_neg (by decide), xgrd_in (by omega) (by omega), xgrd_in (by omega) (by omega), nI_clamp (by omega), nI_clamp (by omega), c2 u hu, c2 v hv, if_neg (by rw [nI_eq (by omega) (by omega)]; exact q)]; rfl
    · rw [e3, if_neg (by rw [nI_eq (by omega) (by omega)]; exact q), e_X12_differ_46, if_pos rfl, xgrd_in (by omega) (by omega), xgrd_in (by omega) (by omega), nI_clamp (by omega), nI_clamp (by omega), d4 u hu, d4 v hv, if_neg (by rw [nI_eq (by omega) (by omega)]; exact q)]
/-- both come to the same end -/
theorem E_set {F P : Nat} (hF : 10000 < F) {W : Wd} (hW : wOK W) : ∀ (m : Nat) (lk : Nat → Nat) (d : Nat), gk W lk → W.1 - fx W lk < m → d ≤ fx W lk → ∃ lk' : Nat → Nat, gk W lk' ∧ (∀ w, w < W.1 → lkS W lk' w = lk' w) ∧ (∀ (D : xDt) (n : Nat), wC D 1 2 3 W → (∀ w, w < W.1 → D.1 213 w = nI (lk w)) → m < n → ∃ D', f_X4_settle_7 F P xS0 n 212 1 (nI d) D = some D' ∧ ch [213, 215] [214] D D' ∧ (∀ w, w < W.1 → D'.1 213 w = nI (lk' w)) ∧ (∀ g, g < 4 → ∀ w, w < W.1 → D'.2 214 (g * 64 + w) = sN W lk' g w)) ∧ (∀ (D : xDt) (n : Nat), wM (D.1 241 1) (D.1 242) (D.1 243) W → (∀ w, w < W.1 → D.1 265 w = nI (lk w)) → m + 1 < n → ∃ D', f_X12_contract_6 F P xS0 n 241 1 D = f_X12_contract_23 F P xS0 F 241 0 0 D' ∧ ch [265, 266] [] D D' ∧ (∀ w, w < W.1 → D'.1 265 w = nI (lk' w)))
  | 0, _, _, _, h, _ => absurd h (by omega)
  | m + 1, lk, d, hg, hm, hd => by
    have hn := hW.1
    have hfx := fx_le W lk
    by_cases hst : ∀ w, w < W.1 → lkS W lk w = lk w
    · refine ⟨lk, hg, hst, fun D n hC hl hn1 => ?_, fun D n hM hl hn1 => ?_⟩
      · obtain ⟨n', rfl⟩ : ∃ n', n = n' + 1 := ⟨n - 1, by omega⟩
        obtain ⟨⟨r1, D1⟩, e1, c1, c2, c3, c4⟩ := E_refine (F := F) (P := P) hF hW hC hg hl
        dsimp only at c1 c2 c3 c4
        refine ⟨D1, ?_, c1, fun w hw => by rw [c2 w hw, hst w hw], c3⟩
        rw [e_X4_settle_7, if_neg (show ¬ 64 < nI d from fun c => by have := (nI_ltI (a := 64) (by omega) (by omega)).mp c; omega), e1, Option.bind_some, if_pos (c4.mpr hst)]
      · obtain ⟨n', rfl⟩ : ∃ n', n = n' + 1 + 1 := ⟨n - 2, by omega⟩
        obtain ⟨⟨r1, D1⟩, e1, c1, c2, c3, c4⟩ := E_mrefine (F := F) (P := P) hF hW hM hg hl
        dsimp only at c1 c2 c3 c4
        refine ⟨D1, ?_, c1, fun w hw => by rw [c2 w hw, hst w hw]⟩
        rw [e_X12_contract_6, if_neg (by decide), e1, Option.bind_some]
        dsimp only
        rw [c4.mpr hst, e_X12_contract_6, if_pos rfl]
    · have hgr := fx_grow hg hst
      obtain ⟨lk', q1, q2, q3, q4⟩ := E_set (F := F) (P := P) hF hW m (lkS W lk) (d + 1) (lkS_g W lk) (by have := fx_le W (lkS W lk); omega) (by omega)
      refine ⟨lk', q1, q2, fun D n hC hl hn1 => ?_, fun D n hM hl hn1 => ?_⟩
      · obtain ⟨n', rfl⟩ : ∃ n', n = n' + 1 := ⟨n - 1, by omega⟩
        obtain ⟨⟨r1, D1⟩, e1, c1, c2, c3, c4⟩ := E_refine (F := F) (P := P) hF hW hC hg hl
        dsimp only at c1 c2 c3 c4
        obtain ⟨D2, e2, d2, d3, d4⟩ := q3 D1 n' (wC_congr (by rw [c1.1 1 (by decide)]) (c1.2 2 (by decide)) (c1.2 3 (by decide)) hC) c2 (by omega)
        refine ⟨D2, ?_, ch_trans c1 d2, d3, d4⟩
        rw [e_X4_settle_7, if_neg (show ¬ 64 < nI d from fun c => by have := (nI_ltI (a := 64) (by omega) (by omega)).mp c; omega), e1, Option.bind_some, if_neg (fun c => hst (c4.mp c))]
        simp only [xlet]
        rw [nI_1]
        exact e2
      · obtain ⟨n', rfl⟩ : ∃ n', n = n' + 1 := ⟨n - 1, by omega⟩
        obtain ⟨⟨r1, D1⟩, e1, c1, c2, c3, c4⟩ := E_mrefine (F := F) (P := P) hF hW hM hg hl
        dsimp only at c1 c2 c3 c4
        obtain ⟨D2, e2, d2, d3⟩ := q4 D1 n' (by rw [c1.1 241 (by decide), c1.1 242 (by decide), c1.1 243 (by decide)]; exact hM) c2 (by omega)
        refine ⟨D2, ?_, ch_trans c1 d2, d3⟩
        have h1' : r1 = 1 := c3.resolve_left (fun c => hst (c4.mp c))
        rw [e_X12_contract_6, if_neg (by decide), e1, Option.bind_some, h1']
        exact e2
