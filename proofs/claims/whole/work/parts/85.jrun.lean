/-! the class goes through a row of tokens with a stack: where a formula holds -/
def jf (d : Nat) (D D' : xDt) : Prop := ch [207, 208, 209] [207, 210, 211] D D' ∧ ∀ j, j < d → D'.1 208 j = D.1 208 j ∧ D'.1 209 j = D.1 209 j ∧ D'.2 210 j = D.2 210 j ∧ D'.2 211 j = D.2 211 j
theorem jf_rfl (d : Nat) (D : xDt) : jf d D D := ⟨ch_rfl _ _ _, fun _ _ => ⟨rfl, rfl, rfl, rfl⟩⟩
theorem jf_trans {d : Nat} {D D' D'' : xDt} (h : jf d D D') (h' : jf d D' D'') : jf d D D'' := ⟨ch_trans h.1 h'.1, fun j hj => by
  obtain ⟨a1, a2, a3, a4⟩ := h.2 j hj
  obtain ⟨b1, b2, b3, b4⟩ := h'.2 j hj
  exact ⟨b1.trans a1, b2.trans a2, b3.trans a3, b4.trans a4⟩⟩
theorem jf_le {d e : Nat} {D D' : xDt} (h : jf e D D') (hd : d ≤ e) : jf d D D' := ⟨h.1, fun j hj => h.2 j (by omega)⟩
/-- a formula, worlds: where they lie, and that the stack lies elsewhere -/
def jo (a tc aw ta ce N : Nat) : Prop := xr xS0 a 0 = tc ∧ N ≤ xl xS0 tc ∧ xl xS0 tc ≤ 2000 ∧ oW aw ta ce ∧ a ∉ [207, 208, 209] ∧ tc ∉ [207, 208, 209] ∧ aw ∉ [207, 208, 209] ∧ ta ∉ [207, 210, 211] ∧ ce ∉ [207, 210, 211]
theorem wC_congr {D D' : xDt} {a ta ce : Nat} {W : Wd} (h1 : D'.1 a 0 = D.1 a 0) (h2 : D'.2 ta = D.2 ta) (h3 : D'.2 ce = D.2 ce) (h : wC D a ta ce W) : wC D' a ta ce W := ⟨by rw [h1]; exact h.1, fun k hk w hw => by rw [h2]; exact h.2.1 k hk w hw, fun g hg w hw => by rw [h3]; exact h.2.2 g hg w hw⟩
theorem sg5 : ∀ m, m < 16 → sgn 4 m = 126 ∧ sgn 5 m = 75 ∧ sgn 6 m = 80 ∧ sgn 7 m = 69 ∧ sgn 8 m = 67 ∧ sgn 9 m = 68 := by decide +kernel
theorem kn_57 {W : Wd} {m q q' : Nat} {x th : Int64} (h1 : q ≠ 8) (h2 : q ≠ 9) (h3 : q' ≠ 8) (h4 : q' ≠ 9) : kn W q m x th = kn W q' m x th := by
  unfold kn rch
  simp only [h1, h2, h3, h4, if_false]
theorem E_single {F P : Nat} (hF : 1000 < F) {D : xDt} {a ta ce : Nat} {W : Wd} (ho : oW a ta ce) (hW : wOK W) (hC : wC D a ta ce W) {s m : Nat} (h1 : 4 ≤ s) (h2 : s ≤ 9) (hm : m < 16) {th : Int64} (hth : D.2 207 5 = th) (hs : ∀ j, bt th j = true → j < W.1) (l r : T) : f_X3_single F P xS0 207 (nI (tk s m)) (ev W l th) a D = some (ev W (bn s m l r) th, D) := by
  rw [e_X3_single, E_signOf (by omega) hm]
  simp only [Option.bind_some]
  obtain ⟨g4, g5, g6, g7, g8, g9⟩ := sg5 m hm
  rcases (show s = 4 ∨ s = 5 ∨ s = 6 ∨ s = 7 ∨ s = 8 ∨ s = 9 by omega) with rfl | rfl | rfl | rfl | rfl | rfl
  · rw [g4, if_neg (by decide), if_neg (by decide), if_neg (by decide), if_pos (by decide), hth]
    rfl
  · rw [g5, if_neg (by decide), if_neg (by decide), if_neg (by decide), if_neg (by decide), E_known hF ho hW hC (by omega) (by omega) hm hth hs (q := 5) (by omega) (by omega)]
    rfl
  · rw [g6, if_neg (by decide), if_neg (by decide), if_pos (by decide), hth, E_known hF ho hW hC (by omega) (by omega) hm hth hs (q := 5) (by omega) (by omega)]
    rfl
  · rw [g7, if_neg (by decide), if_neg (by decide), if_neg (by decide), if_neg (by decide), E_known hF ho hW hC (by omega) (by omega) hm hth hs (q := 7) (by omega) (by omega)]
    rfl
  · rw [g8, if_pos (by decide), E_common hF ho hW hC hm hth hs]
    rfl
  · rw [g9, if_neg (by decide), if_pos (by decide), E_pooled hF ho hW hC hm hth hs]
    rfl
theorem E_joined {F P : Nat} {D : xDt} {W : Wd} (hn : W.1 ≤ 64) {s m : Nat} (h1 : 10 ≤ s) (h2 : s ≤ 15) (h : mOK s m) {th : Int64} (hth : D.2 207 5 = th) (l r : T) : f_X3_joined F P xS0 207 (nI (sgn s m)) (ev W l th) (ev W r (if 14 ≤ s then ev W l th else th)) D = some (ev W (bn s m l r) th, D) := by
  have hm : m = 0 := by unfold mOK at h; omega
  subst hm
  rw [e_X3_joined, hth]
  rcases (show s = 10 ∨ s = 11 ∨ s = 12 ∨ s = 13 ∨ s = 14 ∨ s = 15 by omega) with rfl | rfl | rfl | rfl | rfl | rfl
  · rw [if_neg (by decide), if_pos (by decide)]; rfl
  · rw [if_neg (by decide), if_neg (by decide), if_neg (by decide), if_neg (by decide)]; rfl
  · rw [if_neg (by decide), if_neg (by decide), if_neg (by decide), if_pos (by decide)]; rfl
  · rw [if_pos (by decide)]; rfl
  · rw [if_neg (by decide), if_neg (by decide), if_neg (by decide), if_neg (by decide)]; rfl
  · rw [if_neg (by decide), if_neg (by decide), if_pos (by decide)]
    have : ev W l th &&& ev W r (if 14 ≤ 15 then ev W l th else th) = ev W r (ev W l th) := by
      apply bt_ext
      intro j hj
      rw [if_pos (by omega), bt_and]
      cases hr : bt (ev W r (ev W l th)) j
      · simp
      · rw [ev_sub hn r _ j hr]; rfl
    rw [this]; rfl
theorem neg1 (x : Int32) : x + (-1) = x - 1 := by rw [Int32.sub_eq_add_neg]
theorem E_run {F P : Nat} (hF : 10000 < F) {a tc aw ta ce N : Nat} (hj : jo a tc aw ta ce N) {W : Wd} (hW : wOK W) : ∀ (t : T) (i d : Nat) (D : xDt) (th v : Int64) (fu : Nat), wfT t → tkAt (D.1 tc) i (tks t) → i + sz t ≤ N → D.1 a 1 = nI N → wC D aw ta ce W → D.1 207 4 = nI d → D.2 207 5 = th → d + sz t ≤ 2000 → (∀ j, bt th j = true → j < W.1) → ∃ D' k, d < k ∧ jf d D D' ∧ D'.2 207 5 = th ∧ f_X3_where_18 F P xS0 (fu + sz t) 207 a aw v (nI i) D = (f_X3_finish_11 F P xS0 k 207 aw (ev W t th) (nI d - 1) D').bind fun q => f_X3_where_18 F P xS0 fu 207 a aw q.1 (nI (i + sz t)) q.2
  | .leaf, _, _, _, _, _, _, h, _, _, _, _, _, _, _, _ => absurd h (by simp [wfT])
  | .inner s m () l r, i, d, D, th, v, fu, hw, ht, hN, ha, hC, h4, h5, hd, hth => by
    obtain ⟨j1, j2, j3, ho, j5, j6, j7, j8, j9⟩ := hj
    have hn := hW.1
    obtain ⟨w1, w2, w3, w4⟩ := hw
    have hm := m16 w3
    rw [tks, tkAt_cons, tkAt_app] at ht
    obtain ⟨t1, t2, t3⟩ := ht
    rw [sz] at hN hd
    have e0 : fu + sz (bn s m l r) = (fu + sz r + sz l) + 1 := by rw [sz]; omega
    rw [e0, e_X3_where_18, ha, if_neg (by rw [nI_leI (by omega) (by omega)]; omega), j1, xgrd_in (by omega) (by omega), nI_clamp (by omega), t1]
    simp only [xlet]
    rw [E_signOf (by omega) hm]
    simp only [Option.bind_some]
    rw [E_isLeaf w1 w2 w3]
    simp only [Option.bind_some, E_signOf (show s < 16 by omega) hm, e_X3_where_109, xlet]
    rcases w4 with ⟨w4, rfl, rfl⟩ | w4
    · -- a leaf
      rw [if_pos w4, if_neg (by decide)]
      have hl : f_X3_leaf F P xS0 207 (nI (sgn s m)) aw D = some (ev W (bn s m nil nil) th, D) := by
        rw [e_X3_leaf]
        rcases (show s = 1 ∨ s = 2 ∨ s = 3 by omega) with rfl | rfl | rfl
        · have m8 : m < 8 := m_8 w3 rfl
          have e1 : sgn 1 m = 97 + m := by
            show (97 + m) % 128 = _; omega
          rw [e1, if_neg (by rw [show (48 : Int32) = nI 48 from rfl, nI_eq (by omega) (by omega)]; omega), if_neg (by rw [show (49 : Int32) = nI 49 from rfl, nI_eq (by omega) (by omega)]; omega), show (97 : Int32) = nI 97 from rfl, nI_sub (by omega), Nat.add_sub_cancel_left, ho.1, ho.2.2.1, xgrd_in m8 (by omega), nI_clamp (by omega), h5]
          congr 2
          show _ = oa W m &&& th
          apply bt_ext
          intro j hj
          rw [bt_and, bt_and, oa, bt_mkS]
          cases hb : bt th j
          · simp
          · have := hth j hb
            rw [hC.2.1 m m8 j this]; simp [this, hj]
        · rw [if_pos (show nI (sgn 2 m) = 48 from rfl)]; rfl
        · rw [if_neg (show ¬ nI (sgn 3 m) = 48 from by show ¬ nI 49 = 48; decide), if_pos (show nI (sgn 3 m) = 49 from rfl), h5]; rfl
      rw [hl]
      simp only [Option.bind_some]
      refine ⟨D, F, by omega, jf_rfl _ _, h5, ?_⟩
      rw [e_X3_finish, h4]
      simp only [xlet, nI_1, sz, Nat.add_zero]
    · have hnl : ¬ s ≤ 3 := by omega
      rw [if_neg hnl, if_pos rfl, h4, if_neg (by rw [kof, nI_leI (by omega) (by omega)]; omega), xgrd_in (by omega) (by omega), nI_clamp (by omega)]
      rw [xup_na _ _ _ _ _ (show 207 ≠ 208 by omega), h4, xgrd_in (by omega) (by omega), nI_clamp (by omega)]
      rw [xup_na _ _ _ _ _ (show 207 ≠ 209 by omega), xup_na _ _ _ _ _ (show 207 ≠ 208 by omega), h4, nI_1, nI_1]
      -- the token is put on the stack
      generalize hD1 : ((xup (xup (xup D.1 208 d (nI (tk s m))) 209 d (0 &&& 1)) 207 4 (nI (d + 1)), D.2) : xDt) = D1
      have p1 : jf d D D1 := by
        subst hD1
        refine ⟨ch_i (by simp) (ch_i (D' := (xup D.1 208 d (nI (tk s m)), D.2)) (by simp) (ch_i (by simp) (ch_rfl _ _ _))), fun j hj => ⟨?_, ?_, rfl, rfl⟩⟩
        · dsimp only
          rw [xup_na _ _ _ _ _ (by omega), xup_na _ _ _ _ _ (by omega), xup_nk _ _ _ _ _ (by omega)]
        · dsimp only
          rw [xup_na _ _ _ _ _ (by omega), xup_nk _ _ _ _ _ (by omega), xup_na _ _ _ _ _ (by omega)]
      have p2 : D1.1 208 d = nI (tk s m) := by
        subst hD1
        dsimp only
        rw [xup_na _ _ _ _ _ (by omega), xup_na _ _ _ _ _ (by omega), xup_at]
      have p3 : D1.1 209 d = 0 := by
        subst hD1
        dsimp only
        rw [xup_na _ _ _ _ _ (by omega), xup_at]; rfl
      have p4 : D1.1 207 4 = nI (d + 1) := by
        subst hD1
        dsimp only
        rw [xup_at]
      have p5 : D1.2 = D.2 := by subst hD1; rfl
      have wl : wfT l := w4.elim (fun h => h.2.2.1) (fun h => h.2.1)
      obtain ⟨D2, k, k1, k2, k3, k4⟩ := E_run (P := P) hF ⟨j1, j2, j3, ho, j5, j6, j7, j8, j9⟩ hW l (i + 1) (d + 1) D1 th v (fu + sz r) wl (by rw [p1.1.1 tc j6]; exact t2) (by omega) (by rw [p1.1.1 a j5]; exact ha) (wC_congr (by rw [p1.1.1 aw j7]) (by rw [p5]) (by rw [p5]) hC) p4 (by rw [p5]; exact h5) (by omega) hth
      rw [k4]
      obtain ⟨k', rfl⟩ : ∃ k', k = k' + 1 := ⟨k - 1, by omega⟩
      have q2 : D2.1 208 d = nI (tk s m) := by rw [(k2.2 d (by omega)).1]; exact p2
      have q3 : D2.1 209 d = 0 := by rw [(k2.2 d (by omega)).2.1]; exact p3
      have q1 : jf d D D2 := jf_trans p1 (jf_le k2 (by omega))
      have hC2 : wC D2 aw ta ce W := wC_congr (by rw [q1.1.1 aw j7]) (q1.1.2 ta j8) (q1.1.2 ce j9) hC
      rw [e_X3_finish_11, nI_s1 (by omega), Nat.add_sub_cancel, if_neg (nI_pos (by omega)), xgrd_in (by omega) (by omega), nI_clamp (by omega), q2, E_signOf (by omega) hm]
      simp only [Option.bind_some]
      rw [E_hasTwo w1 w2 w3]
      simp only [Option.bind_some]
      rcases w4 with ⟨w4, w5, w6, rfl⟩ | ⟨w4, w5, w6⟩
      · -- one part
        rw [if_neg (show ¬ 10 ≤ s by omega), if_pos rfl, e_X3_finish_106, E_hasTwo w1 w2 w3]
        simp only [Option.bind_some]
        rw [if_neg (show ¬ 10 ≤ s by omega), if_pos rfl, xgrd_in (by omega) (by omega), nI_clamp (by omega), q2, E_single (by omega) ho hW hC2 w4 w5 hm k3 hth l nil]
        simp only [Option.bind_some, e_X3_finish_161, xlet, neg1]
        refine ⟨D2, k', by omega, q1, k3, ?_⟩
        congr 1
        funext q
        rw [sz]
        show f_X3_where_18 F P xS0 (fu + 0) 207 a aw q.1 _ q.2 = f_X3_where_18 F P xS0 fu 207 a aw q.1 (nI (i + (1 + sz l + 0))) q.2
        simp only [Nat.add_zero, Nat.add_assoc]
      · -- two parts: the first one is judged
        rw [if_pos w4, if_neg (by decide), xgrd_in (by omega) (by omega), q3, if_pos rfl]
        simp only [xlet, xin_nI (show d < 2000 by omega) (by omega), xgrd_t]
        rw [E_isSaying w1 w2 w3]
        simp only [Option.bind_some]
        have hsay : ∀ (X Y : Option (Int64 × xDt)), (if (if 14 ≤ s then (1 : Int32) else 0) = 0 then X else Y) = if 14 ≤ s then Y else X := by
          intro X Y
          by_cases c : 14 ≤ s
          · rw [if_pos c, if_neg (by decide), if_pos c]
          · rw [if_neg c, if_pos rfl, if_neg c]
        rw [hsay]
        have h92 : (if 14 ≤ s then f_X3_finish_92 F P xS0 207 (ev W l th) (nI d) (ev W l th) 207 (xup D2.1 209 d (1 &&& 1), xup (xup D2.2 210 d (ev W l th)) 211 d (xup D2.2 210 d (ev W l th) 207 5)) else f_X3_finish_92 F P xS0 207 (ev W l th) (nI d) (xup (xup D2.2 210 d (ev W l th)) 211 d (xup D2.2 210 d (ev W l th) 207 5) 207 5) 207 (xup D2.1 209 d (1 &&& 1), xup (xup D2.2 210 d (ev W l th)) 211 d (xup D2.2 210 d (ev W l th) 207 5))) = some (ev W l th, ((xup (xup D2.1 209 d 1) 207 4 (nI (d + 1)), xup (xup (xup D2.2 210 d (ev W l th)) 211 d th) 207 5 (if 14 ≤ s then ev W l th else th)) : xDt)) := by
          rw [e_X3_finish_92, e_X3_finish_92]
          simp only [xlet]
          rw [xup_na (xup D2.2 210 d (ev W l th)) _ _ _ _ (show 207 ≠ 211 by omega), xup_na D2.2 _ _ _ _ (show 207 ≠ 210 by omega), k3, nI_1]
          by_cases c : 14 ≤ s
          · rw [if_pos c, if_pos c]; rfl
          · rw [if_neg c, if_neg c]; rfl
        rw [h92]
        simp only [Option.bind_some]
        generalize hD3 : ((xup (xup D2.1 209 d 1) 207 4 (nI (d + 1)), xup (xup (xup D2.2 210 d (ev W l th)) 211 d th) 207 5 (if 14 ≤ s then ev W l th else th)) : xDt) = D3
        have r1 : jf d D2 D3 := by
          subst hD3
          refine ⟨⟨fun x hx => ?_, fun x hx => ?_⟩, fun j hj => ⟨?_, ?_, ?_, ?_⟩⟩
          · dsimp only
            simp only [List.mem_cons, List.not_mem_nil, or_false, not_or] at hx
            rw [xup_ne _ _ _ _ hx.1, xup_ne _ _ _ _ hx.2.2]
          · dsimp only
            simp only [List.mem_cons, List.not_mem_nil, or_false, not_or] at hx
            rw [xup_ne _ _ _ _ hx.1, xup_ne _ _ _ _ hx.2.2, xup_ne _ _ _ _ hx.2.1]
          · dsimp only
            rw [xup_na _ _ _ _ _ (by omega), xup_na _ _ _ _ _ (by omega)]
          · dsimp only
            rw [xup_na _ _ _ _ _ (by omega), xup_nk _ _ _ _ _ (by omega)]
          · dsimp only
            rw [xup_na _ _ _ _ _ (by omega), xup_na _ _ _ _ _ (by omega), xup_nk _ _ _ _ _ (by omega)]
          · dsimp only
            rw [xup_na _ _ _ _ _ (by omega), xup_nk _ _ _ _ _ (by omega), xup_na _ _ _ _ _ (by omega)]
        have r2 : D3.1 208 d = nI (tk s m) := by
          subst hD3
          dsimp only
          rw [xup_na _ _ _ _ _ (by omega), xup_na _ _ _ _ _ (by omega)]; exact q2
        have r3 : D3.1 209 d = 1 := by
          subst hD3
          dsimp only
          rw [xup_na _ _ _ _ _ (by omega), xup_at]
        have r4 : D3.2 210 d = ev W l th := by
          subst hD3
          dsimp only
          rw [xup_na _ _ _ _ _ (by omega), xup_na _ _ _ _ _ (by omega), xup_at]
        have r5 : D3.2 211 d = th := by
          subst hD3
          dsimp only
          rw [xup_na _ _ _ _ _ (by omega), xup_at]
        have r6 : D3.1 207 4 = nI (d + 1) := by
          subst hD3
          dsimp only
          rw [xup_at]
        have r7 : D3.2 207 5 = (if 14 ≤ s then ev W l th else th) := by
          subst hD3
          dsimp only
          rw [xup_at]
        have s1 : jf d D D3 := jf_trans q1 r1
        have hth2 : ∀ j, bt (if 14 ≤ s then ev W l th else th) j = true → j < W.1 := by
          intro j hj
          by_cases c : 14 ≤ s
          · rw [if_pos c] at hj; exact hth j (ev_sub hn l th j hj)
          · rw [if_neg c] at hj; exact hth j hj
        obtain ⟨D4, k5, k6, k7, k8, k9⟩ := E_run (P := P) hF ⟨j1, j2, j3, ho, j5, j6, j7, j8, j9⟩ hW r (i + 1 + sz l) (d + 1) D3 _ (ev W l th) fu w6 (by rw [s1.1.1 tc j6]; rw [tks_len] at t3; exact t3) (by omega) (by rw [s1.1.1 a j5]; exact ha) (wC_congr (by rw [s1.1.1 aw j7]) (s1.1.2 ta j8) (s1.1.2 ce j9) hC) r6 r7 (by omega) hth2
        rw [k9]
        obtain ⟨k5', rfl⟩ : ∃ k', k5 = k' + 1 := ⟨k5 - 1, by omega⟩
        obtain ⟨u1, u2, u3, u4⟩ := k7.2 d (by omega)
        rw [e_X3_finish_11, nI_s1 (by omega), Nat.add_sub_cancel, if_neg (nI_pos (by omega)), xgrd_in (by omega) (by omega), nI_clamp (by omega), u1, r2, E_signOf (by omega) hm]
        simp only [Option.bind_some]
        rw [E_hasTwo w1 w2 w3]
        simp only [Option.bind_some]
        rw [if_pos w4, if_neg (by decide), xgrd_in (by omega) (by omega), u2, r3, if_neg (by decide), e_X3_finish_106, E_hasTwo w1 w2 w3]
        simp only [Option.bind_some]
        rw [if_pos w4, if_neg (by decide)]
        simp only [xlet, xin_nI (show d < 2000 by omega) (by omega), xgrd_t, nI_clamp (show d < 2 ^ 31 by omega)]
        rw [xup_na _ _ _ _ _ (show 210 ≠ 207 by omega), u3, r4, u4, r5, E_joined hn w4 w2 w3 (by dsimp only; rw [xup_at]) l r]
        simp only [Option.bind_some, e_X3_finish_161, xlet, neg1]
        refine ⟨(D4.1, xup D4.2 207 5 th), k5', by omega, jf_trans s1 (jf_trans (jf_le k7 (by omega)) ?_), ?_, ?_⟩
        · exact ⟨ch_l (by simp) (ch_rfl _ _ _), fun j hj => ⟨rfl, rfl, by dsimp only; rw [xup_na _ _ _ _ _ (by omega)], by dsimp only; rw [xup_na _ _ _ _ _ (by omega)]⟩⟩
        · dsimp only
          rw [xup_at]
        · congr 1
          funext q
          rw [sz, show i + 1 + sz l + sz r = i + (1 + sz l + sz r) by omega]
def aS (W : Wd) : Int64 := mkS (fun j => decide (j < W.1))
theorem aS_lt {W : Wd} {j : Nat} (h : bt (aS W) j = true) : j < W.1 := by
  rw [aS, bt_mkS, Bool.and_eq_true, decide_eq_true_iff, decide_eq_true_iff] at h
  exact h.2
theorem E_where {F P : Nat} (hF : 10000 < F) {a tc aw ta ce : Nat} {t : T} (hj : jo a tc aw ta ce (sz t)) {W : Wd} (hW : wOK W) {D : xDt} (ht : wfT t) (hf : fmC D a tc t) (hC : wC D aw ta ce W) : ∃ D', f_X3_where F P xS0 207 a aw D = some (ev W t (aS W), D') ∧ jf 0 D D' := by
  have hj' := hj
  obtain ⟨j1, j2, j3, ho, j5, j6, j7, j8, j9⟩ := hj'
  rw [e_X3_where, E_all hC.1 hW.1]
  simp only [Option.bind_some, xlet]
  generalize hD1 : ((xup D.1 207 4 0, xup D.2 207 5 (mkS (fun j => decide (j < W.1)))) : xDt) = D1
  have p1 : jf 0 D D1 := by
    subst hD1
    exact ⟨ch_i (D' := (D.1, xup D.2 207 5 (mkS (fun j => decide (j < W.1))))) (by simp) (ch_l (by simp) (ch_rfl _ _ _)), fun j hj => absurd hj (by omega)⟩
  have p2 : D1.1 207 4 = nI 0 := by subst hD1; dsimp only; rw [xup_at]; rfl
  have p3 : D1.2 207 5 = aS W := by subst hD1; dsimp only; rw [xup_at]; rfl
  obtain ⟨fu, hfu⟩ : ∃ fu, F = (fu + 1) + sz t := ⟨F - 1 - sz t, by omega⟩
  obtain ⟨D2, k, k1, k2, k3, k4⟩ := E_run (P := P) hF hj hW t 0 0 D1 (aS W) 0 (fu + 1) ht (by rw [p1.1.1 tc j6]; exact hf.2) (by omega) (by rw [p1.1.1 a j5]; exact hf.1) (wC_congr (by rw [p1.1.1 aw j7]) (p1.1.2 ta j8) (p1.1.2 ce j9) hC) p2 p3 (by omega) (fun j => aS_lt)
  obtain ⟨k', rfl⟩ : ∃ k', k = k' + 1 := ⟨k - 1, by omega⟩
  have e : f_X3_where_18 F P xS0 F 207 a aw 0 0 D1 = f_X3_where_18 F P xS0 ((fu + 1) + sz t) 207 a aw 0 (nI 0) D1 := by rw [← hfu]; rfl
  rw [e, k4, e_X3_finish_11, if_pos (by decide)]
  simp only [xlet, Option.bind_some]
  have q1 : jf 0 D (xup D2.1 207 4 0, D2.2) := ⟨ch_i (by simp) (jf_trans p1 k2).1, fun j hj => absurd hj (by omega)⟩
  refine ⟨_, ?_, q1⟩
  rw [e_X3_where_18, if_pos]
  have : ((xup D2.1 207 4 0, D2.2) : xDt).1 a 1 = nI (sz t) := by rw [q1.1.1 a j5]; exact hf.1
  rw [this, Nat.zero_add]
  exact Int32.le_refl _
