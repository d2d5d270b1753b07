/-! how deep a formula is -/
theorem d_step {F P : Nat} {s m i : Nat} (w1 : 1 ≤ s) (w2 : s ≤ 15) (w3 : mOK s m) (hi : i < 2000) (D1 : xDt) (k1 fu1 : Nat) (h1 : D1.1 203 i = nI (tk s m)) : f_X2_depth_9 F P xS0 (fu1 + 1) 202 240 (nI k1) (nI (i + 1) - 1) D1 = (if (if s ≤ 3 then (1 : Int32) else 0) = 0 then (f_X2_depth_48 F P xS0 (f_X2_depth_9 F P xS0 fu1) 202 240 (nI k1) (nI i) (nI (sgn s m)) D1) else (if (Int32.ofNat 2000) ≤ nI k1 then (f_X2_depth_48 F P xS0 (f_X2_depth_9 F P xS0 fu1) 202 240 (nI k1) (nI i) (nI (sgn s m)) D1) else (xgrd (xin (nI k1) 2000) (f_X2_depth_9 F P xS0 fu1 202 240 (nI k1 + 1) (nI i - 1) (xup D1.1 240 (nI k1).toNatClampNeg 0, D1.2))))) := by
  have hm := m16 w3
  show f_X2_depth_9s F P xS0 (f_X2_depth_9 F P xS0 fu1) 202 240 (nI k1) (nI (i + 1) - 1) D1 = _
  unfold f_X2_depth_9s
  rw [nI_s1 (by omega), Nat.add_sub_cancel, if_neg (nI_pos (by omega)), rr202, ll203, ll240, xgrd_in (by omega) (by omega), nI_clamp (by omega), h1, E_signOf (by omega) hm]
  simp only [Option.bind_some]
  rw [E_isLeaf w1 w2 w3]
  simp only [Option.bind_some, f_X2_depth_105, xlet, neg1]
theorem d_48b {F P : Nat} {s m i : Nat} (w1 : 10 ≤ s) (w2 : s ≤ 15) (w3 : mOK s m) (D1 : xDt) (k1 fu1 : Nat) (hk : k1 + 2 ≤ 2000) : f_X2_depth_48 F P xS0 (f_X2_depth_9 F P xS0 fu1) 202 240 (nI (k1 + 2)) (nI i) (nI (sgn s m)) D1 = f_X2_depth_9 F P xS0 fu1 202 240 (nI (k1 + 1)) (nI i - 1) (xup D1.1 240 k1 (jmax (D1.1 240 k1) (D1.1 240 (k1 + 1))), D1.2) := by
  have e1 : nI (k1 + 2) + (-1) = nI (k1 + 1) := by rw [neg1, nI_s1 (by omega)]; rfl
  have e2 : nI (k1 + 1) - 1 = nI k1 := by rw [nI_s1 (by omega)]; rfl
  unfold f_X2_depth_48
  rw [E_hasTwo (by omega) w2 w3, Option.bind_some, if_pos w1, if_neg (show ¬ (1 : Int32) = 0 by decide), if_neg (show ¬ nI (k1 + 2) < 2 from by rw [k2, nI_ltI (by omega) (by omega)]; omega), ll240, e1]
  simp only [xlet, f_X2_depth_105]
  rw [e2, xgrd_in (by omega) (by omega), xgrd_in (by omega) (by omega), xgrd_in (by omega) (by omega), nI_clamp (by omega), nI_clamp (by omega), neg1]
theorem k1_ : (1 : Int32) = nI 1 := rfl
theorem d_48a {F P : Nat} {s m i : Nat} (w0 : 4 ≤ s) (w1 : s ≤ 9) (w3 : mOK s m) (D1 : xDt) (k1 fu1 : Nat) (hk : k1 + 1 ≤ 2000) : f_X2_depth_48 F P xS0 (f_X2_depth_9 F P xS0 fu1) 202 240 (nI (k1 + 1)) (nI i) (nI (sgn s m)) D1 = f_X2_depth_9 F P xS0 fu1 202 240 (nI (k1 + 1)) (nI i - 1) (if 5 ≤ s then (xup D1.1 240 k1 (D1.1 240 k1 + 1), D1.2) else D1) := by
  have e2 : nI (k1 + 1) - 1 = nI k1 := by rw [nI_s1 (by omega)]; rfl
  unfold f_X2_depth_48
  rw [E_hasTwo (by omega) (by omega) w3, Option.bind_some, if_neg (show ¬ 10 ≤ s by omega), if_pos rfl]
  unfold f_X2_depth_83
  rw [E_isKnowing (by omega) (by omega) w3, Option.bind_some]
  by_cases h5 : 5 ≤ s
  · rw [if_pos (show 5 ≤ s ∧ s ≤ 9 by omega), if_neg (show ¬ (1 : Int32) = 0 by decide), if_neg (show ¬ nI (k1 + 1) < 1 from by rw [k1_, nI_ltI (by omega) (by omega)]; omega), ll240, e2, if_pos h5]
    simp only [xlet, f_X2_depth_105]
    rw [xgrd_in (by omega) (by omega), xgrd_in (by omega) (by omega), nI_clamp (by omega), neg1]
  · rw [if_neg (show ¬ (5 ≤ s ∧ s ≤ 9) by omega), if_pos rfl, if_neg h5]
    simp only [xlet, f_X2_depth_105]
    rw [neg1]
theorem E_drun {F P : Nat} : ∀ (t : T) (i k : Nat) (D : xDt) (fu : Nat), wfT t → tkAt (D.1 203) i (tks t) → i + sz t ≤ 2000 → k + sz t ≤ 2000 → ∃ D', ch [240] [] D D' ∧ (∀ j, j < k → D'.1 240 j = D.1 240 j) ∧ D'.1 240 k = nI (dp t) ∧ f_X2_depth_9 F P xS0 (fu + sz t) 202 240 (nI k) (nI (i + sz t) - 1) D = f_X2_depth_9 F P xS0 fu 202 240 (nI (k + 1)) (nI i - 1) D'
  | .leaf, _, _, _, _, h, _, _, _ => absurd h (by simp [wfT])
  | .inner s m () l r, i, k, D, fu, hw, ht, hi, hk => by
    obtain ⟨w1, w2, w3, w4⟩ := hw
    have hm := m16 w3
    rw [tks, tkAt_cons, tkAt_app] at ht
    obtain ⟨t1, t2, t3⟩ := ht
    rw [tks_len] at t3
    rw [sz] at hi hk
    have step := d_step (F := F) (P := P) w1 w2 w3 (show i < 2000 by omega)
    rcases w4 with ⟨w4, rfl, rfl⟩ | ⟨w4, w5, w6, rfl⟩ | ⟨w4, w5, w6⟩
    · refine ⟨(xup D.1 240 k 0, D.2), ch_i (by simp) (ch_rfl _ _ _), fun j hj => by dsimp only; rw [xup_nk _ _ _ _ _ (by omega)], ?_, ?_⟩
      · dsimp only
        rw [xup_at, dp, if_neg (by omega)]; rfl
      · have e : fu + sz (bn s m nil nil) = fu + 1 := rfl
        have e2 : i + sz (bn s m nil nil) = i + 1 := rfl
        rw [e, e2, step D k fu t1, if_pos w4, if_neg (by decide), if_neg (by rw [kof, nI_leI (by omega) (by omega)]; omega), xgrd_in (by omega) (by omega), nI_clamp (by omega), nI_1]
    · obtain ⟨D1, c1, c2, c3, c4⟩ := E_drun (F := F) (P := P) l (i + 1) k D (fu + 1) w6 t2 (by omega) (by omega)
      have e : fu + sz (bn s m l nil) = fu + 1 + sz l := by rw [sz]; show fu + (1 + sz l + 0) = _; omega
      have e2 : i + sz (bn s m l nil) = i + 1 + sz l := by rw [sz]; show i + (1 + sz l + 0) = _; omega
      have t1' : D1.1 203 i = nI (tk s m) := by rw [c1.1 203 (by decide)]; exact t1
      have hdl := dp_le l
      rw [e, e2, c4, step D1 (k + 1) fu t1', if_neg (show ¬ s ≤ 3 by omega), if_pos rfl, d_48a w4 w5 w3 D1 k fu (by omega)]
      by_cases hk5 : 5 ≤ s
      · rw [if_pos hk5, c3, nI_1]
        refine ⟨_, ch_i (by simp) c1, fun j hj => ?_, ?_, rfl⟩
        · dsimp only
          rw [xup_nk _ _ _ _ _ (by omega)]; exact c2 j hj
        · dsimp only
          rw [xup_at, dp, if_pos (by omega)]
          show nI (dp l + 1) = nI (max (dp l) 0 + 1)
          rw [Nat.max_eq_left (by omega)]
      · rw [if_neg hk5]
        refine ⟨D1, c1, c2, ?_, rfl⟩
        rw [c3, dp, if_neg (by omega)]
        show nI (dp l) = nI (max (dp l) 0)
        rw [Nat.max_eq_left (by omega)]
    · obtain ⟨D1, c1, c2, c3, c4⟩ := E_drun (F := F) (P := P) r (i + 1 + sz l) k D (fu + 1 + sz l) w6 t3 (by omega) (by omega)
      obtain ⟨D2, d1, d2, d3, d4⟩ := E_drun (F := F) (P := P) l (i + 1) (k + 1) D1 (fu + 1) w5 (by rw [c1.1 203 (by decide)]; exact t2) (by omega) (by omega)
      have e : fu + sz (bn s m l r) = fu + 1 + sz l + sz r := by rw [sz]; omega
      have e2 : i + sz (bn s m l r) = i + 1 + sz l + sz r := by rw [sz]; omega
      have t1' : D2.1 203 i = nI (tk s m) := by rw [d1.1 203 (by decide), c1.1 203 (by decide)]; exact t1
      have hdl := dp_le l
      have hdr := dp_le r
      have p1 := sz_pos w5
      have p2 := sz_pos w6
      rw [e, e2, c4, d4, step D2 (k + 1 + 1) fu t1', if_neg (show ¬ s ≤ 3 by omega), if_pos rfl, d_48b w4 w2 w3 D2 k fu (by omega), d3, d2 k (by omega), c3, jmax_n (by omega) (by omega)]
      refine ⟨_, ch_i (by simp) (ch_trans c1 d1), fun j hj => ?_, ?_, rfl⟩
      · dsimp only
        rw [xup_nk _ _ _ _ _ (by omega), d2 j (by omega)]; exact c2 j hj
      · dsimp only
        rw [xup_at, dp, if_neg (by omega), Nat.max_comm]
theorem E_depth {F P : Nat} (hF : 10000 < F) {D : xDt} {t : T} (hT : iT D t) : ∃ D1, f_X2_depth F P xS0 202 240 D = some (nI (dp t), D1) ∧ ch [240] [] D D1 := by
  obtain ⟨a1, a2, a3, a4, _⟩ := hT
  obtain ⟨fu, hfu⟩ : ∃ fu, F = (fu + 1) + sz t := ⟨F - 1 - sz t, by omega⟩
  obtain ⟨D1, c1, c2, c3, c4⟩ := E_drun (F := F) (P := P) t 0 0 D (fu + 1) a1 a4.2 (by omega) (by omega)
  refine ⟨D1, ?_, c1⟩
  unfold f_X2_depth
  simp only [xlet]
  rw [a4.1]
  have e : f_X2_depth_9 F P xS0 F 202 240 0 (nI (sz t) - 1) D = f_X2_depth_9 F P xS0 ((fu + 1) + sz t) 202 240 (nI 0) (nI (0 + sz t) - 1) D := by rw [← hfu, Nat.zero_add]; rfl
  rw [e, c4]
  show f_X2_depth_9s F P xS0 (f_X2_depth_9 F P xS0 fu) 202 240 (nI 1) (nI 0 - 1) D1 = _
  unfold f_X2_depth_9s
  rw [if_pos (by decide), if_neg (by decide), ll240, show xin 0 2000 = true by decide, xgrd_t]
  show some (D1.1 240 0, D1) = _
  rw [c3]
theorem E_mdepth {F P : Nat} {D : xDt} {lo : Nat} : ∀ (t : T) (i n : Nat), nd D.1 lo t i → sz t < n → sz t ≤ 100000 → wfT t → f_X12_depth F P xS0 n 241 (nI i) D = some (nI (dp t), D)
  | .leaf, _, _, h, _, _, _ => absurd h (by simp [nd])
  | .inner s m () l r, i, 0, _, h, _, _ => absurd h (by omega)
  | .inner s m () l r, i, n + 1, hd, hs, hz, hw => by
    obtain ⟨d1, d2, d3, d4, d5, d6, d7⟩ := hd
    obtain ⟨w1, w2, w3, w4⟩ := hw
    have hi : xin (nI i) 92800 = true := xin_nI d2 (by omega)
    have hc : (nI i).toNatClampNeg = i := nI_clamp (by omega)
    rw [sz] at hs hz
    have hdl := dp_le l
    have hdr := dp_le r
    show f_X12_depth_o F P xS0 (f_X12_depth F P xS0 n) 241 (nI i) D = _
    have h58 : ∀ x, x ≤ 100000 → f_X12_depth_58 F P xS0 (f_X12_depth F P xS0 n) 241 (nI i) (nI x) D = some (nI (if 5 ≤ s ∧ s ≤ 9 then x + 1 else x), D) := by
      intro x hx
      rw [e_X12_depth_58, hi, hc, xgrd_t, d3, xgrd_t]
      by_cases c1 : s < 5
      · rw [if_pos (show nI s < 5 from (nI_ltI (b := 5) (by omega) (by omega)).mpr c1), if_neg (show ¬ (5 ≤ s ∧ s ≤ 9) by omega)]
        rfl
      · rw [if_neg (show ¬ nI s < 5 from fun c => c1 ((nI_ltI (b := 5) (by omega) (by omega)).mp c))]
        by_cases c2 : 9 < s
        · rw [if_pos (show 9 < nI s from (nI_ltI (a := 9) (by omega) (by omega)).mpr c2), if_neg (show ¬ (5 ≤ s ∧ s ≤ 9) by omega)]
          rfl
        · rw [if_neg (show ¬ 9 < nI s from fun c => c2 ((nI_ltI (a := 9) (by omega) (by omega)).mp c)), if_pos (show 5 ≤ s ∧ s ≤ 9 by omega), nI_1]
    have h47 : ∀ x y, x ≤ 100000 → y ≤ 100000 → f_X12_depth_47 F P xS0 (f_X12_depth F P xS0 n) 241 (nI i) (nI x) (nI y) D = some (nI (if 5 ≤ s ∧ s ≤ 9 then max x y + 1 else max x y), D) := by
      intro x y hx hy
      rw [e_X12_depth_47]
      by_cases c : x ≤ y
      · rw [if_pos ((nI_leI (by omega) (by omega)).mpr c), h58 y hy, Nat.max_eq_right c]
      · rw [if_neg (fun q => c ((nI_leI (by omega) (by omega)).mp q)), h58 x hx, Nat.max_eq_left (by omega)]
    rw [e_X12_depth_o, hi, hc, xgrd_t, xgrd_t]
    have hr : ∀ x, x ≤ 100000 → f_X12_depth_23 F P xS0 (f_X12_depth F P xS0 n) 241 (nI i) (nI x) D = some (nI (if 5 ≤ s ∧ s ≤ 9 then max x (dp r) + 1 else max x (dp r)), D) := by
      intro x hx
      rw [e_X12_depth_23, hi, hc, xgrd_t, xgrd_t]
      rcases d7 with ⟨rfl, e⟩ | ⟨j, hj, e, hn⟩
      · rw [e, if_neg (by decide)]
        exact h47 x 0 hx (by omega)
      · rw [e, if_pos (nI_pos' (by omega)), E_mdepth r j n hn (by omega) (by omega) (by
          rcases w4 with h | h | h
          · rw [h.2.2] at hn; exact absurd hn (by simp [nd])
          · rw [h.2.2.2] at hn; exact absurd hn (by simp [nd])
          · exact h.2.2), Option.bind_some]
        exact h47 x (dp r) hx (by omega)
    rcases d6 with ⟨rfl, e⟩ | ⟨j, hj, e, hn⟩
    · rw [e, if_neg (by decide)]
      exact hr 0 (by omega)
    · rw [e, if_pos (nI_pos' (by omega)), E_mdepth l j n hn (by omega) (by omega) (by
          rcases w4 with h | h | h
          · rw [h.2.1] at hn; exact absurd hn (by simp [nd])
          · exact h.2.2.1
          · exact h.2.1), Option.bind_some]
      exact hr (dp l) (by omega)
theorem M_count {dA : T → Nat → Int32} {F P : Nat} (hF : 10000 < F) (hP : 2005 < P) {D : xDt} (h : Iv dA D) (x : Int32) : Two dA D (f_X11_count F P xS0 0 x) (f_X12_count F P xS0 241 x) := by
  obtain ⟨W, L, t, E, sg, tx, a1, a2, a3, a4, a5, a6, a7, a8⟩ := id h
  obtain ⟨p, hp, p1, p2, p3, _⟩ := a2.2
  obtain ⟨b1, b2, b3, b4, i, b5, b6, b7⟩ := id a3
  by_cases h0 : x = 0
  · subst h0
    exact Iv_same (r := nI W.1) h (by rw [e_X11_count, if_pos rfl, a1.2.1.1]) (by rw [e_X12_count, if_pos rfl, a1.2.2.1])
  by_cases h1 : x = 1
  · subst h1
    exact Iv_same (r := nI E.1) h (by rw [e_X11_count, if_neg h0, if_pos rfl, a4.2.1]) (by rw [e_X12_count, if_neg h0, if_pos rfl, a4.2.2.1])
  by_cases h2 : x = 2
  · subst h2
    exact Iv_same (r := nI (sz t)) h (by rw [e_X11_count, if_neg h0, if_neg h1, if_pos rfl, b4.1]) (by rw [e_X12_count, if_neg h0, if_neg h1, if_pos rfl, b6, xgrd_in (by omega) (by omega), nI_clamp (by omega), nd_sz b7])
  by_cases h3 : x = 3
  · subst h3
    exact Iv_same (r := nI sg.length) h (by rw [e_X11_count, if_neg h0, if_neg h1, if_neg h2, if_pos rfl, a5.2.2.1]) (by rw [e_X12_count, if_neg h0, if_neg h1, if_neg h2, if_pos rfl, a5.2.2.2.2.1])
  by_cases h4 : x = 4
  · subst h4
    exact Iv_same (r := nI L.length) h (by rw [e_X11_count, if_neg h0, if_neg h1, if_neg h2, if_neg h3, if_pos rfl, p2]) (by rw [e_X12_count, if_neg h0, if_neg h1, if_neg h2, if_neg h3, if_pos rfl, p3])
  by_cases h5 : x = 5
  · subst h5
    obtain ⟨D1, e1, c1⟩ := E_depth (F := F) (P := P) hF a3
    have f1 : fr D D1 := fr_ch (by decide) c1
    refine ⟨nI (dp t), D1, D1, ?_, ?_, Iv_fr h f1 (by rw [c1.1 0 (by decide)]) (c1.2 0 (by simp))⟩
    · rw [e_X11_count, if_neg h0, if_neg h1, if_neg h2, if_neg h3, if_neg h4, if_pos rfl, e1]; rfl
    · obtain ⟨_, _, _, _, i', q5, q6, q7⟩ := fr_T f1 a3
      rw [e_X12_count, if_neg h0, if_neg h1, if_neg h2, if_neg h3, if_neg h4, if_pos rfl, q6, E_mdepth t i' P q7 (by omega) (by omega) b1]; rfl
  · exact Iv_same (r := -1) h (by rw [e_X11_count, if_neg h0, if_neg h1, if_neg h2, if_neg h3, if_neg h4, if_neg h5]) (by rw [e_X12_count, if_neg h0, if_neg h1, if_neg h2, if_neg h3, if_neg h4, if_neg h5])
theorem M_letter {dA : T → Nat → Int32} {F P : Nat} {D : xDt} (h : Iv dA D) (x : Int32) : Two dA D (f_X11_letter F P xS0 0 x) (f_X12_letter F P xS0 241 x) := by
  obtain ⟨W, L, t, E, sg, tx, a1, a2, a3, a4, a5, a6, a7, a8⟩ := id h
  obtain ⟨b0, b1, b2, b3, b4⟩ := a6
  rcases i_in tx.length x with ⟨j, hj, _, rfl⟩ | hx
  · refine Iv_same (r := nI (tx.getD j 0)) h ?_ ?_
    · have := b2 j hj
      rw [Nat.zero_add] at this
      rw [e_X11_letter, if_neg (nI_pos (by omega)), b1, if_pos ((nI_ltI (by omega) (by omega)).mpr hj), xgrd_in (by omega) (by omega), nI_clamp (by omega), this]
    · have := b4 j hj
      rw [Nat.zero_add] at this
      rw [e_X12_letter, b3, nI_s1 (by omega), show f_X12_in F P xS0 (nI j) 0 (nI (tx.length - 1)) D = some (1, D) from E_in1 (lo := 0) (by omega) (by omega) (by omega), Option.bind_some, if_neg (show ¬ (1 : Int32) = 0 by decide), xgrd_in (by omega) (by omega), nI_clamp (by omega), this]
  · refine Iv_same (r := -2) h ?_ ?_
    · rw [e_X11_letter, b1]
      rcases hx with h1 | ⟨j, h1, h2, rfl⟩
      · rw [if_pos h1]
      · rw [if_neg (nI_pos h2), if_neg (fun c => by rw [nI_ltI h2 (by omega)] at c; omega)]
    · rw [e_X12_letter, b3, E_in, Option.bind_some]
      have : (if x < 0 then (0 : Int32) else if nI tx.length - 1 < x then 0 else 1) = 0 := by
        rcases hx with h1 | ⟨j, h1, h2, rfl⟩
        · rw [if_pos h1]
        · rw [if_neg (nI_pos h2), if_pos]
          by_cases h0 : tx.length = 0
          · rw [h0]; exact neg_lt (by decide) h2
          · rw [nI_s1 (by omega), nI_ltI (by omega) h2]; omega
      rw [if_pos this]
theorem M_noEvents {dA : T → Nat → Int32} {F P : Nat} {D : xDt} (h : Iv dA D) : Two dA D (f_X11_noEvents F P xS0 0) (f_X12_noEvents F P xS0 241) := by
  obtain ⟨W, L, t, E, sg, tx, a1, a2, a3, a4, a5, a6, a7, a8⟩ := id h
  obtain ⟨g0, g1, g2, g3, g4, g5⟩ := a4
  refine ⟨nI E.1, (xup D.1 42 0 0, D.2), (xup (xup D.1 42 0 0) 241 25 0, D.2), ?_, ?_, ?_⟩
  · rw [e_X11_noEvents, g1]; rfl
  · rw [e_X12_noEvents]
    simp only [xlet]
    rw [xup_na _ _ _ _ _ (by omega), g2]
  · have q1 : ∀ x, x ≠ 42 → x ≠ 241 → xup (xup D.1 42 0 0) 241 25 0 x = D.1 x := fun x h1 h2 => by rw [xup_ne _ _ _ _ h2, xup_ne _ _ _ _ h1]
    have q2 : ∀ j, j ≠ 25 → xup (xup D.1 42 0 0) 241 25 0 241 j = D.1 241 j := fun j hj => by rw [xup_nk _ _ _ _ _ hj, xup_na _ _ _ _ _ (by omega)]
    refine ⟨W, L, t, (0, E.2), sg, tx, ?_, ?_, ?_, ?_, ?_, ?_, ?_, ?_⟩
    · exact iW_congr (congrFun (q1 1 (by omega) (by omega)) 0) rfl rfl (q2 1 (by omega)) (q1 242 (by omega) (by omega)) (q1 243 (by omega) (by omega)) a1
    · exact iK_congr (q1 4 (by omega) (by omega)) (q2 7 (by omega)) (fun x hx hx2 => ⟨q1 x (by omega) (by omega), rfl⟩) (fun x hx hx2 => q1 x (by omega) (by omega)) a2
    · exact iT_congr (by dsimp only; rw [q1 202 (by omega) (by omega)]) (q1 203 (by omega) (by omega)) (q2 14 (by omega)) (fun x hx hx2 j _ => by dsimp only; rw [q1 x (by omega) (by omega)]) a3
    · refine ⟨by simp, ?_, ?_, fun e he => absurd he (by simp), fun e he => absurd he (by simp), fun g hg e he => absurd he (by simp)⟩
      · dsimp only; rw [xup_na _ _ _ _ _ (by omega), xup_at]; rfl
      · dsimp only; rw [xup_at]; rfl
    · exact iS_congr (by dsimp only; rw [q1 192 (by omega) (by omega)]) (q1 193 (by omega) (by omega)) (q2 16 (by omega)) (q1 252 (by omega) (by omega)) a5
    · exact iX_congr (by dsimp only; rw [q1 204 (by omega) (by omega)]) (q1 205 (by omega) (by omega)) (q2 21 (by omega)) (q1 253 (by omega) (by omega)) a6
    · exact iJ_congr (congrFun (q1 0 (by omega) (by omega)) 13) rfl a7
    · exact iD_congr (by dsimp only; rw [q1 0 (by omega) (by omega)]) (q1 223 (by omega) (by omega)) a8
