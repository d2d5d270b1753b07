/-! reduce: the class's draft -/
def dr (D : xDt) (L : List Nat) : Prop := D.1 220 1 = nI L.length ∧ tkAt (D.1 221) 0 L
def dK (o : Option (Int32 × xDt)) (D : xDt) (L : List Nat) : Prop := (L.length ≤ 2000 → ∃ D', o = some (1, D') ∧ dr D' L ∧ ch [220, 221] [] D D') ∧ (2000 < L.length → ∃ D', o = some (0, D') ∧ ch [220, 221] [] D D')
theorem l221 : xl xS0 221 = 2000 ∧ xr xS0 220 0 = 221 ∧ xl xS0 218 = 2000 := ⟨by decide +kernel, by decide +kernel, by decide +kernel⟩
theorem dK_b {o : Option (Int32 × xDt)} {D : xDt} {L1 L2 : List Nat} {f : Int32 × xDt → Option (Int32 × xDt)} (h : dK o D L1) (hl : L1.length ≤ L2.length) (h0 : ∀ D', f (0, D') = some (0, D')) (h1 : ∀ D', L1.length ≤ 2000 → dr D' L1 → ch [220, 221] [] D D' → dK (f (1, D')) D' L2) : dK (o.bind f) D L2 := by
  constructor
  · intro hz
    obtain ⟨D1, rfl, d1, c1⟩ := h.1 (by omega)
    obtain ⟨D2, e, d2, c2⟩ := (h1 D1 (by omega) d1 c1).1 hz
    exact ⟨D2, e, d2, ch_trans c1 c2⟩
  · intro hz
    by_cases c : L1.length ≤ 2000
    · obtain ⟨D1, rfl, d1, c1⟩ := h.1 c
      obtain ⟨D2, e, c2⟩ := (h1 D1 c d1 c1).2 hz
      exact ⟨D2, e, ch_trans c1 c2⟩
    · obtain ⟨D1, rfl, c1⟩ := h.2 (by omega)
      exact ⟨D1, h0 D1, c1⟩
theorem E_dadd {F P : Nat} {D : xDt} {L : List Nat} {c : Nat} (h : dr D L) (hl : L.length ≤ 2000) : dK (f_X2_add F P xS0 220 (nI c) D) D (L ++ [c]) := by
  constructor
  · intro hz
    rw [List.length_append, List.length_singleton] at hz
    refine ⟨(xup (xup D.1 220 1 (nI (L.length + 1))) 221 L.length (nI c), D.2), ?_, ⟨?_, ?_⟩, ch_i (D' := (xup D.1 220 1 (nI (L.length + 1)), D.2)) (by simp) (ch_i (by simp) (ch_rfl _ _ _))⟩
    · unfold f_X2_add
      rw [l221.2.1, l221.1, h.1, if_pos (show nI L.length < Int32.ofNat 2000 from nI_lt (b := 2000) (by omega) (by omega))]
      simp only [xlet]
      rw [xgrd_in (by omega) (by omega), nI_clamp (by omega), nI_1]
    · dsimp only
      rw [xup_na _ _ _ _ _ (by omega), xup_at, List.length_append]; rfl
    · dsimp only
      refine tkAt_app.mpr ⟨tkAt_congr (fun i hi => ?_) h.2, tkAt_cons.mpr ⟨?_, fun i hi => absurd hi (by simp)⟩⟩
      · rw [xup_nk _ _ _ _ _ (by omega), xup_ne _ _ _ _ (by omega)]
      · rw [Nat.zero_add, xup_at]
  · intro hz
    rw [List.length_append, List.length_singleton] at hz
    refine ⟨D, ?_, ch_rfl _ _ _⟩
    unfold f_X2_add
    rw [l221.2.1, l221.1, h.1, kof, if_neg (by rw [nI_ltI (by omega) (by omega)]; omega)]
theorem E_daddAll {F P : Nat} {D : xDt} {L xs : List Nat} {f m : Nat} (h : dr D L) (hl : L.length ≤ 2000) (hx : tkAt (D.1 218) f xs) (hm : f + xs.length = m) (hm2 : m ≤ 2000) : dK (f_X2_addAll F P xS0 220 218 (nI f) (nI m) D) D (L ++ xs) := by
  subst hm
  constructor
  · intro hz
    rw [List.length_append] at hz
    refine ⟨_, E_addAll (ta := 221) (s := L.length) l221.2.1 h.1 (by omega) (by omega) (by rw [l221.2.2]; exact hm2) (by rw [l221.1]; omega) (by rw [l221.1]; omega) (by rw [l221.2.2]; omega), ⟨?_, ?_⟩, fun x hx => ?_, fun x _ => rfl⟩
    · dsimp only
      rw [xup_at, List.length_append, Nat.add_sub_cancel_left]
    · dsimp only
      rw [xup_ne _ _ _ _ (by omega), xcp_eq]
      refine tkAt_app.mpr ⟨tkAt_congr (fun i hi => ?_) h.2, fun i hi => ?_⟩
      · unfold va_cpy
        rw [if_neg (by omega)]
      · unfold va_cpy
        rw [if_pos (by omega), ← hx i hi, show f + (0 + L.length + i - L.length) = f + i by omega]
    · simp only [List.mem_cons, List.not_mem_nil, or_false, not_or] at hx
      dsimp only
      rw [xup_ne _ _ _ _ hx.1, xcp_ne _ _ _ _ _ _ hx.2]
  · intro hz
    rw [List.length_append] at hz
    exact ⟨D, E_addAll0 (ta := 221) (s := L.length) l221.2.1 h.1 (by omega) (by rw [l221.2.2]; exact hm2) (by rw [l221.1]; omega) (by rw [l221.1]; omega) (by rw [l221.1]; omega) (by rw [l221.2.2]; omega), ch_rfl _ _ _⟩
theorem dK_some {D : xDt} {L : List Nat} (h : dr D L) (hl : L.length ≤ 2000) : dK (some (1, D)) D L := ⟨fun _ => ⟨D, rfl, h, ch_rfl _ _ _⟩, fun q => absurd q (by omega)⟩
/-- a token behind what is said -/
theorem E_dpush {F P : Nat} {D : xDt} {L xs : List Nat} {f mi s m : Nat} (h : dr D L) (hl : L.length ≤ 2000) (h3 : D.1 217 3 = nI f) (hx : tkAt (D.1 218) f xs) (hm : f + xs.length = mi) (hm2 : mi ≤ 2000) (w1 : 1 ≤ s) (w2 : s ≤ 15) (w3 : mOK s m) : dK (f_X7_push F P xS0 217 (nI (tk s m)) (nI mi) D) D (L ++ tpsh xs (tk s m)) := by
  obtain ⟨t1, t2, t3, t4, t5⟩ := tk_mod s (by omega) m (m16 w3) w1 w3
  have f67 : ∀ D', f_X7_push_67 F P xS0 217 (nI mi) (nI (sgn s m)) D' = some (0, D') := by
    intro D'
    rw [e_X7_push_67, e_X7_push_68, if_pos (show (0 : Int32) = 0 from rfl)]
    by_cases c : nI (sgn s m) = 80
    · rw [if_pos c]; rfl
    · rw [if_neg c]; rfl
  rw [e_X7_push, E_signOf (by omega) (m16 w3), Option.bind_some]
  dsimp only
  rw [E_isJoin w1 w2 w3, Option.bind_some]
  by_cases c1 : 10 ≤ s ∧ s ≤ 13
  · rw [if_pos c1, if_neg (show ¬ (1 : Int32) = 0 by decide)]
    dsimp only
    rw [tpsh, if_pos (t1.mpr c1)]
    exact dK_b (E_dadd h hl) (Nat.le_refl _) (fun D' => rfl) (fun D' hz hd _ => dK_some hd hz)
  · rw [if_neg c1, if_pos (show (0 : Int32) = 0 from rfl)]
    dsimp only
    rw [tpsh, if_neg (fun c => c1 (t1.mp c))]
    have p80 : nI (sgn s m) = 80 ↔ s = 6 := by
      rw [← t2, show (80 : Int32) = nI 80 from rfl, nI_eq (by have := sgn_lt s m; omega) (by omega)]
      rfl
    by_cases c2 : s = 6
    · rw [if_pos (t2.mpr c2)]
      refine dK_b (L1 := L ++ [62]) (E_dadd (c := 62) h hl) (by simp) (fun D' => by dsimp only; rw [if_pos (show (0 : Int32) = 0 from rfl)]; exact f67 D') (fun D1 z1 d1 k1 => ?_)
      dsimp only
      rw [if_neg (show ¬ (1 : Int32) = 0 by decide), k1.1 217 (by decide), h3]
      refine dK_b (L1 := L ++ [62] ++ xs) (E_daddAll d1 z1 (by rw [k1.1 218 (by decide)]; exact hx) hm hm2) (by simp) (fun D' => by dsimp only; rw [if_pos (show (0 : Int32) = 0 from rfl)]; exact f67 D') (fun D2 z2 d2 k2 => ?_)
      dsimp only
      rw [if_neg (show ¬ (1 : Int32) = 0 by decide)]
      refine dK_b (L1 := L ++ [62] ++ xs ++ [tk s m]) (E_dadd d2 z2) (by simp) (fun D' => by dsimp only; rw [if_pos (show (0 : Int32) = 0 from rfl)]; exact f67 D') (fun D3 z3 d3 k3 => ?_)
      dsimp only
      rw [if_neg (show ¬ (1 : Int32) = 0 by decide), e_X7_push_68, if_pos (p80.mpr c2), if_neg (show ¬ (1 : Int32) = 0 by decide)]
      refine dK_b (L1 := L ++ [62] ++ xs ++ [tk s m] ++ [38]) (E_dadd (c := 38) d3 z3) (by simp) (fun D' => rfl) (fun D4 z4 d4 k4 => ?_)
      dsimp only
      rw [if_neg (show ¬ (1 : Int32) = 0 by decide), k4.1 217 (by decide), k3.1 217 (by decide), k2.1 217 (by decide), k1.1 217 (by decide), h3]
      refine dK_b (L1 := L ++ [62] ++ xs ++ [tk s m] ++ [38] ++ xs) (E_daddAll d4 z4 (by rw [k4.1 218 (by decide), k3.1 218 (by decide), k2.1 218 (by decide), k1.1 218 (by decide)]; exact hx) hm hm2) (by simp) (fun D' => rfl) (fun D5 z5 d5 k5 => ?_)
      dsimp only
      rw [if_neg (show ¬ (1 : Int32) = 0 by decide), show L ++ (62 :: xs ++ [tk s m, 38] ++ xs) = L ++ [62] ++ xs ++ [tk s m] ++ [38] ++ xs by simp]
      exact dK_some d5 z5
    · rw [if_neg (fun c => c2 (t2.mp c))]
      refine dK_b (L1 := L ++ [62]) (E_dadd (c := 62) h hl) (by simp) (fun D' => by dsimp only; rw [if_pos (show (0 : Int32) = 0 from rfl)]; exact f67 D') (fun D1 z1 d1 k1 => ?_)
      dsimp only
      rw [if_neg (show ¬ (1 : Int32) = 0 by decide), k1.1 217 (by decide), h3]
      refine dK_b (L1 := L ++ [62] ++ xs) (E_daddAll d1 z1 (by rw [k1.1 218 (by decide)]; exact hx) hm hm2) (by simp) (fun D' => by dsimp only; rw [if_pos (show (0 : Int32) = 0 from rfl)]; exact f67 D') (fun D2 z2 d2 k2 => ?_)
      dsimp only
      rw [if_neg (show ¬ (1 : Int32) = 0 by decide)]
      refine dK_b (L1 := L ++ [62] ++ xs ++ [tk s m]) (E_dadd d2 z2) (by simp) (fun D' => by dsimp only; rw [if_pos (show (0 : Int32) = 0 from rfl)]; exact f67 D') (fun D3 z3 d3 k3 => ?_)
      dsimp only
      rw [if_neg (show ¬ (1 : Int32) = 0 by decide), e_X7_push_68, if_neg (fun c => c2 (p80.mp c)), show L ++ (62 :: xs ++ [tk s m]) = L ++ [62] ++ xs ++ [tk s m] by simp]
      exact dK_some d3 z3
