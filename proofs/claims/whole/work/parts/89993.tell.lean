/-! tell: the class goes through the tokens with a stack -/
def st4 (s m b h : Nat) : Nat := tk s m + 131072 * b + 65536 * h
theorem ts_1a : ∀ s, s < 16 → ∀ m, m < 16 → ∀ b, b < 2 → ∀ h, h < 2 → nI (st4 s m b h) &&& 127 = nI (sgn s m) := by decide +kernel
theorem ts_1b : ∀ s, s < 16 → ∀ m, m < 16 → ∀ b, b < 2 → ∀ h, h < 2 → decide (nI (st4 s m b h) &&& 65536 = 0) = decide (h = 0) := by decide +kernel
theorem ts_1c : ∀ s, s < 16 → ∀ m, m < 16 → ∀ b, b < 2 → ∀ h, h < 2 → decide (nI (st4 s m b h) &&& 131072 = 0) = decide (b = 0) := by decide +kernel
theorem ts_1 (s : Nat) (hs : s < 16) (m : Nat) (hm : m < 16) (b : Nat) (hb : b < 2) (h : Nat) (hh : h < 2) : nI (st4 s m b h) &&& 127 = nI (sgn s m) ∧ (nI (st4 s m b h) &&& 65536 = 0 ↔ h = 0) ∧ (nI (st4 s m b h) &&& 131072 = 0 ↔ b = 0) := ⟨ts_1a s hs m hm b hb h hh, decide_eq_decide.mp (ts_1b s hs m hm b hb h hh), decide_eq_decide.mp (ts_1c s hs m hm b hb h hh)⟩
theorem ts_2 : ∀ s, s < 16 → ∀ m, m < 16 → ∀ b, b < 2 → nI (st4 s m b 0) ||| 65536 = nI (st4 s m b 1) := by decide +kernel
theorem ts_3 : ∀ s, s < 16 → ∀ m, m < 16 → nI (tk s m) ||| 131072 = nI (st4 s m 1 0) ∧ nI (tk s m) = nI (st4 s m 0 0) := by decide +kernel
theorem ts_4b : ∀ s, s < 16 → ∀ g, g < 4 → (s = 4 ∨ 14 ≤ s) → jishr (nI (tk s 0)) (8 + nI g) &&& 1 = 0 := by decide +kernel
theorem ts_4 (s : Nat) (hs : s < 16) (m : Nat) (hm : m < 16) (g : Nat) (hg : g < 4) (h0 : (s = 4 ∨ 14 ≤ s) → m = 0) (h4 : 4 ≤ s) (h9 : s ≤ 9 ∨ 14 ≤ s) : (jishr (nI (tk s m)) (8 + nI g) &&& 1 = 0) ↔ m.testBit g = false := by
  by_cases q : s = 4 ∨ 14 ≤ s
  · have := h0 q
    subst this
    exact ⟨fun _ => by simp, fun _ => ts_4b s hs g hg q⟩
  · exact ag_t s (by omega) m hm g hg (by omega)
theorem agT_m : ∀ m, m < 16 → ∀ g, g < 4 → (agT m g).length ≤ (agT m 4).length ∧ (m.testBit g = true → (agT m g).length < (agT m 4).length) := by decide +kernel
theorem agT_0 : agT 0 4 = [] := by decide
def txC (D : xDt) (l : List Nat) : Prop := D.1 204 1 = nI l.length ∧ tkAt (D.1 205) 0 l
theorem E_cput {F P : Nat} {D : xDt} {l : List Nat} {c : Nat} (h : txC D l) (hl : l.length < 4000) (hc : c < 128) : oK (f_X9_put F P xS0 204 (nI c) D) (fun D' => txC D' (l ++ [c]) ∧ ch [204, 205] [] D D' ∧ D'.1 204 3 = D.1 204 3) := by
  rw [e_X9_put, h.1, if_neg (show ¬ 4000 ≤ nI l.length from fun q => by have := (nI_leI (a := 4000) (by omega) (by omega)).mp q; omega)]
  simp only [xlet]
  rw [xgrd_in (by omega) (by omega), nI_clamp (by omega), by_c c hc, nI_1]
  refine oK_some ⟨⟨?_, ?_⟩, ch_i (D' := (xup D.1 204 1 (nI (l.length + 1)), D.2)) (by simp) (ch_i (by simp) (ch_rfl _ _ _)), ?_⟩
  · dsimp only
    rw [xup_na _ _ _ _ _ (by omega), xup_at, List.length_append]; rfl
  · refine tkAt_more h.2 (fun i hi => ?_) ?_
    · dsimp only
      rw [xup_nk _ _ _ _ _ (by omega), xup_na _ _ _ _ _ (by omega)]
    · dsimp only
      rw [xup_at]
  · dsimp only
    rw [xup_na _ _ _ _ _ (by omega), xup_nk _ _ _ _ _ (by omega)]
theorem E_putAgents {F P : Nat} (hF : 10000 < F) {D : xDt} {l : List Nat} {s m : Nat} (h : txC D l) (hs : s < 16) (hm : m < 16) (h0 : (s = 4 ∨ 14 ≤ s) → m = 0) (h4 : 4 ≤ s) (h9 : s ≤ 9 ∨ 14 ≤ s) (hl : l.length + (agT m 4).length ≤ 4000) : oK (f_X9_putAgents F P xS0 204 (nI (tk s m)) D) (fun D' => txC D' (l ++ agT m 4) ∧ ch [204, 205] [] D D' ∧ D'.1 204 3 = D.1 204 3) := by
  rw [e_X9_putAgents]
  refine lpu (W := fun n g (D1 : xDt) => oK (f_X9_putAgents_2 F P xS0 n 204 (nI (tk s m)) (nI g) D1) _) (I := fun g D1 => txC D1 (l ++ agT m g) ∧ ch [204, 205] [] D D1 ∧ D1.1 204 3 = D.1 204 3) 4 ?_ ?_ 4 0 _ F (by omega) (by omega) ⟨by rw [agT, List.append_nil]; exact h, ch_rfl _ _ _, rfl⟩
  · rintro n D1 hD1
    rw [e_X9_putAgents_2, if_pos (by decide)]
    exact oK_some hD1
  · rintro n g D1 hg ⟨i1, i2, i3⟩ hk
    have ham := agT_m m hm g hg
    have ht := ts_4 s hs m hm g hg h0 h4 h9
    rw [e_X9_putAgents_2, k4, if_neg (by rw [nI_leI (by omega) (by omega)]; omega)]
    unfold f_X11_hasAgent
    simp only [e_X9_putAgents_23, xlet]
    by_cases q : m.testBit g = true
    · rw [if_neg (fun c => by rw [ht.mp c] at q; cases q), Option.bind_some, if_neg (show ¬ (1 : Int32) = 0 by decide), show (49 : Int32) = nI 49 from rfl, nI_add]
      have := ham.2 q
      refine oK_bind (E_cput i1 (by rw [List.length_append]; omega) (by omega)) ?_
      rintro D2 ⟨j1, j2, j3⟩
      rw [nI_1]
      refine hk D2 ⟨?_, ch_trans i2 j2, j3.trans i3⟩
      rw [agT, if_pos q, ← List.append_assoc]; exact j1
    · rw [if_pos (ht.mpr (by simpa using q)), Option.bind_some, if_pos rfl, nI_1]
      refine hk D1 ⟨?_, i2, i3⟩
      rw [agT, if_neg q, List.append_nil]; exact i1
def tf (d : Nat) (D D' : xDt) : Prop := ch [204, 205, 206] [] D D' ∧ ∀ j, j < d → D'.1 206 j = D.1 206 j
theorem tf_rfl (d : Nat) (D : xDt) : tf d D D := ⟨ch_rfl _ _ _, fun _ _ => rfl⟩
theorem tf_trans {d : Nat} {D D' D'' : xDt} (h : tf d D D') (h' : tf d D' D'') : tf d D D'' := ⟨ch_trans h.1 h'.1, fun j hj => (h'.2 j hj).trans (h.2 j hj)⟩
theorem tf_le {d e : Nat} {D D' : xDt} (h : tf e D D') (hd : d ≤ e) : tf d D D' := ⟨h.1, fun j hj => h.2 j (by omega)⟩
theorem tf_p {d : Nat} {D D' : xDt} (h : ch [204, 205] [] D D') : tf d D D' := ⟨ch_mono h (by intro x hx; simp at hx ⊢; omega) (fun _ h => h), fun j _ => by rw [h.1 206 (by decide)]⟩
/-- whether a join that starts here needs no brackets -/
def wH (D : xDt) (d : Nat) (wh : Bool) : Prop := (d = 0 ∧ wh = true) ∨ ∃ s m b h, 0 < d ∧ 1 ≤ s ∧ s ≤ 15 ∧ mOK s m ∧ b < 2 ∧ h < 2 ∧ D.1 206 (d - 1) = nI (st4 s m b h) ∧ wh = (decide (14 ≤ s) && decide (h = 0))
theorem E_isWhole {F P : Nat} {D : xDt} {d : Nat} {wh : Bool} (hd : d ≤ 2000) (h3 : D.1 204 3 = nI d) (h : wH D d wh) : f_X9_isWhole F P xS0 204 D = some (if wh then 1 else 0, D) := by
  rw [e_X9_isWhole, h3]
  rcases h with ⟨rfl, rfl⟩ | ⟨s, m, b, h, h0, w1, w2, w3, hb, hh, e, rfl⟩
  · rw [if_pos (show nI 0 = 0 from rfl)]; rfl
  · obtain ⟨t1, t2, t3⟩ := ts_1 s (by omega) m (m16 w3) b hb h hh
    rw [if_neg (nI_ne0 h0 (by omega)), nI_s1 (by omega), xgrd_in (by omega) (by omega), nI_clamp (by omega), e]
    simp only [xlet]
    unfold f_X11_signOf
    rw [t1, Option.bind_some, E_isSaying w1 w2 w3, Option.bind_some]
    unfold f_X9_isWhole_42
    by_cases q : 14 ≤ s
    · rw [if_pos q, if_neg (show ¬ (1 : Int32) = 0 by decide)]
      by_cases q2 : h = 0
      · rw [if_pos (t2.mpr q2)]; simp [q, q2]
      · rw [if_neg (fun c => q2 (t2.mp c))]; simp [q2]
    · rw [if_neg q, if_pos rfl]; simp [q]
/-- a token is put on the stack -/
theorem E_push {F P : Nat} {D : xDt} {d x : Nat} (hd : d < 2000) (h3 : D.1 204 3 = nI d) : ∃ D', f_X9_start_45 F P xS0 204 (nI x) D = some D' ∧ D' = (xup (xup D.1 204 3 (nI (d + 1))) 206 d (nI x), D.2) := by
  refine ⟨_, ?_, rfl⟩
  rw [e_X9_start_45, h3, if_neg (show ¬ Int32.ofNat 2000 ≤ nI d from by rw [kof, nI_leI (by omega) (by omega)]; omega)]
  simp only [xlet]
  rw [xgrd_in (by omega) (by omega), nI_clamp (by omega), nI_1]
theorem push_p {D : xDt} {d x : Nat} {l : List Nat} (h : txC D l) : tf d D (xup (xup D.1 204 3 (nI (d + 1))) 206 d (nI x), D.2) ∧ txC (xup (xup D.1 204 3 (nI (d + 1))) 206 d (nI x), D.2) l ∧ ((xup (xup D.1 204 3 (nI (d + 1))) 206 d (nI x), D.2) : xDt).1 204 3 = nI (d + 1) ∧ ((xup (xup D.1 204 3 (nI (d + 1))) 206 d (nI x), D.2) : xDt).1 206 d = nI x := by
  refine ⟨⟨ch_i (D' := (xup D.1 204 3 (nI (d + 1)), D.2)) (by simp) (ch_i (by simp) (ch_rfl _ _ _)), fun j hj => ?_⟩, ⟨?_, ?_⟩, ?_, ?_⟩
  · dsimp only
    rw [xup_nk _ _ _ _ _ (by omega), xup_na _ _ _ _ _ (by omega)]
  · dsimp only
    rw [xup_na _ _ _ _ _ (by omega), xup_nk _ _ _ _ _ (by omega)]; exact h.1
  · dsimp only
    rw [xup_ne _ _ _ _ (by omega), xup_ne _ _ _ _ (by omega)]; exact h.2
  · dsimp only
    rw [xup_na _ _ _ _ _ (by omega), xup_at]
  · dsimp only
    rw [xup_at]
/-- one step down the stack: the last part of what stands there has ended -/
theorem fin_last {F P : Nat} {D : xDt} {d k s m b h : Nat} {l : List Nat} (hd : d < 2000) (w1 : 1 ≤ s) (w2 : s ≤ 15) (w3 : mOK s m) (hb : b < 2) (hh : h < 2) (e : D.1 206 d = nI (st4 s m b h)) (hl : 10 ≤ s → h = 1) (ht : txC D l) (hlen : l.length + b ≤ 4000) : ∃ D', f_X9_finish_7 F P xS0 (k + 1) 204 (nI d) D = f_X9_finish_7 F P xS0 k 204 (nI d - 1) D' ∧ txC D' (l ++ (if b = 1 then [41] else [])) ∧ ch [204, 205] [] D D' := by
  obtain ⟨t1, t2, t3⟩ := ts_1 s (by omega) m (m16 w3) b hb h hh
  have h82 : ∃ D', f_X9_finish_82 F P xS0 (f_X9_finish_7 F P xS0 k) 204 (nI d) (nI (st4 s m b h)) D = f_X9_finish_7 F P xS0 k 204 (nI d - 1) D' ∧ txC D' (l ++ (if b = 1 then [41] else [])) ∧ ch [204, 205] [] D D' := by
    rw [e_X9_finish_82]
    simp only [e_X9_finish_95, xlet, neg1]
    by_cases q : b = 0
    · rw [if_pos (t3.mpr q)]
      exact ⟨D, rfl, by rw [if_neg (by omega), List.append_nil]; exact ht, ch_rfl _ _ _⟩
    · rw [if_neg (fun c => q (t3.mp c))]
      obtain ⟨D2, e2, c1, c2, _⟩ := E_cput (F := F) (P := P) (c := 41) ht (by omega) (by omega)
      rw [show f_X9_put F P xS0 204 41 D = _ from e2, Option.bind_some]
      exact ⟨D2, rfl, by rw [if_pos (by omega)]; exact c1, c2⟩
  rw [e_X9_finish_7, if_neg (nI_pos (by omega)), xgrd_in (by omega) (by omega), nI_clamp (by omega), e]
  simp only [xlet]
  unfold f_X11_signOf
  rw [t1, Option.bind_some, E_hasTwo w1 w2 w3, Option.bind_some]
  by_cases q : 10 ≤ s
  · rw [if_pos q, if_neg (show ¬ (1 : Int32) = 0 by decide), if_neg (fun c => by have := t2.mp c; have := hl q; omega)]
    exact h82
  · rw [if_neg q, if_pos rfl]
    exact h82
/-- the first of two parts has ended -/
theorem fin_half {F P : Nat} {D : xDt} {d k s m b : Nat} {l : List Nat} (hd : d < 2000) (w1 : 10 ≤ s) (w2 : s ≤ 15) (w3 : mOK s m) (hb : b < 2) (e : D.1 206 d = nI (st4 s m b 0)) (ht : txC D l) (hlen : l.length < 4000) : ∃ D', f_X9_finish_7 F P xS0 (k + 1) 204 (nI d) D = some D' ∧ txC D' (l ++ [if s = 14 then 93 else if s = 15 then 125 else sgn s m]) ∧ tf d D D' ∧ D'.1 204 3 = nI (d + 1) ∧ D'.1 206 d = nI (st4 s m b 1) := by
  obtain ⟨t1, t2, t3⟩ := ts_1 s (by omega) m (m16 w3) b hb 0 (by omega)
  have h61 : ∀ c : Nat, c < 128 → ∃ D', f_X9_finish_61 F P xS0 204 (nI d) (nI (st4 s m b 0)) (nI c) 204 D = some D' ∧ txC D' (l ++ [c]) ∧ tf d D D' ∧ D'.1 204 3 = nI (d + 1) ∧ D'.1 206 d = nI (st4 s m b 1) := by
    intro c hc
    obtain ⟨D2, e2, c1, c2, _⟩ := E_cput (F := F) (P := P) (c := c) ht hlen hc
    refine ⟨(xup (xup D2.1 206 d (nI (st4 s m b 1))) 204 3 (nI (d + 1)), D2.2), ?_, ⟨?_, ?_⟩, ⟨ch_i (D' := (xup D2.1 206 d (nI (st4 s m b 1)), D2.2)) (by simp) (ch_i (by simp) (ch_mono c2 (by intro x hx; simp at hx ⊢; omega) (fun _ h => h))), fun j hj => ?_⟩, ?_, ?_⟩
    · rw [e_X9_finish_61, e2, Option.bind_some, xgrd_in (by omega) (by omega), nI_clamp (by omega), ts_2 s (by omega) m (m16 w3) b hb]
      simp only [xlet]
      rw [nI_1]
    · dsimp only
      rw [xup_nk _ _ _ _ _ (by omega), xup_na _ _ _ _ _ (by omega)]; exact c1.1
    · dsimp only
      rw [xup_ne _ _ _ _ (by omega), xup_ne _ _ _ _ (by omega)]; exact c1.2
    · dsimp only
      rw [xup_na _ _ _ _ _ (by omega), xup_nk _ _ _ _ _ (by omega), c2.1 206 (by decide)]
    · dsimp only
      rw [xup_at]
    · dsimp only
      rw [xup_na _ _ _ _ _ (by omega), xup_at]
  rw [e_X9_finish_7, if_neg (nI_pos (by omega)), xgrd_in (by omega) (by omega), nI_clamp (by omega), e]
  simp only [xlet]
  unfold f_X11_signOf
  rw [t1, Option.bind_some, E_hasTwo (by omega) w2 w3, Option.bind_some, if_pos w1, if_neg (show ¬ (1 : Int32) = 0 by decide), if_pos (t2.mpr rfl)]
  have hm0 : m = 0 := by unfold mOK at w3; omega
  subst hm0
  have hsg := sgn_lt s 0
  rcases (show s = 10 ∨ s = 11 ∨ s = 12 ∨ s = 13 ∨ s = 14 ∨ s = 15 by omega) with rfl | rfl | rfl | rfl | rfl | rfl
  · dsimp only; rw [if_neg (by decide), if_neg (by decide)]; exact h61 _ hsg
  · dsimp only; rw [if_neg (by decide), if_neg (by decide)]; exact h61 _ hsg
  · dsimp only; rw [if_neg (by decide), if_neg (by decide)]; exact h61 _ hsg
  · dsimp only; rw [if_neg (by decide), if_neg (by decide)]; exact h61 _ hsg
  · dsimp only; rw [if_pos (by decide)]; exact h61 93 (by omega)
  · dsimp only; rw [if_neg (by decide), if_pos (by decide)]; exact h61 125 (by omega)
