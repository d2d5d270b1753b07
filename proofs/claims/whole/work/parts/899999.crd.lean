/-! reduce: the class's pieces -/
def inS (v c : Nat) : Bool := if v = 0 then decide (c = 69) || decide (c = 67) || decide (c = 68) else if v = 1 then decide (c = 91) || decide (c = 123) else decide (c = 68) || decide (c = 91) || decide (c = 123)
theorem ji2b_c : ∀ c, c < 128 → ji2b (nI c) = nI c := by decide +kernel
theorem E_idc {F P n0 v c : Nat} {S : xSt} {D : xDt} (hv : v < 3) (hc : c < 128) : ∃ r, f_J1_indexOfChar_4cfef_7 F P S (n0 + 4) v (Int32.ofNat (xsLen.getD v 0)) (nI c) 0 D = some (r, D) ∧ (r < 0 ↔ inS v c = false) := by
  have st : ∀ (n w : Nat) (L x i : Int32), f_J1_indexOfChar_4cfef_7 F P S (n + 1) w L x i D = if L ≤ i then (some ((-1), D)) else (xgrd (xin i (xsLen.getD w 0)) (if ((xsByt.getD w []).getD (i).toNatClampNeg 0) = x then (some (i, D)) else f_J1_indexOfChar_4cfef_7 F P S n w L x (i + 1) D)) := fun n w L x i => rfl
  have ne : ∀ k, k < 128 → c ≠ k → ¬ nI k = nI c := fun k hk h q => h ((nI_eq (by omega) (by omega)).mp q).symm
  have : v = 0 ∨ v = 1 ∨ v = 2 := by omega
  rcases this with rfl | rfl | rfl
  · by_cases c1 : c = 69
    · exact ⟨0, by rw [st, if_neg (by decide)]; subst c1; rfl, by subst c1; decide⟩
    by_cases c2 : c = 67
    · exact ⟨1, by rw [st, if_neg (by decide)]; subst c2; rfl, by subst c2; decide⟩
    by_cases c3 : c = 68
    · exact ⟨2, by rw [st, if_neg (by decide)]; subst c3; rfl, by subst c3; decide⟩
    refine ⟨-1, ?_, by simp [inS, c1, c2, c3]⟩
    rw [st, if_neg (by decide), show xin (0 : Int32) (xsLen.getD 0 0) = true by decide, xgrd_t, if_neg (show ¬ ((xsByt.getD 0 []).getD ((0 : Int32)).toNatClampNeg 0) = nI c from ne 69 (by omega) c1), st, if_neg (by decide), show xin ((0 : Int32) + 1) (xsLen.getD 0 0) = true by decide, xgrd_t, if_neg (show ¬ ((xsByt.getD 0 []).getD ((0 : Int32) + 1).toNatClampNeg 0) = nI c from ne 67 (by omega) c2), st, if_neg (by decide), show xin ((0 : Int32) + 1 + 1) (xsLen.getD 0 0) = true by decide, xgrd_t, if_neg (show ¬ ((xsByt.getD 0 []).getD ((0 : Int32) + 1 + 1).toNatClampNeg 0) = nI c from ne 68 (by omega) c3), st, if_pos (by decide)]
  · by_cases c1 : c = 91
    · exact ⟨0, by rw [st, if_neg (by decide)]; subst c1; rfl, by subst c1; decide⟩
    by_cases c2 : c = 123
    · exact ⟨1, by rw [st, if_neg (by decide)]; subst c2; rfl, by subst c2; decide⟩
    refine ⟨-1, ?_, by simp [inS, c1, c2]⟩
    rw [st, if_neg (by decide), show xin (0 : Int32) (xsLen.getD 1 0) = true by decide, xgrd_t, if_neg (show ¬ ((xsByt.getD 1 []).getD ((0 : Int32)).toNatClampNeg 0) = nI c from ne 91 (by omega) c1), st, if_neg (by decide), show xin ((0 : Int32) + 1) (xsLen.getD 1 0) = true by decide, xgrd_t, if_neg (show ¬ ((xsByt.getD 1 []).getD ((0 : Int32) + 1).toNatClampNeg 0) = nI c from ne 123 (by omega) c2), st, if_pos (by decide)]
  · by_cases c1 : c = 68
    · exact ⟨0, by rw [st, if_neg (by decide)]; subst c1; rfl, by subst c1; decide⟩
    by_cases c2 : c = 91
    · exact ⟨1, by rw [st, if_neg (by decide)]; subst c2; rfl, by subst c2; decide⟩
    by_cases c3 : c = 123
    · exact ⟨2, by rw [st, if_neg (by decide)]; subst c3; rfl, by subst c3; decide⟩
    refine ⟨-1, ?_, by simp [inS, c1, c2, c3]⟩
    rw [st, if_neg (by decide), show xin (0 : Int32) (xsLen.getD 2 0) = true by decide, xgrd_t, if_neg (show ¬ ((xsByt.getD 2 []).getD ((0 : Int32)).toNatClampNeg 0) = nI c from ne 68 (by omega) c1), st, if_neg (by decide), show xin ((0 : Int32) + 1) (xsLen.getD 2 0) = true by decide, xgrd_t, if_neg (show ¬ ((xsByt.getD 2 []).getD ((0 : Int32) + 1).toNatClampNeg 0) = nI c from ne 91 (by omega) c2), st, if_neg (by decide), show xin ((0 : Int32) + 1 + 1) (xsLen.getD 2 0) = true by decide, xgrd_t, if_neg (show ¬ ((xsByt.getD 2 []).getD ((0 : Int32) + 1 + 1).toNatClampNeg 0) = nI c from ne 123 (by omega) c3), st, if_pos (by decide)]
theorem E_idx {F P v c : Nat} (hF : 10 < F) {D : xDt} (hv : v < 3) (hc : c < 128) : ∃ r, f_J0_indexOf_0f7a4 F P xS0 v (ji2c (nI c)) D = some (r, D) ∧ (r < 0 ↔ inS v c = false) := by
  obtain ⟨n0, hn⟩ : ∃ n0, F = n0 + 4 := ⟨F - 4, by omega⟩
  obtain ⟨r, e, h⟩ := E_idc (F := F) (P := P) (n0 := n0) (S := xS0) (D := D) hv hc
  rw [← hn] at e
  refine ⟨r, ?_, h⟩
  have hL : f_J0_length_8abf5 F P xS0 v D = some (Int32.ofNat (xsLen.getD v 0), D) := by
    unfold f_J0_length_8abf5 f_J0_coder_7d493
    rw [if_neg (show ¬ (1 : Int32) = 0 by decide), show xnr .byte 0 = true by decide, xgrd_t, Option.bind_some]
    have : v = 0 ∨ v = 1 ∨ v = 2 := by omega
    have h3 : jishr (Int32.ofNat (xsLen.getD v 0)) 0 = Int32.ofNat (xsLen.getD v 0) := by rcases this with rfl | rfl | rfl <;> decide
    rw [h3]
  have hm : jmin (Int32.ofNat (xsLen.getD v 0)) (Int32.ofNat (xsLen.getD v 0)) = Int32.ofNat (xsLen.getD v 0) ∧ (0 : Int32) < Int32.ofNat (xsLen.getD v 0) := by
    have : v = 0 ∨ v = 1 ∨ v = 2 := by omega
    rcases this with rfl | rfl | rfl <;> decide
  have e2 : f_J1_indexOf_4cfef F P xS0 v (nI c) 0 (Int32.ofNat (xsLen.getD v 0)) D = some (r, D) := by
    unfold f_J1_indexOf_4cfef f_J1_canEncode_9a6ad
    rw [if_neg (nI_pos (by omega)), k255, if_neg (by rw [nI_ltI (by omega) (by omega)]; omega), Option.bind_some, if_neg (show ¬ (1 : Int32) = 0 by decide)]
    simp only [xlet]
    rw [hm.1, show jmax 0 0 = 0 by decide, if_pos hm.2]
    unfold f_J1_indexOfChar_4cfef
    simp only [xlet]
    rw [ji2b_c c hc, e, Option.bind_some]
  rw [by_c1 c hc]
  unfold f_J0_indexOf_0f7a4 f_J0_indexOf_7cf53
  rw [show f_J0_isLatin1_aae02 F P xS0 v D = some (1, D) from rfl, Option.bind_some, if_neg (show ¬ (1 : Int32) = 0 by decide)]
  dsimp only
  rw [hL, Option.bind_some]
  dsimp only
  rw [e2]
  rfl
theorem E_hasL {F P v : Nat} (hF : 10 < F) (hv : v < 3) {D : xDt} : ∀ (L : List Nat) (i n : Nat), tkAt (D.1 203) i L → D.1 202 1 = nI (i + L.length) → i + L.length ≤ 2000 → (∀ k, k ∈ L → ∃ s m, k = tk s m ∧ s < 16 ∧ m < 16) → L.length < n → f_X2_hasAny_2 F P xS0 n 202 v (nI i) D = some (if L.any (fun k => inS v (k % 128)) = true then 1 else 0, D)
  | _, _, 0, _, _, _, _, h => absurd h (by omega)
  | [], i, n + 1, h1, h2, h3, h4, h5 => by
    show f_X2_hasAny_2s F P xS0 (f_X2_hasAny_2 F P xS0 n) 202 v (nI i) D = _
    unfold f_X2_hasAny_2s
    rw [h2, if_pos (show nI (i + ([] : List Nat).length) ≤ nI i from Int32.le_refl _)]
    rfl
  | k :: L, i, n + 1, h1, h2, h3, h4, h5 => by
    rw [List.length_cons] at h2 h3 h5
    obtain ⟨t1, t2⟩ := tkAt_cons.mp h1
    obtain ⟨s, m, rfl, hs, hm⟩ := h4 k (by simp)
    show f_X2_hasAny_2s F P xS0 (f_X2_hasAny_2 F P xS0 n) 202 v (nI i) D = _
    unfold f_X2_hasAny_2s
    obtain ⟨r, er, hr⟩ := E_idx (F := F) (P := P) (D := D) hF hv (sgn_lt s m)
    rw [h2, if_neg (by rw [nI_leI (by omega) (by omega)]; omega), rr202, ll203, xgrd_in (by omega) (by omega), nI_clamp (by omega), t1, E_signOf hs hm, Option.bind_some]
    dsimp only
    rw [er, Option.bind_some, List.any_cons]
    by_cases c : r < 0
    · rw [if_pos c, show inS v (tk s m % 128) = false from hr.mp c, Bool.false_or]
      simp only [xlet]
      rw [nI_1]
      exact E_hasL hF hv L (i + 1) n t2 (by rw [h2]; congr 1; omega) (by omega) (fun k hk => h4 k (by simp [hk])) (by omega)
    · rw [if_neg c]
      have : inS v (tk s m % 128) = true := by
        rcases h : inS v (tk s m % 128) with _ | _
        · exact absurd (hr.mpr h) c
        · rfl
      rw [this, Bool.true_or]
      rfl
def pS (v s : Nat) : Bool := if v = 0 then isE s else if v = 1 then decide (14 ≤ s) else decide (s = 9) || decide (14 ≤ s)
theorem pS_t : ∀ v, v < 3 → ∀ s, s < 15 → ∀ m, m < 16 → inS v (tk (s + 1) (if s = 0 then m % 8 else m) % 128) = pS v (s + 1) := by decide +kernel
theorem tks_tk : ∀ {t : T}, wfT t → ∀ k, k ∈ tks t → ∃ s m, k = tk s m ∧ s < 16 ∧ m < 16
  | .leaf, h, _, _ => absurd h (by simp [wfT])
  | .inner s m () l r, hw, k, hk => by
    obtain ⟨w1, w2, w3, w4⟩ := hw
    rw [tks, List.mem_cons, List.mem_append] at hk
    rcases hk with rfl | hk | hk
    · exact ⟨s, m, rfl, by omega, m16 w3⟩
    · rcases w4 with ⟨_, rfl, rfl⟩ | ⟨_, _, wl, rfl⟩ | ⟨_, wl, wr⟩
      · exact absurd hk (by simp [tks])
      · exact tks_tk wl k hk
      · exact tks_tk wl k hk
    · rcases w4 with ⟨_, rfl, rfl⟩ | ⟨_, _, wl, rfl⟩ | ⟨_, wl, wr⟩
      · exact absurd hk (by simp [tks])
      · exact absurd hk (by simp [tks])
      · exact tks_tk wr k hk
theorem any_tha {v : Nat} (hv : v < 3) : ∀ {t : T}, wfT t → (tks t).any (fun k => inS v (k % 128)) = tha (pS v) t
  | .leaf, h => absurd h (by simp [wfT])
  | .inner s m () l r, hw => by
    obtain ⟨w1, w2, w3, w4⟩ := hw
    have e : inS v (tk s m % 128) = pS v s := by
      have := pS_t v hv (s - 1) (by omega) m (m16 w3)
      rw [show s - 1 + 1 = s by omega, show (if s - 1 = 0 then m % 8 else m) = m by
        unfold mOK at w3
        by_cases c : s - 1 = 0
        · rw [if_pos c]; omega
        · rw [if_neg c]] at this
      exact this
    rw [tks, tha, List.any_cons, List.any_append, e]
    rcases w4 with ⟨_, rfl, rfl⟩ | ⟨_, _, wl, rfl⟩ | ⟨_, wl, wr⟩
    · simp [tks, tha]
    · rw [any_tha hv wl]; simp [tks, tha]
    · rw [any_tha hv wl, any_tha hv wr, Bool.or_assoc]
theorem E_hasAny {F P v : Nat} (hF : 10000 < F) (hv : v < 3) {D : xDt} {t : T} (hw : wfT t) (hz : sz t ≤ 2000) (hf : fmC D 202 203 t) : f_X2_hasAny F P xS0 202 v D = some (if tha (pS v) t = true then 1 else 0, D) := by
  rw [← any_tha hv hw]
  exact E_hasL (by omega) hv (tks t) 0 F hf.2 (by rw [tks_len, Nat.zero_add]; exact hf.1) (by rw [tks_len]; omega) (tks_tk hw) (by rw [tks_len]; omega)
