/-! NODES laid elsewhere -/
def vv (x : Int32) (q p : Nat) : Int32 := if 0 ≤ x then x - nI q + nI p else -2
def rR (D D0 : xDt) (q p k : Nat) : xDt := (xup (xup (xup (xup (xup D.1 247 (p + k) (D0.1 247 (q + k))) 248 (p + k) (vv (D0.1 248 (q + k)) q p)) 249 (p + k) (vv (D0.1 249 (q + k)) q p)) 250 (p + k) (D0.1 250 (q + k))) 251 (p + k) (D0.1 251 (q + k)), D.2)
theorem rR_t (D D0 : xDt) (q p k : Nat) : (rR D D0 q p k).1 247 (p + k) = D0.1 247 (q + k) ∧ (rR D D0 q p k).1 248 (p + k) = vv (D0.1 248 (q + k)) q p ∧ (rR D D0 q p k).1 249 (p + k) = vv (D0.1 249 (q + k)) q p ∧ (rR D D0 q p k).1 250 (p + k) = D0.1 250 (q + k) ∧ (rR D D0 q p k).1 251 (p + k) = D0.1 251 (q + k) := by
  unfold rR
  dsimp only
  refine ⟨?_, ?_, ?_, ?_, ?_⟩
  · rw [xup_na _ _ _ _ _ (by omega), xup_na _ _ _ _ _ (by omega), xup_na _ _ _ _ _ (by omega), xup_na _ _ _ _ _ (by omega), xup_at]
  · rw [xup_na _ _ _ _ _ (by omega), xup_na _ _ _ _ _ (by omega), xup_na _ _ _ _ _ (by omega), xup_at]
  · rw [xup_na _ _ _ _ _ (by omega), xup_na _ _ _ _ _ (by omega), xup_at]
  · rw [xup_na _ _ _ _ _ (by omega), xup_at]
  · rw [xup_at]
theorem rR_o (D D0 : xDt) (q p k : Nat) (x : Nat) {j : Nat} (hj : j ≠ p + k) : (rR D D0 q p k).1 x j = D.1 x j := by
  unfold rR
  dsimp only
  rw [xup_nk _ _ _ _ _ hj, xup_nk _ _ _ _ _ hj, xup_nk _ _ _ _ _ hj, xup_nk _ _ _ _ _ hj, xup_nk _ _ _ _ _ hj]
theorem rR_c (D D0 : xDt) (q p k : Nat) : ch [247, 248, 249, 250, 251] [] D (rR D D0 q p k) := by
  refine ⟨fun x hx => ?_, fun x _ => rfl⟩
  simp only [List.mem_cons, List.not_mem_nil, or_false, not_or] at hx
  unfold rR
  dsimp only
  rw [xup_ne _ _ _ _ (by omega), xup_ne _ _ _ _ (by omega), xup_ne _ _ _ _ (by omega), xup_ne _ _ _ _ (by omega), xup_ne _ _ _ _ (by omega)]
theorem vv_1 {q p : Nat} : vv (-2) q p = -2 := by
  unfold vv; rw [if_neg (by decide)]
theorem vv_2 {q p j : Nat} (h : q ≤ j) (hj : j < 92800) : vv (nI j) q p = nI (j - q + p) := by
  unfold vv; rw [if_pos (nI_pos' (by omega)), nI_sub h, nI_add]
theorem rl_s {D0 D1 : xDt} {q p k : Nat} (h : rl D0 D1 q p k) : rl D0 (rR D1 D0 q p k) q p (k + 1) := by
  refine ⟨fun i hi => ?_, fun x j hj => by rw [rR_o _ _ _ _ _ _ (by omega)]; exact h.2 x j (by omega)⟩
  by_cases e : i = k
  · subst e
    obtain ⟨z1, z2, z3, z4, z5⟩ := rR_t D1 D0 q p i
    exact ⟨z1, z4, z5, fun h => by rw [z2, h]; exact vv_1, fun j hj hj2 h => by rw [z2, h]; exact vv_2 hj hj2, fun h => by rw [z3, h]; exact vv_1, fun j hj hj2 h => by rw [z3, h]; exact vv_2 hj hj2⟩
  · have := h.1 i (by omega)
    rw [rR_o _ _ _ _ _ _ (by omega), rR_o _ _ _ _ _ _ (by omega), rR_o _ _ _ _ _ _ (by omega), rR_o _ _ _ _ _ _ (by omega), rR_o _ _ _ _ _ _ (by omega)]
    exact this
theorem rl_0 (D : xDt) (q p : Nat) : rl D D q p 0 := ⟨fun _ h => absurd h (by omega), fun _ _ _ => rfl⟩
theorem lls : xl xS0 248 = 92800 ∧ xl xS0 249 = 92800 := ⟨by decide +kernel, by decide +kernel⟩
theorem k12800 : (12800 : Int32) = nI 12800 := rfl
theorem E_lay {F P : Nat} (hF : 10000 < F) {D : xDt} {p n : Nat} {root : Int32} (hn : n ≤ 2000) (hp : p + n ≤ 12800) : oK (f_X12_laid_26 F P xS0 F 241 (nI p) root (nI n) 0 D) (fun r => r.1 = root - nI 12800 + nI p ∧ rl D r.2 12800 p n ∧ ch [247, 248, 249, 250, 251] [] D r.2) := by
  refine lpu (W := fun m i (D1 : xDt) => oK (f_X12_laid_26 F P xS0 m 241 (nI p) root (nI n) (nI i) D1) _) (I := fun i D1 => rl D D1 12800 p i ∧ ch [247, 248, 249, 250, 251] [] D D1) n ?_ ?_ n 0 _ F (by omega) (by omega) ⟨rl_0 _ _ _, ch_rfl _ _ _⟩
  · rintro m D1 ⟨i1, i2⟩
    rw [e_X12_laid_26, if_pos (Int32.le_refl _)]
    exact oK_some ⟨rfl, i1, i2⟩
  · rintro m k D1 hk ⟨i1, i2⟩ hgo
    have s0 : ∀ x, D1.1 x (12800 + k) = D.1 x (12800 + k) := fun x => i1.2 x _ (by omega)
    have key : f_X12_laid_26 F P xS0 (m + 1) 241 (nI p) root (nI n) (nI k) D1 = f_X12_laid_26 F P xS0 m 241 (nI p) root (nI n) (nI (k + 1)) (rR D1 D 12800 p k) := by
      rw [e_X12_laid_26, if_neg (by rw [nI_leI (by omega) (by omega)]; omega), k12800, nI_add, nI_add, xgrd_in (by omega) (by omega), xgrd_in (by omega) (by omega), nI_clamp (by omega), nI_clamp (by omega)]
      simp only [xlet]
      rw [xgrd_in (by omega) (by omega), xup_na _ _ _ _ _ (show 248 ≠ 247 by omega), s0 247, s0 248, xgrd_in (by omega) (by omega)]
      have h142 : ∀ c d : Int32, c = vv (D.1 249 (12800 + k)) 12800 p → f_X12_laid_142 F P xS0 (f_X12_laid_26 F P xS0 m) 241 (nI p) root (nI n) (nI k) c (nI (p + k)) 249 (xup (xup D1.1 247 (p + k) (D.1 247 (12800 + k))) 248 (p + k) (vv (D.1 248 (12800 + k)) 12800 p), D1.2) = f_X12_laid_26 F P xS0 m 241 (nI p) root (nI n) (nI (k + 1)) (rR D1 D 12800 p k) := by
        rintro c _ rfl
        rw [e_X12_laid_142, lls.2, xgrd_in (by omega) (by omega), nI_clamp (by omega)]
        simp only [xlet]
        rw [k12800, nI_add, nI_add, xgrd_in (by omega) (by omega), xgrd_in (by omega) (by omega), xgrd_in (by omega) (by omega), xgrd_in (by omega) (by omega), nI_clamp (by omega), nI_clamp (by omega), nI_1]
        rw [xup_na _ _ _ _ _ (show 251 ≠ 250 by omega), xup_na _ _ _ _ _ (show 251 ≠ 249 by omega), xup_na _ _ _ _ _ (show 251 ≠ 248 by omega), xup_na _ _ _ _ _ (show 251 ≠ 247 by omega), s0 251]
        rw [xup_na _ _ _ _ _ (show 250 ≠ 249 by omega), xup_na _ _ _ _ _ (show 250 ≠ 248 by omega), xup_na _ _ _ _ _ (show 250 ≠ 247 by omega), s0 250]
        rfl
      have h97 : ∀ b : Int32, b = vv (D.1 248 (12800 + k)) 12800 p → f_X12_laid_97 F P xS0 (f_X12_laid_26 F P xS0 m) 241 (nI p) root (nI n) (nI k) b (nI (p + k)) 248 (xup D1.1 247 (p + k) (D.1 247 (12800 + k)), D1.2) = f_X12_laid_26 F P xS0 m 241 (nI p) root (nI n) (nI (k + 1)) (rR D1 D 12800 p k) := by
        rintro b rfl
        rw [e_X12_laid_97, lls.1, xgrd_in (by omega) (by omega), nI_clamp (by omega)]
        simp only [xlet]
        rw [k12800, nI_add, nI_add, xgrd_in (by omega) (by omega), xgrd_in (by omega) (by omega), nI_clamp (by omega), xup_na _ _ _ _ _ (show 249 ≠ 248 by omega), xup_na _ _ _ _ _ (show 249 ≠ 247 by omega), s0 249]
        by_cases c : 0 ≤ D.1 249 (12800 + k)
        · rw [if_pos c]
          exact h142 _ 0 (by unfold vv; rw [if_pos c])
        · rw [if_neg c]
          exact h142 _ 0 (by unfold vv; rw [if_neg c])
      by_cases c : 0 ≤ D.1 248 (12800 + k)
      · rw [if_pos c]
        exact h97 _ (by unfold vv; rw [if_pos c])
      · rw [if_neg c]
        exact h97 _ (by unfold vv; rw [if_neg c])
    rw [key]
    exact hgo _ ⟨rl_s i1, ch_trans i2 (rR_c _ _ _ _ _)⟩
theorem E_mov {F P : Nat} (hF : 10000 < F) {D : xDt} {q n : Nat} {root : Int32} (hn : n ≤ 2000) (hq : 12800 ≤ q) (hq2 : q + n ≤ 92800) : oK (f_X12_moved_10 F P xS0 F 241 (nI q) (nI n) root 0 D) (fun r => r.1 = root - nI q ∧ rl D r.2 q 0 n ∧ ch [247, 248, 249, 250, 251] [] D r.2) := by
  refine lpu (W := fun m i (D1 : xDt) => oK (f_X12_moved_10 F P xS0 m 241 (nI q) (nI n) root (nI i) D1) _) (I := fun i D1 => rl D D1 q 0 i ∧ ch [247, 248, 249, 250, 251] [] D D1) n ?_ ?_ n 0 _ F (by omega) (by omega) ⟨rl_0 _ _ _, ch_rfl _ _ _⟩
  · rintro m D1 ⟨i1, i2⟩
    rw [e_X12_moved_10, if_pos (Int32.le_refl _)]
    exact oK_some ⟨rfl, i1, i2⟩
  · rintro m k D1 hk ⟨i1, i2⟩ hgo
    have s0 : ∀ x, D1.1 x (q + k) = D.1 x (q + k) := fun x => i1.2 x _ (by omega)
    have vz : ∀ x : Int32, x - nI q = x - nI q + nI 0 := fun x => by rw [show nI 0 = 0 from rfl, Int32.add_zero]
    have key : f_X12_moved_10 F P xS0 (m + 1) 241 (nI q) (nI n) root (nI k) D1 = f_X12_moved_10 F P xS0 m 241 (nI q) (nI n) root (nI (k + 1)) (rR D1 D q 0 k) := by
      rw [e_X12_moved_10, if_neg (by rw [nI_leI (by omega) (by omega)]; omega), nI_add, xgrd_in (by omega) (by omega), xgrd_in (by omega) (by omega), nI_clamp (by omega), nI_clamp (by omega)]
      simp only [xlet]
      rw [xgrd_in (by omega) (by omega), xup_na _ _ _ _ _ (show 248 ≠ 247 by omega), s0 247, s0 248, xgrd_in (by omega) (by omega)]
      have h142 : ∀ c : Int32, c = vv (D.1 249 (q + k)) q 0 → f_X12_moved_101 F P xS0 (f_X12_moved_10 F P xS0 m) 241 (nI q) (nI n) root (nI k) c (nI k) 249 (xup (xup D1.1 247 k (D.1 247 (q + k))) 248 k (vv (D.1 248 (q + k)) q 0), D1.2) = f_X12_moved_10 F P xS0 m 241 (nI q) (nI n) root (nI (k + 1)) (rR D1 D q 0 k) := by
        rintro c rfl
        rw [e_X12_moved_101, lls.2, xgrd_in (by omega) (by omega), nI_clamp (by omega)]
        simp only [xlet]
        rw [nI_add, xgrd_in (by omega) (by omega), xgrd_in (by omega) (by omega), xgrd_in (by omega) (by omega), xgrd_in (by omega) (by omega), nI_clamp (by omega), nI_1]
        rw [xup_na _ _ _ _ _ (show 251 ≠ 250 by omega), xup_na _ _ _ _ _ (show 251 ≠ 249 by omega), xup_na _ _ _ _ _ (show 251 ≠ 248 by omega), xup_na _ _ _ _ _ (show 251 ≠ 247 by omega), s0 251]
        rw [xup_na _ _ _ _ _ (show 250 ≠ 249 by omega), xup_na _ _ _ _ _ (show 250 ≠ 248 by omega), xup_na _ _ _ _ _ (show 250 ≠ 247 by omega), s0 250]
        unfold rR
        rw [Nat.zero_add]
      have h97 : ∀ b : Int32, b = vv (D.1 248 (q + k)) q 0 → f_X12_moved_66 F P xS0 (f_X12_moved_10 F P xS0 m) 241 (nI q) (nI n) root (nI k) b (nI k) 248 (xup D1.1 247 k (D.1 247 (q + k)), D1.2) = f_X12_moved_10 F P xS0 m 241 (nI q) (nI n) root (nI (k + 1)) (rR D1 D q 0 k) := by
        rintro b rfl
        rw [e_X12_moved_66, lls.1, xgrd_in (by omega) (by omega), nI_clamp (by omega)]
        simp only [xlet]
        rw [nI_add, xgrd_in (by omega) (by omega), xgrd_in (by omega) (by omega), nI_clamp (by omega), xup_na _ _ _ _ _ (show 249 ≠ 248 by omega), xup_na _ _ _ _ _ (show 249 ≠ 247 by omega), s0 249]
        by_cases c : 0 ≤ D.1 249 (q + k)
        · rw [if_pos c]
          exact h142 _ (by unfold vv; rw [if_pos c]; exact vz _)
        · rw [if_neg c]
          exact h142 _ (by unfold vv; rw [if_neg c])
      by_cases c : 0 ≤ D.1 248 (q + k)
      · rw [if_pos c]
        exact h97 _ (by unfold vv; rw [if_pos c]; exact vz _)
      · rw [if_neg c]
        exact h97 _ (by unfold vv; rw [if_neg c])
    rw [key]
    exact hgo _ ⟨rl_s i1, ch_trans i2 (rR_c _ _ _ _ _)⟩
theorem E_laid {F P : Nat} (hF : 10000 < F) (hP : 2005 < P) {D : xDt} {t : T} {i p : Nat} (hw : wfT t) (hd : nd D.1 0 t i) (hi : i < 2000) (hz : sz t ≤ 150) (hp : p + 150 ≤ 12800) : oK (f_X12_laid F P xS0 241 (nI i) (nI p) D) (fun r => r.1 = nI (p + sz t - 1) ∧ ch [241, 247, 248, 249, 250, 251] [] D r.2 ∧ (∀ j, j ≠ 13 → r.2.1 241 j = D.1 241 j) ∧ (∀ x, x ≠ 241 → ∀ j, j < 12800 → (j < p ∨ p + 150 ≤ j) → r.2.1 x j = D.1 x j) ∧ nd r.2.1 p t (p + sz t - 1)) := by
  have hpos := sz_pos hw
  rw [e_X12_laid]
  simp only [xlet]
  have hd' : nd ((xup D.1 241 13 12800, D.2) : xDt).1 0 t i := nd_congr (fun x hx hx2 j _ _ => by dsimp only; rw [xup_na _ _ _ _ _ (by omega)]) hd
  refine oK_bind (E_copied t i P 12800 _ hw hd' (by dsimp only; rw [xup_at]; rfl) (by omega) (by omega) (by omega)) ?_
  rintro ⟨x, D1⟩ ⟨y1, y2, y3⟩
  dsimp only at y1 y2 y3
  subst y1
  dsimp only
  rw [y2.2.2.1, k12800, nI_sub (by omega), Nat.add_sub_cancel_left]
  refine oK_mono (E_lay hF (by omega) (by omega)) ?_
  rintro ⟨z, D2⟩ ⟨r1, r2, r3⟩
  dsimp only at r1 r2 r3 ⊢
  refine ⟨?_, ?_, ?_, ?_, ?_⟩
  · rw [r1, nI_sub (by omega), nI_add]
    congr 1; omega
  · refine ch_trans (ch_trans (ch_i (D' := D) (by simp) (ch_rfl _ _ _)) y2.1) (ch_mono r3 (by intro x hx; simp at hx ⊢; omega) (fun _ h => h))
  · intro j hj
    rw [r3.1 241 (by decide), y2.2.1 j hj]
    dsimp only
    rw [xup_nk _ _ _ _ _ hj]
  · intro x hx j hj hj2
    rw [r2.2 x j (by omega), y2.2.2.2 x hx j (by omega)]
    dsimp only
    rw [xup_na _ _ _ _ _ hx]
  · have := nd_rel r2 (by omega) t (sz t - 1) (by omega) (by rw [show 12800 + (sz t - 1) = 12800 + sz t - 1 by omega]; exact y3)
    rw [show p + (sz t - 1) = p + sz t - 1 by omega] at this
    exact this
theorem E_moved {F P : Nat} (hF : 10000 < F) (hP : 2005 < P) {D : xDt} {t : T} {lo i q : Nat} (hw : wfT t) (hd : nd D.1 lo t i) (hi : i < q) (hz : sz t ≤ 2000) (hq : 12800 ≤ q) (hq2 : q + sz t ≤ 92800) (h13 : D.1 241 13 = nI q) : oK (f_X12_moved F P xS0 241 (nI i) (nI q) (nI (sz t)) D) (fun r => r.1 = nI (sz t - 1) ∧ ch [241, 247, 248, 249, 250, 251] [] D r.2 ∧ (∀ j, j ≠ 13 → r.2.1 241 j = D.1 241 j) ∧ (∀ x, x ≠ 241 → ∀ j, 2000 ≤ j → j < 12800 → r.2.1 x j = D.1 x j) ∧ nd r.2.1 0 t (sz t - 1)) := by
  have hpos := sz_pos hw
  rw [e_X12_moved]
  refine oK_bind (E_copied t i P q _ hw hd h13 hi hq2 (by omega)) ?_
  rintro ⟨x, D1⟩ ⟨y1, y2, y3⟩
  dsimp only at y1 y2 y3
  subst y1
  dsimp only
  refine oK_mono (E_mov hF hz hq hq2) ?_
  rintro ⟨z, D2⟩ ⟨r1, r2, r3⟩
  dsimp only at r1 r2 r3 ⊢
  refine ⟨?_, ?_, ?_, ?_, ?_⟩
  · rw [r1, nI_sub (by omega)]
    congr 1; omega
  · exact ch_trans y2.1 (ch_mono r3 (by intro x hx; simp at hx ⊢; omega) (fun _ h => h))
  · intro j hj
    rw [r3.1 241 (by decide), y2.2.1 j hj]
  · intro x hx j hj hj2
    rw [r2.2 x j (by omega), y2.2.2.2 x hx j (by omega)]
  · have := nd_rel r2 (by omega) t (sz t - 1) (by omega) (by rw [show q + (sz t - 1) = q + sz t - 1 by omega]; exact y3)
    rw [Nat.zero_add] at this
    exact this
