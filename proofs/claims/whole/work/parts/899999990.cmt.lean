/-! decide: all types, and how many -/
theorem E_63 {F P : Nat} {N B : List T} {w jw : Nat} {rec : Nat → Int32 → Int32 → Int64 → Int32 → xDt → Option xDt} {v2 : Int32} {v3 : Int64} {y : T} (hw : w < 128) (hjw : N[jw]? = some y) : ∀ (d i n : Nat) (D : xDt), i + d = N.length → d < n → cst D N B → (∀ j y, j < i → N[j]? = some y → ∀ b, b < 64 → bt (D.2 232 j) b = evt (val B (64 * w + b)) y) → ∃ D', f_X0_makeTypes_63 F P xS0 rec n 222 (nI jw) v2 v3 (nI w) (nI i) D = f_X0_makeTypes_120 F P xS0 rec F 222 (nI jw) v2 v3 (nI w) 0 D' ∧ (∀ j y, N[j]? = some y → ∀ b, b < 64 → bt (D'.2 232 j) b = evt (val B (64 * w + b)) y) ∧ (∀ b, b < 64 → bt (D'.2 234 w) b = evt (val B (64 * w + b)) y) ∧ D'.2 235 w = v3 ∧ (∀ w', w' ≠ w → D'.2 234 w' = D.2 234 w' ∧ D'.2 235 w' = D.2 235 w') ∧ chL [232, 234, 235] D D'
  | _, _, 0, _, _, h, _, _ => absurd h (by omega)
  | 0, i, n + 1, D, h1, _, h3, h4 => by
    have hz := h3.1.2.1
    have hjl := lt_of_at hjw
    have h4' : ∀ j y, N[j]? = some y → ∀ b, b < 64 → bt (D.2 232 j) b = evt (val B (64 * w + b)) y := fun j y hj => h4 j y (by have := lt_of_at hj; omega) hj
    refine ⟨(D.1, xup (xup D.2 234 w (D.2 232 jw)) 235 w v3), ?_, fun j y hj b hb => ?_, fun b hb => ?_, ?_, fun w' hw' => ⟨?_, ?_⟩, ?_⟩
    · rw [e_X0_makeTypes_63, h3.1.2.2.1, if_pos (by rw [nI_leI (by omega) (by omega)]; omega), xgrd_in (by omega) (by omega), xgrd_in hw (by omega), nI_clamp (by omega), nI_clamp (by omega), xlet_q, xgrd_in hw (by omega), xlet_q]
    · dsimp only; rw [xup_ne _ _ _ _ (by omega), xup_ne _ _ _ _ (by omega)]; exact h4' j y hj b hb
    · dsimp only; rw [xup_na _ _ _ _ _ (by omega), xup_at]; exact h4' jw y hjw b hb
    · dsimp only; rw [xup_at]
    · dsimp only; rw [xup_na _ _ _ _ _ (by omega), xup_nk _ _ _ _ _ hw']
    · dsimp only; rw [xup_nk _ _ _ _ _ hw', xup_na _ _ _ _ _ (by omega)]
    · exact chL_i (D' := (D.1, xup D.2 234 w (D.2 232 jw))) (by simp) (chL_i (by simp) (chL_rfl _ _))
  | d + 1, i, n + 1, D, h1, h2, h3, h4 => by
    have hz := h3.1.2.1
    have hi : i < N.length := by omega
    obtain ⟨x, hx⟩ : ∃ x, N[i]? = some x := ⟨N[i], List.getElem?_eq_getElem hi⟩
    obtain ⟨z, z1, z2⟩ := E_vof (F := F) (P := P) h3 hw hx h4
    obtain ⟨D', e', a1, a2, a3, a4, a5⟩ := E_63 (F := F) (P := P) (rec := rec) (v2 := v2) (v3 := v3) hw hjw d (i + 1) n (D.1, xup D.2 232 i z) (by omega) (by omega) (cst_L h3 rfl) (fun j y hj hy b hb => by
      dsimp only
      by_cases c : j = i
      · subst c; rw [xup_at]; rw [hx] at hy; injection hy with hy; subst hy; exact z2 b hb
      · rw [xup_nk _ _ _ _ _ c]; exact h4 j y (by omega) hy b hb)
    refine ⟨D', ?_, a1, a2, a3, fun w' hw' => ?_, chL_trans (chL_i (by simp) (chL_rfl _ _)) a5⟩
    · rw [e_X0_makeTypes_63, h3.1.2.2.1, if_neg (by rw [nI_leI (by omega) (by omega)]; omega), z1, Option.bind_some]
      dsimp only
      rw [xgrd_in (by omega) (by omega), nI_clamp (by omega), xlet_q, xlet_q, nI_1]
      exact e'
    · obtain ⟨q1, q2⟩ := a4 w' hw'
      dsimp only at q1 q2
      rw [xup_na _ _ _ _ _ (by omega)] at q1
      rw [xup_na _ _ _ _ _ (by omega)] at q2
      exact ⟨q1, q2⟩
theorem E_51 {F P : Nat} (hF : 100000 < F) {N B : List T} {W jw : Nat} {v3 : Int64} {y : T} (hW : W ≤ 128) (hjw : N[jw]? = some y) (hK : ∀ x, x ∈ B → tsr x = 8 → ∀ a, a < 4 → (mrk x).testBit a = true → tK a x ∈ B) : ∀ (d w n : Nat) (D : xDt), w + d = W → d < n → cst D N B → D.1 222 9 = nI W → (∀ w', w' < w → (∀ b, b < 64 → (bt (D.2 235 w') b = true ↔ bt v3 b = true ∧ ∀ (j : Nat) (x : T), B[j]? = some x → tyc (val B (64 * w' + b)) x)) ∧ pR2 B D w' ∧ ∀ b, b < 64 → bt (D.2 234 w') b = evt (val B (64 * w' + b)) y) → ∃ D', f_X0_makeTypes_51 F P xS0 n 222 (nI jw) (nI B.length) v3 (nI w) D = some D' ∧ (∀ w', w' < W → (∀ b, b < 64 → (bt (D'.2 235 w') b = true ↔ bt v3 b = true ∧ ∀ (j : Nat) (x : T), B[j]? = some x → tyc (val B (64 * w' + b)) x)) ∧ pR2 B D' w' ∧ ∀ b, b < 64 → bt (D'.2 234 w') b = evt (val B (64 * w' + b)) y) ∧ chL [232, 233, 234, 235] D D'
  | _, _, 0, _, _, h, _, _, _ => absurd h (by omega)
  | 0, w, n + 1, D, h1, _, h3, h9, h4 => by
    refine ⟨D, ?_, fun w' hw' => h4 w' (by omega), chL_rfl _ _⟩
    rw [e_X0_makeTypes_51, h9, if_pos (by rw [nI_leI (by omega) (by omega)]; omega)]
  | d + 1, w, n + 1, D, h1, h2, h3, h9, h4 => by
    have hz := h3.1.2.1
    have h13 := h3.1.2.2.2.2.2.1
    obtain ⟨D1, e1, a1, a2, a3, a4, a5⟩ := E_63 (F := F) (P := P) (rec := f_X0_makeTypes_51 F P xS0 n) (v2 := nI B.length) (v3 := v3) (show w < 128 by omega) hjw N.length 0 F D (by omega) (by omega) h3 (fun j y hj => absurd hj (by omega))
    have h31 : cst D1 N B := cst_L h3 a5.1
    obtain ⟨D2, e2, b1, b2, b3, b4, b5⟩ := E_120 (F := F) (P := P) hF (rec := f_X0_makeTypes_51 F P xS0 n) (v1 := nI jw) (v3 := v3) (show w < 128 by omega) hK B.length 0 F D1 (by omega) (by omega) h31 a1 (fun j x hj => absurd hj (by omega))
    have h32 : cst D2 N B := cst_L h31 b5.1
    obtain ⟨D3, e3, c1, c2⟩ := E_51 (P := P) hF (v3 := v3) hW hjw hK d (w + 1) n D2 (by omega) (by omega) h32 (by rw [b5.1, a5.1]; exact h9) (fun w' hw' => by
      by_cases c : w' = w
      · subst c
        refine ⟨fun b hb => ?_, b2, fun b hb => ?_⟩
        · rw [b1 b hb, a3]
          exact and_congr_right fun _ => ⟨fun q j x hx => q j x (by omega) hx, fun q j x _ hx => q j x hx⟩
        · rw [b5.2 234 (by decide)]; exact a2 b hb
      · obtain ⟨q1, q2, q3⟩ := h4 w' (by omega)
        refine ⟨fun b hb => ?_, fun j x hx hs b hb => ?_, fun b hb => ?_⟩
        · rw [b3 w' c, (a4 w' c).2]; exact q1 b hb
        · rw [b4 j w' (by omega) c, a5.2 233 (by decide)]; exact q2 j x hx hs b hb
        · rw [b5.2 234 (by decide), (a4 w' c).1]; exact q3 b hb)
    refine ⟨D3, ?_, c1, chL_trans (chL_mono a5 (fun x hx => by simp at hx ⊢; omega)) (chL_trans (chL_mono b5 (fun x hx => by simp at hx ⊢; omega)) c2)⟩
    rw [e_X0_makeTypes_51, h9, if_neg (by rw [nI_leI (by omega) (by omega)]; omega), show f_X0_makeTypes_63 F P xS0 (f_X0_makeTypes_51 F P xS0 n) F 222 (nI jw) (nI B.length) v3 (nI w) 0 D = _ from e1, show f_X0_makeTypes_120 F P xS0 (f_X0_makeTypes_51 F P xS0 n) F 222 (nI jw) (nI B.length) v3 (nI w) 0 D1 = _ from e2]
    exact e3
theorem all_b : ∀ n, n < 6 → ∀ b, b < 64 → bt ((jlshl 1 (jishl 1 (nI n))) - 1) b = decide (b < 2 ^ n) := by decide +kernel
theorem wd_v : ∀ n, n < 14 → 6 < n → jishl 1 (nI n - 6) = nI (wdn n) := by decide +kernel
theorem two6 {n : Nat} (h : 6 ≤ n) (h2 : n ≤ 13) : 64 * wdn n = 2 ^ n := by
  have : ∀ n, n < 14 → 6 ≤ n → 64 * wdn n = 2 ^ n := by decide +kernel
  exact this n (by omega) h
theorem E_mt {F P : Nat} (hF : 100000 < F) {N B : List T} {jw : Nat} {y : T} {D : xDt} (h3 : cst D N B) (hjw : N[jw]? = some y) (hK : ∀ x, x ∈ B → tsr x = 8 → ∀ a, a < 4 → (mrk x).testBit a = true → tK a x ∈ B) : ∃ D', f_X0_makeTypes F P xS0 222 (nI jw) D = some D' ∧ D'.1 222 9 = nI (wdn B.length) ∧ (∀ w, w < wdn B.length → (∀ b, b < 64 → (bt (D'.2 235 w) b = true ↔ 64 * w + b < 2 ^ B.length ∧ ∀ (j : Nat) (x : T), B[j]? = some x → tyc (val B (64 * w + b)) x)) ∧ pR2 B D' w ∧ ∀ b, b < 64 → bt (D'.2 234 w) b = evt (val B (64 * w + b)) y) ∧ (∀ x, x ≠ 222 → D'.1 x = D.1 x) ∧ (∀ j, j ≠ 9 → D'.1 222 j = D.1 222 j) ∧ ∀ x, x ∉ [232, 233, 234, 235] → D'.2 x = D.2 x := by
  have h13 := h3.1.2.2.2.2.2.1
  obtain ⟨w1, w2, w3, w4⟩ := wdn_le h13
  generalize hD1 : ((xup D.1 222 9 (nI (wdn B.length)), D.2) : xDt) = D1
  have d1 : ∀ x, x ≠ 222 → D1.1 x = D.1 x := fun x hx => by rw [← hD1]; dsimp only; rw [xup_ne _ _ _ _ hx]
  have d9 : D1.1 222 9 = nI (wdn B.length) := by rw [← hD1]; dsimp only; rw [xup_at]
  have h31 : cst D1 N B := cst_ch h3 (fun x q1 q2 => d1 x (by omega))
  have e1 : f_X0_makeTypes F P xS0 222 (nI jw) D = if nI B.length < 6 then (f_X0_makeTypes_47 F P xS0 222 (nI jw) (nI B.length) ((jlshl 1 (jishl 1 (nI B.length))) - 1) D1) else (f_X0_makeTypes_47 F P xS0 222 (nI jw) (nI B.length) (-1) D1) := by
    rw [e_X0_makeTypes, h3.1.2.2.2.2.2.2.1, xlet_q]
    by_cases c : B.length ≤ 6
    · rw [if_pos (show nI B.length ≤ 6 from (nI_leI (b := 6) (by omega) (by omega)).mpr c), e_X0_makeTypes_25, xlet_q, ← hD1, show wdn B.length = 1 from by unfold wdn; rw [if_pos c]]
      rfl
    · rw [if_neg (show ¬ nI B.length ≤ 6 from fun q => c ((nI_leI (b := 6) (by omega) (by omega)).mp q)), wd_v B.length (by omega) (by omega), e_X0_makeTypes_25, xlet_q, hD1]
  have key : ∀ v3 : Int64, (∀ w b, w < wdn B.length → b < 64 → (bt v3 b = true ↔ 64 * w + b < 2 ^ B.length)) → ∃ D', f_X0_makeTypes_47 F P xS0 222 (nI jw) (nI B.length) v3 D1 = some D' ∧ D'.1 222 9 = nI (wdn B.length) ∧ (∀ w, w < wdn B.length → (∀ b, b < 64 → (bt (D'.2 235 w) b = true ↔ 64 * w + b < 2 ^ B.length ∧ ∀ (j : Nat) (x : T), B[j]? = some x → tyc (val B (64 * w + b)) x)) ∧ pR2 B D' w ∧ ∀ b, b < 64 → bt (D'.2 234 w) b = evt (val B (64 * w + b)) y) ∧ (∀ x, x ≠ 222 → D'.1 x = D.1 x) ∧ (∀ j, j ≠ 9 → D'.1 222 j = D.1 222 j) ∧ ∀ x, x ∉ [232, 233, 234, 235] → D'.2 x = D.2 x := by
    intro v3 hv
    obtain ⟨D', e', a1, a2⟩ := E_51 (F := F) (P := P) hF (W := wdn B.length) (v3 := v3) w2 hjw hK (wdn B.length) 0 F D1 (by omega) (by omega) h31 d9 (fun w' hw' => absurd hw' (by omega))
    refine ⟨D', by rw [e_X0_makeTypes_47]; exact e', by rw [a2.1]; exact d9, fun w hw => ?_, fun x hx => by rw [a2.1, d1 x hx], fun j hj => by rw [a2.1, ← hD1]; dsimp only; rw [xup_nk _ _ _ _ _ hj], fun x hx => by rw [a2.2 x hx, ← hD1]⟩
    obtain ⟨q1, q2, q3⟩ := a1 w hw
    exact ⟨fun b hb => by rw [q1 b hb, hv w b hw hb], q2, q3⟩
  rw [e1]
  by_cases c : B.length < 6
  · rw [if_pos (show nI B.length < 6 from (nI_ltI (b := 6) (by omega) (by omega)).mpr c)]
    have hw1 : wdn B.length = 1 := by unfold wdn; rw [if_pos (by omega)]
    exact key _ (fun w b hw hb => by
      have : w = 0 := by omega
      subst this
      rw [all_b _ c b hb, decide_eq_true_eq, Nat.mul_zero, Nat.zero_add])
  · rw [if_neg (show ¬ nI B.length < 6 from fun q => c ((nI_ltI (b := 6) (by omega) (by omega)).mp q))]
    have := two6 (n := B.length) (by omega) h13
    exact key _ (fun w b hw hb => by
      rw [bt_m1]
      simp only [hb, decide_true, true_iff]
      omega)
/-! how many -/
theorem cn_add (p : Nat → Bool) (a : Nat) : ∀ b, cn p (a + b) = cn p a + cn (fun j => p (a + j)) b
  | 0 => by simp [cn]
  | b + 1 => by
    rw [← Nat.add_assoc, cn, cn_add p a b, cn]; omega
theorem E_sz {F P : Nat} {D : xDt} {W : Nat} {S : Nat → Bool} {wh : Bool} (hW : W ≤ 128) (h9 : D.1 222 9 = nI W) (hS : ∀ w, w < W → ∀ b, b < 64 → (bt (D.2 235 w) b && (if wh = true then bt (D.2 234 w) b else true)) = S (64 * w + b)) : ∀ (d w n : Nat), w + d = W → d < n → f_X0_sizeOf_4 F P xS0 n 222 (bI wh) (nI (cn S (64 * w))) (nI w) D = some (nI (cn S (64 * W)), D)
  | _, _, 0, _, h => absurd h (by omega)
  | 0, w, n + 1, h1, _ => by
    have : w = W := by omega
    subst this
    rw [e_X0_sizeOf_4, h9, if_pos (Int32.le_refl _)]
  | d + 1, w, n + 1, h1, h2 => by
    have hw : w < W := by omega
    have hc := cn_le S (64 * w)
    have ih := E_sz (F := F) (P := P) hW h9 hS d (w + 1) n (by omega) (by omega)
    have e35 : ∀ s0 : Int64, (∀ b, b < 64 → bt (D.2 235 w &&& s0) b = S (64 * w + b)) → f_X0_sizeOf_35 F P xS0 (f_X0_sizeOf_4 F P xS0 n) 222 (bI wh) (nI w) s0 (D.2 235 w) (nI (cn S (64 * w))) D = some (nI (cn S (64 * W)), D) := by
      intro s0 hs
      rw [e_X0_sizeOf_35, E_bitCount, Option.bind_some, xlet_q, xlet_q]
      dsimp only
      rw [nI_add, nI_1, cn_congr (q := fun b => S (64 * w + b)) hs, ← cn_add S (64 * w) 64]
      exact ih
    rw [e_X0_sizeOf_4, h9, if_neg (by rw [nI_leI (by omega) (by omega)]; omega), xgrd_in (by omega) (by omega), nI_clamp (by omega)]
    have hSw := hS w hw
    cases wh
    · rw [if_pos (show bI false = 0 from rfl)]
      refine e35 _ (fun b hb => ?_)
      rw [← hSw b hb, bt_and, bt_m1]
      simp [hb]
    · rw [if_neg (show ¬ bI true = 0 by decide), xgrd_in (by omega) (by omega)]
      refine e35 _ (fun b hb => ?_)
      rw [← hSw b hb, bt_and]
      simp
