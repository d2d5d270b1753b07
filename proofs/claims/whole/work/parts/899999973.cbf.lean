/-! decide: the class has built -/
theorem E_fill {F P a len : Nat} {v : Int32} (hl : xl xS0 a = len) (hz : len ≤ 5000) : ∀ (e i n : Nat) (D : xDt), i + e = len → e < n → ∃ D', f_J7_fill_53178_5 F P xS0 n a v (nI i) (nI len) D = some D' ∧ (∀ j, i ≤ j → j < len → D'.1 a j = v) ∧ (∀ j, j < i → D'.1 a j = D.1 a j) ∧ ch [a] [] D D'
  | _, _, 0, _, _, h => absurd h (by omega)
  | 0, i, n + 1, D, h1, _ => by
    refine ⟨D, ?_, fun j q1 q2 => absurd q2 (by omega), fun _ _ => rfl, ch_rfl _ _ _⟩
    show f_J7_fill_53178_5s F P xS0 (f_J7_fill_53178_5 F P xS0 n) a v (nI i) (nI len) D = _
    unfold f_J7_fill_53178_5s
    rw [if_pos (by rw [nI_leI (by omega) (by omega)]; omega)]
  | e + 1, i, n + 1, D, h1, h2 => by
    obtain ⟨D', e', a1, a2, a3⟩ := E_fill (F := F) (P := P) (v := v) hl hz e (i + 1) n (xup D.1 a i v, D.2) (by omega) (by omega)
    refine ⟨D', ?_, fun j q1 q2 => ?_, fun j hj => ?_, ch_trans (ch_i (by simp) (ch_rfl _ _ _)) a3⟩
    · show f_J7_fill_53178_5s F P xS0 (f_J7_fill_53178_5 F P xS0 n) a v (nI i) (nI len) D = _
      unfold f_J7_fill_53178_5s
      rw [if_neg (by rw [nI_leI (by omega) (by omega)]; omega), hl, xgrd_in (by omega) (by omega), nI_clamp (by omega), nI_1]
      exact e'
    · by_cases c : j = i
      · subst c; rw [a2 j (by omega)]; dsimp only; rw [xup_at]
      · exact a1 j (by omega) q2
    · rw [a2 j (by omega)]; dsimp only; rw [xup_nk _ _ _ _ _ (by omega)]
theorem E_fillA {F P a len : Nat} {v : Int32} {D : xDt} (hF : 100000 < F) (hl : xl xS0 a = len) (hz : len ≤ 5000) : ∃ D', f_J7_fill_53178 F P xS0 a v D = some D' ∧ (∀ j, j < len → D'.1 a j = v) ∧ ch [a] [] D D' := by
  obtain ⟨D', e, a1, _, a3⟩ := E_fill (F := F) (P := P) (v := v) hl hz len 0 F D (by omega) (by omega)
  refine ⟨D', ?_, fun j hj => a1 j (by omega) hj, a3⟩
  unfold f_J7_fill_53178
  simp only [xlet]
  rw [hl, kof]
  exact e
theorem cn_zero : ∀ {p : Nat → Bool} {k : Nat}, (∀ j, j < k → p j = false) → cn p k = 0
  | _, 0, _ => rfl
  | p, k + 1, h => by rw [cn, cn_zero (fun j hj => h j (by omega)), h k (by omega)]; rfl
theorem E_build {F P : Nat} (hF : 100000 < F) {D : xDt} {t : T} (hw : wfT t) (hz : sz t ≤ 2000) (hp : sz t ≤ 150 ∨ plT t) (hq : tha (pS 2) t = false) (hf : fmC D 202 203 t) : (∃ D' N B j, f_X8_build F P xS0 224 202 D = some (nI j, D') ∧ cst D' N B ∧ D'.1 224 9 = 0 ∧ ch frB [] D D' ∧ N[j]? = some (tp t) ∧ ∀ x, x ∈ N ↔ x ∈ cts t) ∨ (grt (cts t) ∧ ∃ v D', f_X8_build F P xS0 224 202 D = some (v, D') ∧ D'.1 224 9 = 1 ∧ ch frB [] D D') := by
  generalize hD3 : ((xup (xup (xup D.1 224 7 0) 224 8 0) 224 9 0, D.2) : xDt) = D3
  have d3 : ∀ a, a ≠ 224 → D3.1 a = D.1 a := fun a ha => by rw [← hD3]; dsimp only; rw [xup_ne _ _ _ _ ha, xup_ne _ _ _ _ ha, xup_ne _ _ _ _ ha]
  have d37 : D3.1 224 7 = 0 ∧ D3.1 224 8 = 0 ∧ D3.1 224 9 = 0 := by
    rw [← hD3]; dsimp only
    exact ⟨by rw [xup_nk _ _ _ _ _ (by omega), xup_nk _ _ _ _ _ (by omega), xup_at], by rw [xup_nk _ _ _ _ _ (by omega), xup_at], by rw [xup_at]⟩
  obtain ⟨D4, e4, a1, a2⟩ := E_fillA (F := F) (P := P) (a := 230) (len := 4096) (v := 0) (D := D3) hF (by decide +kernel) (by omega)
  have c4 : ch frB [] D D4 := ⟨fun x hx => by
    simp only [List.mem_cons, List.not_mem_nil, or_false, not_or] at hx
    rw [a2.1 x (by simp; omega), d3 x (by omega)], fun x hx => by rw [a2.2 x hx, ← hD3]⟩
  have h0 : cst D4 [] [] := by
    refine ⟨⟨by simp, by simp, by rw [a2.1 224 (by decide)]; exact d37.1, fun i x hx => absurd hx (by simp), by simp, by simp, by rw [a2.1 224 (by decide)]; exact d37.2.1, fun k x hx => absurd hx (by simp)⟩, ?_, fun p hp => Or.inl (a1 p hp), fun i hi => absurd hi (by simp)⟩
    exact cn_zero (fun j hj => by rw [a1 j hj]; rfl)
  have hcw := cw_le t
  have hcw2 : cw t ≤ 2300 := by
    rcases hp with q | q
    · have := hcw.1; omega
    · have := hcw.2 q; omega
  obtain ⟨fu, hfu⟩ : ∃ fu, F = fu + 1 + sz t := ⟨F - 1 - sz t, by omega⟩
  have r := E_brun (F := F) (P := P) hF (A := cts t) t 0 0 D4 [] [] fu hw hq (by rw [c4.1 203 (by decide)]; exact hf.2) (by omega) (by omega) h0 (by rw [a2.1 224 (by decide)]; exact d37.2.2) (by simp; omega) (fun y hy => absurd hy (by simp)) (fun y hy => hy)
  have e5 : f_X8_build F P xS0 224 202 D = f_X8_build_32 F P xS0 (fu + 1 + sz t) 224 202 (nI 0) (nI (0 + sz t) - 1) D4 := by
    rw [e_X8_build]
    simp only [xlet]
    rw [hD3, e4, Option.bind_some, c4.1 202 (by decide), hf.1, ← hfu, Nat.zero_add]
    rfl
  rw [e5]
  rcases r with ⟨D', N, B, j, f1, f2, f3, f4, f5, f6, f7, f8, f9, f10, f11⟩ | ⟨g, v, D', f1, f2, f3⟩
  · refine Or.inl ⟨D', N, B, j, ?_, f2, f3, ch_trans c4 f4, f7, fun x => by rw [f9]; simp⟩
    rw [f1, e_X8_build_32, if_pos (show nI 0 - 1 < 0 by decide), show xin 0 2000 = true by decide, xgrd_t]
    show some (D'.1 231 0, D') = _
    rw [f6]
  · exact Or.inr ⟨g, v, D', f1, f2, ch_trans c4 f3⟩
