/-! the beginning -/
theorem xD4_i : ∀ x j, x ≠ 202 → x ≠ 203 → x ≠ 241 → (x < 247 ∨ 251 < x) → xD4.1 x j = 0 := by
  intro x j h1 h2 h3 h4
  show xup xD3.1 241 14 0 x j = 0
  rw [xup_na _ _ _ _ _ h3]
  show xup (xup (xup (xup (xup (xup xD2.1 247 0 3) 248 0 (-2)) 249 0 (-2)) 250 0 0) 251 0 1) 241 13 1 x j = 0
  rw [xup_na _ _ _ _ _ h3, xup_na _ _ _ _ _ (by omega), xup_na _ _ _ _ _ (by omega), xup_na _ _ _ _ _ (by omega), xup_na _ _ _ _ _ (by omega), xup_na _ _ _ _ _ (by omega)]
  show xup xD1.1 241 13 0 x j = 0
  rw [xup_na _ _ _ _ _ h3]
  show xup (xup xD0.1 202 1 1) 203 0 49 x j = 0
  rw [xup_na _ _ _ _ _ h2, xup_na _ _ _ _ _ h1]
  rfl
theorem xD4_241 : ∀ j, j ≠ 13 → j ≠ 14 → xD4.1 241 j = 0 := by
  intro j h1 h2
  show xup xD3.1 241 14 0 241 j = 0
  rw [xup_nk _ _ _ _ _ h2]
  show xup (xup (xup (xup (xup (xup xD2.1 247 0 3) 248 0 (-2)) 249 0 (-2)) 250 0 0) 251 0 1) 241 13 1 241 j = 0
  rw [xup_nk _ _ _ _ _ h1, xup_na _ _ _ _ _ (by omega), xup_na _ _ _ _ _ (by omega), xup_na _ _ _ _ _ (by omega), xup_na _ _ _ _ _ (by omega), xup_na _ _ _ _ _ (by omega)]
  show xup xD1.1 241 13 0 241 j = 0
  rw [xup_nk _ _ _ _ _ h1]
  rfl
theorem Iv_0 (dA : T → Nat → Int32) : Iv dA xD4 := by
  refine ⟨(0, fun _ => 0, fun _ _ => 0), [], bn 3 0 nil nil, (0, fun _ => nil, fun _ _ => nil, fun _ _ => 0), [], [], ?_, ?_, ?_, ?_, ?_, ?_, ?_, ?_⟩
  · refine ⟨?_, ?_, ?_⟩
    · exact ⟨by simp, fun w hw => absurd hw (by simp), fun g hg w hw => absurd hw (by simp)⟩
    · exact ⟨xD4_i 1 0 (by omega) (by omega) (by omega) (by omega), fun k hk w hw => absurd hw (by simp), fun g hg w hw => absurd hw (by simp)⟩
    · exact ⟨xD4_241 1 (by omega) (by omega), fun w hw => absurd hw (by simp), fun g hg w hw => absurd hw (by simp)⟩
  · exact iK_nil (p := 0) (by omega) (xD4_i 4 1 (by omega) (by omega) (by omega) (by omega)) (xD4_i 4 2 (by omega) (by omega) (by omega) (by omega)) (xD4_241 7 (by omega) (by omega))
  · refine ⟨⟨by omega, by omega, Or.inr (Or.inl ⟨by omega, rfl⟩), Or.inl ⟨by omega, rfl, rfl⟩⟩, by decide, Or.inl (by decide), ⟨rfl, ?_⟩, 0, by omega, rfl, ?_⟩
    · exact tkAt_cons.mpr ⟨rfl, fun i hi => absurd hi (by simp [tks])⟩
    · exact ⟨by omega, by omega, rfl, rfl, rfl, Or.inl ⟨rfl, rfl⟩, Or.inl ⟨rfl, rfl⟩⟩
  · exact ⟨by simp, xD4_i 42 0 (by omega) (by omega) (by omega) (by omega), xD4_241 25 (by omega) (by omega), fun e he => absurd he (by simp), fun e he => absurd he (by simp), fun g hg e he => absurd he (by simp)⟩
  · exact ⟨by simp, fun x hx => absurd hx (by simp), xD4_i 192 1 (by omega) (by omega) (by omega) (by omega), fun i hi => absurd hi (by simp), xD4_241 16 (by omega) (by omega), fun i hi => absurd hi (by simp)⟩
  · exact ⟨by simp, xD4_i 204 1 (by omega) (by omega) (by omega) (by omega), fun i hi => absurd hi (by simp), xD4_241 21 (by omega) (by omega), fun i hi => absurd hi (by simp)⟩
  · exact Or.inl (xD4_i 0 13 (by omega) (by omega) (by omega) (by omega))
  · exact Or.inl (xD4_i 0 14 (by omega) (by omega) (by omega) (by omega))
