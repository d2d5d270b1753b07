/-! decide: one token is built -/
abbrev frB : List Nat := [224, 225, 226, 227, 228, 229, 230, 231]
theorem cst_231 {D : xDt} {N B : List T} {k : Nat} {v : Int32} (h : cst D N B) : cst (xup D.1 231 k v, D.2) N B := by
  have q : ∀ x, x ≠ 231 → ((xup D.1 231 k v, D.2) : xDt).1 x = D.1 x := fun x hx => by dsimp only; rw [xup_ne _ _ _ _ hx]
  obtain ⟨⟨a1, a2, a3, a4, a5, a6, a7, a8⟩, b1, b2, b3⟩ := h
  refine ⟨⟨a1, a2, by rw [q 224 (by omega)]; exact a3, ?_, a5, a6, by rw [q 224 (by omega)]; exact a7, ?_⟩, ?_, ?_, ?_⟩
  · rw [q 225 (by omega), q 226 (by omega), q 227 (by omega), q 228 (by omega)]; exact a4
  · rw [q 229 (by omega)]; exact a8
  · rw [q 230 (by omega)]; exact b1
  · rw [q 230 (by omega)]; exact b2
  · rw [q 225 (by omega), q 226 (by omega), q 227 (by omega), q 230 (by omega)]; exact b3
theorem E_bG {F P n : Nat} {D : xDt} {v2 v3 : Int32} (h9 : D.1 224 9 = 1) : ∃ v, f_X8_build_32 F P xS0 (n + 1) 224 202 v2 v3 D = some (v, D) := by
  rw [e_X8_build_32, if_neg (show ¬ D.1 224 9 = 0 by rw [h9]; decide), show xin 0 2000 = true by decide, xgrd_t]
  by_cases c : v3 < 0
  · rw [if_pos c]; exact ⟨_, rfl⟩
  · rw [if_neg c]; exact ⟨_, rfl⟩
/-- one token is built -/
def bO (F P : Nat) (A : List T) (D : xDt) (N B : List T) (k i fu w : Nat) (L : List T) (y : T) (o : Option (Int32 × xDt)) : Prop := (∃ D' N' B' j, o = f_X8_build_32 F P xS0 (fu + 1) 224 202 (nI (k + 1)) (nI i - 1) D' ∧ cst D' N' B' ∧ D'.1 224 9 = 0 ∧ ch frB [] D D' ∧ (∀ q, q < k → D'.1 231 q = D.1 231 q) ∧ D'.1 231 k = nI j ∧ N'[j]? = some y ∧ ext N N' ∧ (∀ z, z ∈ N' ↔ z ∈ N ∨ z ∈ L) ∧ B.length ≤ B'.length ∧ N'.length ≤ N.length + w + 2 * (B'.length - B.length)) ∨ (grt A ∧ ∃ v D', o = some (v, D') ∧ D'.1 224 9 = 1 ∧ ch frB [] D D')
theorem bO_of {F P : Nat} {A : List T} {D : xDt} {N B : List T} {k i fu w : Nat} {L : List T} {y : T} {o o2 : Option (Int32 × xDt)} {Q : Int32 → xDt → List T → List T → Prop} (hk : k < 2000) (h : cR A D o Q) (hQ : ∀ v D' N' B', Q v D' N' B' → sQ N B L y w v N' B') (ho : o2 = o.bind fun q8 => xgrd (xin (nI k) 2000) (f_X8_build_32 F P xS0 (fu + 1) 224 202 (nI (k + 1)) (nI i - 1) (xup q8.2.1 231 k q8.1, q8.2.2))) : bO F P A D N B k i fu w L y o2 := by
  subst ho
  rcases h with ⟨v, D1, N1, B1, rfl, a1, a2, a3, a4⟩ | ⟨g, v, D1, N1, B1, rfl, a1, a2, a3⟩
  · obtain ⟨j, rfl, j2, j3, j4, j5, j6⟩ := hQ _ _ _ _ a4
    refine Or.inl ⟨(xup D1.1 231 k (nI j), D1.2), N1, B1, j, ?_, cst_231 a1, ?_, ?_, fun q hq => ?_, ?_, j2, j3, j4, j5, j6⟩
    · rw [Option.bind_some, xgrd_in hk (by omega)]
    · dsimp only; rw [xup_na _ _ _ _ _ (by omega)]; exact a2
    · exact ch_i (by simp) (ch_mono a3 (fun x hx => by simp at hx ⊢; omega) (fun _ h => h))
    · dsimp only; rw [xup_nk _ _ _ _ _ (by omega), a3.1 231 (by decide)]
    · dsimp only; rw [xup_at]
  · rw [Option.bind_some, xgrd_in hk (by omega)]
    obtain ⟨v', e⟩ := E_bG (F := F) (P := P) (n := fu) (D := (xup D1.1 231 k v, D1.2)) (v2 := nI (k + 1)) (v3 := nI i - 1) (by dsimp only; rw [xup_na _ _ _ _ _ (by omega)]; exact a2)
    refine Or.inr ⟨g, v', _, e, by dsimp only; rw [xup_na _ _ _ _ _ (by omega)]; exact a2, ch_i (by simp) (ch_mono a3 (fun x hx => by simp at hx ⊢; omega) (fun _ h => h))⟩
