/-! cells that nothing reads from call to call -/
def rd (x : Nat) : Prop := x = 1 ∨ (4 ≤ x ∧ x ≤ 42) ∨ x = 44 ∨ (48 ≤ x ∧ x < 192) ∨ x = 193 ∨ x = 202 ∨ x = 203 ∨ x = 205 ∨ x = 223 ∨ (242 ≤ x ∧ x ≤ 246) ∨ x = 252 ∨ x = 253 ∨ (257 ≤ x ∧ x ≤ 259)
def fr (D D2 : xDt) : Prop := (∀ x, rd x → D2.1 x = D.1 x) ∧ (∀ x, 247 ≤ x → x ≤ 251 → ∀ j, j < 12800 → D2.1 x j = D.1 x j) ∧ D2.1 0 14 = D.1 0 14 ∧ (∀ j, j = 1 ∨ j = 7 ∨ j = 14 ∨ j = 16 ∨ j = 21 ∨ j = 25 → D2.1 241 j = D.1 241 j) ∧ D2.1 192 1 = D.1 192 1 ∧ D2.1 204 1 = D.1 204 1 ∧ (∀ x, x = 2 ∨ x = 3 ∨ (6 ≤ x ∧ x < 42) → D2.2 x = D.2 x)
theorem fr_rfl (D : xDt) : fr D D := ⟨fun _ _ => rfl, fun _ _ _ _ _ => rfl, rfl, fun _ _ => rfl, rfl, rfl, fun _ _ => rfl⟩
theorem fr_trans {D D' D'' : xDt} (h : fr D D') (h' : fr D' D'') : fr D D'' := ⟨fun x hx => (h'.1 x hx).trans (h.1 x hx), fun x hx hx2 j hj => (h'.2.1 x hx hx2 j hj).trans (h.2.1 x hx hx2 j hj), h'.2.2.1.trans h.2.2.1, fun j hj => (h'.2.2.2.1 j hj).trans (h.2.2.2.1 j hj), h'.2.2.2.2.1.trans h.2.2.2.2.1, h'.2.2.2.2.2.1.trans h.2.2.2.2.2.1, fun x hx => (h'.2.2.2.2.2.2 x hx).trans (h.2.2.2.2.2.2 x hx)⟩
/-- rows that are read: none of these -/
def scr (I L : List Nat) : Bool := I.all (fun x => decide (x = 45 ∨ x = 46 ∨ x = 47 ∨ (194 ≤ x ∧ x ≤ 201) ∨ (206 ≤ x ∧ x ≤ 222) ∨ (224 ≤ x ∧ x ≤ 240) ∨ (254 ≤ x ∧ x ≤ 256) ∨ 260 ≤ x)) && L.all (fun x => decide (x = 45 ∨ 42 ≤ x))
theorem fr_ch {I L : List Nat} {D D2 : xDt} (hs : scr I L = true) (h : ch I L D D2) : fr D D2 := by
  simp only [scr, Bool.and_eq_true, List.all_eq_true, decide_eq_true_eq] at hs
  have n1 : ∀ x, ¬ (x = 45 ∨ x = 46 ∨ x = 47 ∨ (194 ≤ x ∧ x ≤ 201) ∨ (206 ≤ x ∧ x ≤ 222) ∨ (224 ≤ x ∧ x ≤ 240) ∨ (254 ≤ x ∧ x ≤ 256) ∨ 260 ≤ x) → D2.1 x = D.1 x := fun x hx => h.1 x (fun c => hx (hs.1 x c))
  refine ⟨fun x hx => n1 x (by unfold rd at hx; omega), fun x hx hx2 j _ => by rw [n1 x (by omega)], by rw [n1 0 (by omega)], fun j _ => by rw [n1 241 (by omega)], by rw [n1 192 (by omega)], by rw [n1 204 (by omega)], fun x hx => h.2 x (fun c => by have := hs.2 x c; omega)⟩
theorem fr_W {D D2 : xDt} {W : Wd} (h : fr D D2) (a : iW D W) : iW D2 W := by
  obtain ⟨f1, f2, f3, f4, f5, f6, f7⟩ := h
  exact iW_congr (by rw [f1 1 (Or.inl rfl)]) (f7 2 (by omega)) (f7 3 (by omega)) (f4 1 (by omega)) (f1 242 (by unfold rd; omega)) (f1 243 (by unfold rd; omega)) a
theorem fr_K {D D2 : xDt} {L : List Wd} (h : fr D D2) (a : iK D L) : iK D2 L := by
  obtain ⟨f1, f2, f3, f4, f5, f6, f7⟩ := h
  exact iK_congr (f1 4 (by unfold rd; omega)) (f4 7 (by omega)) (fun x hx hx2 => ⟨f1 x (by unfold rd; omega), f7 x (by omega)⟩) (fun x hx hx2 => f1 x (by unfold rd; omega)) a
theorem fr_T {D D2 : xDt} {t : T} (h : fr D D2) (a : iT D t) : iT D2 t := by
  obtain ⟨f1, f2, f3, f4, f5, f6, f7⟩ := h
  exact iT_congr (by rw [f1 202 (by unfold rd; omega)]) (f1 203 (by unfold rd; omega)) (f4 14 (by omega)) (fun x hx hx2 j hj => f2 x hx hx2 j (by omega)) a
theorem fr_E {D D2 : xDt} {E : Ev} (h : fr D D2) (a : iE D E) : iE D2 E := by
  obtain ⟨f1, f2, f3, f4, f5, f6, f7⟩ := h
  exact iE_congr (by rw [f1 42 (by unfold rd; omega)]) (f4 25 (by omega)) (fun x hx => f1 x (by unfold rd; omega)) (fun x hx hx2 j _ hj => f2 x hx hx2 j hj) a
theorem fr_S {D D2 : xDt} {sg : List Nat} (h : fr D D2) (a : iS D sg) : iS D2 sg := by
  obtain ⟨f1, f2, f3, f4, f5, f6, f7⟩ := h
  exact iS_congr f5 (f1 193 (by unfold rd; omega)) (f4 16 (by omega)) (f1 252 (by unfold rd; omega)) a
theorem fr_X {D D2 : xDt} {tx : List Nat} (h : fr D D2) (a : iX D tx) : iX D2 tx := by
  obtain ⟨f1, f2, f3, f4, f5, f6, f7⟩ := h
  exact iX_congr f6 (f1 205 (by unfold rd; omega)) (f4 21 (by omega)) (f1 253 (by unfold rd; omega)) a
theorem fr_D {dA : T → Nat → Int32} {D D2 : xDt} {t : T} (h : fr D D2) (a : iD dA D t) : iD dA D2 t := iD_congr h.2.2.1 (h.1 223 (by unfold rd; omega)) a
/-- nothing that is read has changed -/
theorem Iv_fr {dA : T → Nat → Int32} {D D2 : xDt} (h : Iv dA D) (hf : fr D D2) (h0 : D2.1 0 13 = D.1 0 13) (h1 : D2.2 0 = D.2 0) : Iv dA D2 := by
  obtain ⟨W, L, t, E, sg, tx, a1, a2, a3, a4, a5, a6, a7, a8⟩ := h
  exact ⟨W, L, t, E, sg, tx, fr_W hf a1, fr_K hf a2, fr_T hf a3, fr_E hf a4, fr_S hf a5, fr_X hf a6, iJ_congr h0 h1 a7, fr_D hf a8⟩
/-! holds, worlds -/
theorem jo1 {t : T} (h : sz t ≤ 2000) : jo 202 203 1 2 3 (sz t) := ⟨by decide +kernel, by rw [show xl xS0 203 = 2000 by decide +kernel]; exact h, by rw [show xl xS0 203 = 2000 by decide +kernel]; exact Nat.le_refl _, oW1, by decide, by decide, by decide, by decide, by decide⟩
theorem E_truths {F P : Nat} (hF : 10000 < F) {D : xDt} {W : Wd} {t : T} (hW : iW D W) (hT : iT D t) (hJ : iJ D W t) : ∃ D1, f_X11_truths F P xS0 0 D = some (ev W t (aS W), D1) ∧ fr D D1 ∧ iJ D1 W t ∧ (∀ x, x ≠ 0 → x ≠ 207 → x ≠ 208 → x ≠ 209 → D1.1 x = D.1 x) ∧ (∀ x, x ≠ 0 → x ≠ 207 → x ≠ 210 → x ≠ 211 → D1.2 x = D.2 x) ∧ (∀ j, j ≠ 13 → D1.1 0 j = D.1 0 j) := by
  rw [e_X11_truths]
  rcases hJ with h0 | ⟨h0, h1⟩
  · rw [if_pos h0]
    obtain ⟨D', e, hj⟩ := E_where (P := P) hF (jo1 hT.2.1) hW.1 hT.1 hT.2.2.2.1 hW.2.1
    rw [e]
    simp only [Option.bind_some, xlet]
    rw [xup_at]
    have hc : ch [0, 207, 208, 209] [0, 207, 210, 211] D (xup D'.1 0 13 1, xup D'.2 0 12 (ev W t (aS W))) := by
      refine ch_i (D' := (D'.1, xup D'.2 0 12 (ev W t (aS W)))) (by simp) (ch_l (by simp) (ch_mono hj.1 ?_ ?_))
      · intro x hx; simp at hx ⊢; omega
      · intro x hx; simp at hx ⊢; omega
    have h0j : ∀ j, j ≠ 13 → xup D'.1 0 13 1 0 j = D.1 0 j := by
      intro j hj'
      rw [xup_nk _ _ _ _ _ hj', hj.1.1 0 (by decide)]
    refine ⟨_, rfl, ?_, Or.inr ⟨by dsimp only; rw [xup_at], by dsimp only; rw [xup_at]⟩, ?_, ?_, h0j⟩
    · refine ⟨fun x hx => hc.1 x (by unfold rd at hx; simp; omega), fun x hx hx2 j _ => by rw [hc.1 x (by simp; omega)], h0j 14 (by omega), fun j _ => by rw [hc.1 241 (by decide)], by rw [hc.1 192 (by decide)], by rw [hc.1 204 (by decide)], fun x hx => hc.2 x (by simp; omega)⟩
    · intro x a b c d; exact hc.1 x (by simp; omega)
    · intro x a b c d; exact hc.2 x (by simp; omega)
  · rw [if_neg (by rw [h0]; decide), h1]
    exact ⟨D, rfl, fr_rfl D, Or.inr ⟨h0, h1⟩, fun _ _ _ _ _ => rfl, fun _ _ _ _ _ => rfl, fun _ _ => rfl⟩
theorem E_mtruth {F P : Nat} (hF : 10000 < F) (hP : 2005 < P) {D : xDt} {W : Wd} {t : T} (hW : iW D W) (hT : iT D t) : f_X12_where F P xS0 P 241 (D.1 241 14) (aS W) D = some (ev W t (aS W), D) := by
  obtain ⟨a1, a2, a3, a4, i, a5, a6, a7⟩ := hT
  rw [a6, E_mwhere (by omega) hW.1 hW.2.2 t i P (aS W) a1 a7 (by omega) (fun j => aS_lt)]
theorem M_holds {dA : T → Nat → Int32} {F P : Nat} (hF : 10000 < F) (hP : 2005 < P) {D : xDt} (h : Iv dA D) (x : Int32) : Two dA D (f_X11_holds F P xS0 0 x) (f_X12_holds F P xS0 241 x) := by
  obtain ⟨W, L, t, E, sg, tx, a1, a2, a3, a4, a5, a6, a7, a8⟩ := id h
  have hn := a1.1.1
  rcases i_in W.1 x with ⟨w, hw, _, rfl⟩ | hx
  rotate_left
  · refine Iv_same (r := -1) h ?_ ?_
    · rw [e_X11_holds, E_has0 a1.2.1.1 hn hx]; rfl
    · rw [e_X12_holds, E_isW0 a1.2.2.1 hn hx]; rfl
  obtain ⟨D1, e1, f1, j1, _⟩ := E_truths (P := P) hF a1 a3 a7
  have b1 := fr_W f1 a1
  have b3 := fr_T f1 a3
  refine ⟨if bt (ev W t (aS W)) w then 1 else 0, D1, D1, ?_, ?_, W, L, t, E, sg, tx, b1, fr_K f1 a2, b3, fr_E f1 a4, fr_S f1 a5, fr_X f1 a6, j1, fr_D f1 a8⟩
  · rw [e_X11_holds, E_has1 a1.2.1.1 hn hw]
    simp only [Option.bind_some]
    rw [if_neg (by decide), e1]
    simp only [Option.bind_some]
    rw [test1i _ (by omega)]
  · rw [e_X12_holds, E_isW1 b1.2.2.1 hn hw]
    simp only [Option.bind_some]
    rw [if_neg (by decide), E_mall b1.2.2.1 hn]
    simp only [Option.bind_some]
    rw [show f_X12_where F P xS0 P 241 (D1.1 241 14) (mkS fun j => decide (j < W.1)) D1 = _ from E_mtruth hF hP b1 b3]
    simp only [Option.bind_some]
    rw [test1i _ (by omega)]
theorem M_worlds {dA : T → Nat → Int32} {F P : Nat} (hF : 10000 < F) (hP : 2005 < P) {D : xDt} (h : Iv dA D) : Two dA D (f_X11_worlds F P xS0 0) (f_X12_worlds F P xS0 241) := by
  obtain ⟨W, L, t, E, sg, tx, a1, a2, a3, a4, a5, a6, a7, a8⟩ := id h
  have hn := a1.1.1
  obtain ⟨D1, e1, f1, j1, _⟩ := E_truths (P := P) hF a1 a3 a7
  have b1 := fr_W f1 a1
  have b3 := fr_T f1 a3
  refine ⟨nI (cn (bt (ev W t (aS W))) 64), D1, D1, ?_, ?_, W, L, t, E, sg, tx, b1, fr_K f1 a2, b3, fr_E f1 a4, fr_S f1 a5, fr_X f1 a6, j1, fr_D f1 a8⟩
  · rw [e_X11_worlds, e1]
    simp only [Option.bind_some]
    rw [E_bitCount]; rfl
  · rw [e_X12_worlds, E_mall b1.2.2.1 hn]
    simp only [Option.bind_some]
    rw [show f_X12_where F P xS0 P 241 (D1.1 241 14) (mkS fun j => decide (j < W.1)) D1 = _ from E_mtruth hF hP b1 b3]
    simp only [Option.bind_some]
    rw [E_size (by omega)]; rfl
/-! count, letter, noEvents -/
theorem jmax_n {a b : Nat} (ha : a < 2 ^ 31) (hb : b < 2 ^ 31) : jmax (nI a) (nI b) = nI (max a b) := by
  unfold jmax
  by_cases h : a < b
  · rw [if_pos ((nI_ltI ha hb).mpr h), Nat.max_eq_right (by omega)]
  · rw [if_neg (fun c => h ((nI_ltI ha hb).mp c)), Nat.max_eq_left (by omega)]
theorem jmin_n {a b : Nat} (ha : a < 2 ^ 31) (hb : b < 2 ^ 31) : jmin (nI a) (nI b) = nI (min a b) := by
  unfold jmin
  by_cases h : b < a
  · rw [if_pos ((nI_ltI hb ha).mpr h), Nat.min_eq_right (by omega)]
  · rw [if_neg (fun c => h ((nI_ltI hb ha).mp c)), Nat.min_eq_left (by omega)]
theorem ll240 : xl xS0 240 = 2000 := by decide +kernel
theorem ll203 : xl xS0 203 = 2000 := by decide +kernel
theorem rr202 : xr xS0 202 0 = 203 := by decide +kernel
