/-! alike worlds, plainly -/
noncomputable def sN (W : Wd) (lk : Nat → Nat) (g w : Nat) : Int64 := mkS (fun j => tb (∃ u, u < W.1 ∧ W.2.2 g u = W.2.2 g w ∧ lk u = j))
theorem bt_sN {W : Wd} {lk : Nat → Nat} {g w : Nat} (j : Nat) (hj : j < 64) : bt (sN W lk g w) j = true ↔ ∃ u, u < W.1 ∧ W.2.2 g u = W.2.2 g w ∧ lk u = j := by
  rw [sN, bt_mkS, Bool.and_eq_true, tb_iff]
  simp [hj]
def sm2 (W : Wd) (lk : Nat → Nat) (v w : Nat) : Prop := lk v = lk w ∧ ∀ g, g < 4 → sN W lk g v = sN W lk g w
theorem sm2_rfl {W : Wd} {lk : Nat → Nat} (w : Nat) : sm2 W lk w w := ⟨rfl, fun _ _ => rfl⟩
noncomputable def lkS (W : Wd) (lk : Nat → Nat) (w : Nat) : Nat := lst (fun v => tb (sm2 W lk v w)) W.1
def lk0 (W : Wd) (w : Nat) : Nat := lst (fun v => decide (W.2.1 v = W.2.1 w)) W.1
def gk (W : Wd) (lk : Nat → Nat) : Prop := ∀ w, w < W.1 → lk w ≤ w ∧ lk (lk w) = lk w
theorem lk0_g (W : Wd) : gk W (lk0 W) := by
  intro w hw
  have h1 : (fun v => decide (W.2.1 v = W.2.1 w)) w = true := by simp
  have h2 : lk0 W w ≤ w := lst_lej h1 (by omega)
  refine ⟨h2, ?_⟩
  have h3 := lst_yes (fun v => decide (W.2.1 v = W.2.1 w)) W.1 (lst_lt hw h1)
  have h4 : W.2.1 (lk0 W w) = W.2.1 w := decide_eq_true_iff.mp h3
  show lst (fun v => decide (W.2.1 v = W.2.1 (lk0 W w))) W.1 = _
  rw [h4]; rfl
theorem lkS_p {W : Wd} {lk : Nat → Nat} {w : Nat} (hw : w < W.1) : lkS W lk w ≤ w ∧ sm2 W lk (lkS W lk w) w := by
  have h1 : (fun v => tb (sm2 W lk v w)) w = true := tb_iff.mpr (sm2_rfl w)
  refine ⟨lst_lej h1 (by omega), ?_⟩
  exact tb_iff.mp (lst_yes (fun v => tb (sm2 W lk v w)) W.1 (lst_lt hw h1))
theorem lkS_eq {W : Wd} {lk : Nat → Nat} {v w : Nat} (h : sm2 W lk v w) : lkS W lk v = lkS W lk w := by
  apply lst_congr
  intro j _
  apply b_iff
  rw [tb_iff, tb_iff]
  constructor
  · rintro ⟨h1, h2⟩; exact ⟨h1.trans h.1, fun g hg => (h2 g hg).trans (h.2 g hg)⟩
  · rintro ⟨h1, h2⟩; exact ⟨h1.trans h.1.symm, fun g hg => (h2 g hg).trans (h.2 g hg).symm⟩
theorem lkS_g (W : Wd) (lk : Nat → Nat) : gk W (lkS W lk) := fun w hw => ⟨(lkS_p hw).1, lkS_eq (lkS_p hw).2⟩
/-- how many classes -/
def fx (W : Wd) (lk : Nat → Nat) : Nat := cn (fun w => decide (lk w = w)) W.1
theorem fx_grow {W : Wd} {lk : Nat → Nat} (hg : gk W lk) (hne : ¬ ∀ w, w < W.1 → lkS W lk w = lk w) : fx W lk < fx W (lkS W lk) := by
  have keep : ∀ w, w < W.1 → lk w = w → lkS W lk w = w := by
    intro w hw h
    have h1 := lkS_p (lk := lk) hw
    have h2 := (hg _ (show lkS W lk w < W.1 by omega)).1
    have h3 := h1.2.1
    rw [h] at h3
    omega
  apply cn_strict
  · intro w hw h
    rw [decide_eq_true_iff] at h ⊢
    exact keep w hw h
  · apply Classical.byContradiction
    intro hc
    apply hne
    intro w hw
    have h1 := lkS_p (lk := lk) hw
    have hv : lkS W lk w < W.1 := by omega
    have h2 : lkS W lk (lkS W lk w) = lkS W lk w := (lkS_g W lk w hw).2
    have h3 : lk (lkS W lk w) = lkS W lk w := by
      apply Classical.byContradiction
      intro q
      exact hc ⟨lkS W lk w, hv, by rw [decide_eq_true_iff]; exact h2, by rw [decide_eq_false_iff_not]; exact q⟩
    rw [← h3]; exact h1.2.1
theorem fx_le (W : Wd) (lk : Nat → Nat) : fx W lk ≤ W.1 := cn_le _ _
theorem sN_congr {W : Wd} {lk lk' : Nat → Nat} (h : ∀ w, w < W.1 → lk w = lk' w) (g w : Nat) : sN W lk g w = sN W lk' g w := by
  apply mkS_congr
  intro j _
  apply b_iff
  rw [tb_iff, tb_iff]
  constructor
  · rintro ⟨u, h1, h2, h3⟩; exact ⟨u, h1, h2, by rw [← h u h1]; exact h3⟩
  · rintro ⟨u, h1, h2, h3⟩; exact ⟨u, h1, h2, by rw [h u h1]; exact h3⟩
/-! the class -/
theorem sh1b {w j : Nat} (hw : w < 64) : bt (jlshl 1 (nI w)) j = decide (j = w) := bt_bit hw j
theorem E_start {F P : Nat} (hF : 10000 < F) {D : xDt} {W : Wd} (hW : wOK W) (hC : wC D 1 2 3 W) : oK (f_X4_start F P xS0 212 1 D) (fun D' => ch [213, 216] [] D D' ∧ ∀ w, w < W.1 → D'.1 213 w = nI (lk0 W w)) := by
  have hn := hW.1
  rw [e_X4_start]
  refine lpu (W := fun n w (D1 : xDt) => oK (f_X4_start_2 F P xS0 n 212 1 (nI w) D1) _) (I := fun w D1 => ch [213, 216] [] D D1 ∧ (∀ v, v < w → D1.1 213 v = nI (lk0 W v)) ∧ ∀ v, v < w → D1.1 216 v = nI (W.2.1 v)) W.1 ?_ ?_ W.1 0 _ F (by omega) (by omega) ⟨ch_rfl _ _ _, fun v h => absurd h (by omega), fun v h => absurd h (by omega)⟩
  · rintro n D1 ⟨i1, i2, i3⟩
    rw [e_X4_start_2, if_pos (by rw [i1.1 1 (by decide), hC.1]; exact Int32.le_refl _)]
    exact oK_some ⟨i1, i2⟩
  · rintro n w D1 hw ⟨i1, i2, i3⟩ hk
    rw [e_X4_start_2, if_neg (by rw [i1.1 1 (by decide), hC.1, nI_leI (by omega) (by omega)]; omega), E_atomsOf (by omega) oW1 (by omega) (hW.2.1 w hw) (fun k hk8 => by rw [i1.2 2 (by simp)]; exact hC.2.1 k hk8 w hw), Option.bind_some, xgrd_in (by omega) (by omega), nI_clamp (by omega)]
    simp only [xlet]
    rw [xgrd_in (by omega) (by omega)]
    have fin : ∀ (D3 : xDt) (x : Nat), ch [213, 216] [] D D3 → (∀ v, v < w → D3.1 213 v = nI (lk0 W v)) → D3.1 213 w = nI (lk0 W w) → (∀ v, v < w + 1 → D3.1 216 v = nI (W.2.1 v)) → oK (f_X4_start_66 F P xS0 (f_X4_start_2 F P xS0 n) 212 1 (nI w) D3) (fun D' => ch [213, 216] [] D D' ∧ ∀ w, w < W.1 → D'.1 213 w = nI (lk0 W w)) := by
      intro D3 _ c1 c2 c3 c4
      rw [e_X4_start_66]
      simp only [xlet]
      rw [nI_1]
      refine hk D3 ⟨c1, fun v hv => ?_, c4⟩
      by_cases q : v = w
      · rw [q]; exact c3
      · exact c2 v (by omega)
    generalize hD2 : ((xup (xup D1.1 216 w (nI (W.2.1 w))) 213 w (nI w), D1.2) : xDt) = D2
    have d0 : ch [213, 216] [] D D2 := by rw [← hD2]; exact ch_i (D' := (xup D1.1 216 w (nI (W.2.1 w)), D1.2)) (by simp) (ch_i (by simp) i1)
    have d1 : ∀ v, v < w → D2.1 213 v = nI (lk0 W v) := fun v hv => by rw [← hD2]; dsimp only; rw [xup_nk _ _ _ _ _ (by omega), xup_na _ _ _ _ _ (by omega)]; exact i2 v hv
    have d2 : D2.1 213 w = nI w := by rw [← hD2]; dsimp only; rw [xup_at]
    have d3 : ∀ v, v < w + 1 → D2.1 216 v = nI (W.2.1 v) := fun v hv => by
      rw [← hD2]
      dsimp only
      rw [xup_na _ _ _ _ _ (by omega)]
      by_cases q : v = w
      · subst q; rw [xup_at]
      · rw [xup_nk _ _ _ _ _ q]; exact i3 v (by omega)
    refine lpu (W := fun n' v (_ : Unit) => oK (f_X4_start_30 F P xS0 (f_X4_start_2 F P xS0 n) n' 212 1 (nI w) (nI v) D2) _) (I := fun v _ => ∀ j, j < v → ¬ W.2.1 j = W.2.1 w) w ?_ ?_ w 0 () F (by omega) (by omega) (fun j hj => absurd hj (by omega))
    · intro n' _ hI
      rw [e_X4_start_30, if_pos (Int32.le_refl _)]
      refine fin D2 0 d0 d1 ?_ d3
      rw [d2]
      congr 1
      exact (lst_eq hw (by simp) (fun j hj => by simpa using hI j hj)).symm
    · intro n' v _ hv hI hk2
      have a1 := hW.2.1 v (by omega)
      have a2 := hW.2.1 w hw
      rw [e_X4_start_30, if_neg (by rw [nI_leI (by omega) (by omega)]; omega), xgrd_in (by omega) (by omega), xgrd_in (by omega) (by omega), nI_clamp (by omega), nI_clamp (by omega), d3 v (by omega), d3 w (by omega)]
      by_cases q : W.2.1 v = W.2.1 w
      · rw [if_pos (by rw [q]), xgrd_in (by omega) (by omega)]
        simp only [xlet]
        refine fin _ 0 (ch_i (by simp) d0) (fun j hj => ?_) ?_ (fun j hj => ?_)
        · dsimp only
          rw [xup_nk _ _ _ _ _ (by omega)]; exact d1 j hj
        · dsimp only
          rw [xup_at]
          congr 1
          exact (lst_eq (by omega) (by simp [q]) (fun j hj => by simpa using hI j hj)).symm
        · dsimp only
          rw [xup_na _ _ _ _ _ (by omega)]; exact d3 j hj
      · rw [if_neg (by rw [nI_eq (by omega) (by omega)]; exact q)]
        simp only [xlet]
        rw [nI_1]
        refine hk2 () (fun j hj => ?_)
        by_cases e : j = v
        · rw [e]; exact q
        · exact hI j (by omega)
theorem E_firstsIn {F P : Nat} (hF : 10000 < F) {D : xDt} {W : Wd} {lk : Nat → Nat} (hW : wOK W) (hg : gk W lk) (hl : ∀ w, w < W.1 → D.1 213 w = nI (lk w)) {g w : Nat} : f_X4_firstsIn F P xS0 212 (cs W g w) (nI W.1) D = some (sN W lk g w, D) := by
  have hn := hW.1
  rw [e_X4_firstsIn]
  refine lpu (W := fun n i (v : Int64) => f_X4_firstsIn_6 F P xS0 n 212 (cs W g w) (nI W.1) v (nI i) D = _) (I := fun i v => ∀ j, j < 64 → (bt v j = true ↔ ∃ u, u < i ∧ W.2.2 g u = W.2.2 g w ∧ lk u = j)) W.1 ?_ ?_ W.1 0 _ F (by omega) (by omega) ?_
  · intro n v h
    rw [e_X4_firstsIn_6, if_pos (Int32.le_refl _)]
    have : v = sN W lk g w := bt_ext (fun j hj => b_iff (by rw [h j hj, bt_sN j hj]))
    rw [this]
  · intro n i v hi h hk
    have hlk := (hg i hi).1
    rw [e_X4_firstsIn_6, if_neg (by rw [nI_leI (by omega) (by omega)]; omega), xgrd_in (by omega) (by omega), nI_clamp (by omega), hl i hi, sh01 _ (by omega) (by omega), bt_cs _ hn]
    simp only [xlet, nI_1]
    refine hk _ (fun j hj => ?_)
    by_cases q : W.2.2 g i = W.2.2 g w
    · rw [if_pos (by simp [hi, q]), bt_or, Bool.or_eq_true, h j hj, sh1b (by omega), decide_eq_true_iff]
      constructor
      · rintro (⟨u, h1, h2⟩ | rfl)
        · exact ⟨u, by omega, h2⟩
        · exact ⟨i, by omega, q, rfl⟩
      · rintro ⟨u, h1, h2, h3⟩
        by_cases e : u = i
        · subst e; exact Or.inr h3.symm
        · exact Or.inl ⟨u, by omega, h2, h3⟩
    · rw [if_neg (by simp [q]), bt_or, bt_0, Bool.or_false, h j hj]
      constructor
      · rintro ⟨u, h1, h2⟩; exact ⟨u, by omega, h2⟩
      · rintro ⟨u, h1, h2, h3⟩
        by_cases e : u = i
        · subst e; exact absurd h2 q
        · exact ⟨u, by omega, h2, h3⟩
  · intro j _
    rw [bt_0]
    constructor
    · intro c; cases c
    · rintro ⟨u, h, _⟩; omega
theorem ll214 : xl xS0 214 = 256 := by decide +kernel
theorem sN_cell {W : Wd} {lk : Nat → Nat} {g u w : Nat} (h : W.2.2 g u = W.2.2 g w) : sN W lk g u = sN W lk g w := by
  unfold sN; rw [h]
theorem E_look {F P : Nat} (hF : 10000 < F) {D : xDt} {W : Wd} {lk : Nat → Nat} (hW : wOK W) (hC : wC D 1 2 3 W) (hg : gk W lk) (hl : ∀ w, w < W.1 → D.1 213 w = nI (lk w)) : oK (f_X4_look F P xS0 212 1 D) (fun D' => D'.1 = D.1 ∧ (∀ x, x ≠ 214 → D'.2 x = D.2 x) ∧ ∀ g, g < 4 → ∀ w, w < W.1 → D'.2 214 (g * 64 + w) = sN W lk g w) := by
  have hn := hW.1
  rw [e_X4_look]
  refine lpu (W := fun n g (D1 : xDt) => oK (f_X4_look_2 F P xS0 n 212 1 (nI g) D1) _) (I := fun g D1 => D1.1 = D.1 ∧ (∀ x, x ≠ 214 → D1.2 x = D.2 x) ∧ ∀ g', g' < g → ∀ w, w < W.1 → D1.2 214 (g' * 64 + w) = sN W lk g' w) 4 ?_ ?_ 4 0 _ F (by omega) (by omega) ⟨rfl, fun _ _ => rfl, fun g' h => absurd h (by omega)⟩
  · rintro n D1 ⟨i1, i2, i3⟩
    rw [e_X4_look_2, if_pos (by decide)]
    exact oK_some ⟨i1, i2, i3⟩
  · rintro n g D1 hg4 ⟨i1, i2, i3⟩ hk
    rw [e_X4_look_2, k4, if_neg (by rw [nI_leI (by omega) (by omega)]; omega)]
    refine lpu (W := fun n' w (D2 : xDt) => oK (f_X4_look_9 F P xS0 (f_X4_look_2 F P xS0 n) n' 212 1 (nI g) (nI w) D2) _) (I := fun w D2 => D2.1 = D.1 ∧ (∀ x, x ≠ 214 → D2.2 x = D.2 x) ∧ (∀ g', g' < g → ∀ w, w < W.1 → D2.2 214 (g' * 64 + w) = sN W lk g' w) ∧ ∀ w', w' < w → D2.2 214 (g * 64 + w') = sN W lk g w') W.1 ?_ ?_ W.1 0 _ F (by omega) (by omega) ⟨i1, i2, i3, fun w' h => absurd h (by omega)⟩
    · rintro n' D2 ⟨j1, j2, j3, j4⟩
      rw [e_X4_look_9, j1, if_pos (by rw [hC.1]; exact Int32.le_refl _)]
      simp only [xlet]
      rw [nI_1]
      refine hk D2 ⟨j1, j2, fun g' hg' w hw => ?_⟩
      by_cases q : g' = g
      · subst q; exact j4 w hw
      · exact j3 g' (by omega) w hw
    · rintro n' w D2 hw ⟨j1, j2, j3, j4⟩ hk2
      have hR := hW.2.2 g hg4 w hw
      have hcell : D2.2 3 (g * 64 + w) = cs W g w := by rw [j2 3 (by omega)]; exact hC.2.2 g hg4 w hw
      have h75 : ∀ x : Int64, x = sN W lk g w → oK (f_X4_look_75 F P xS0 (f_X4_look_2 F P xS0 n) (f_X4_look_9 F P xS0 (f_X4_look_2 F P xS0 n) n') 212 1 (nI g) (nI w) x (nI (g * 64 + w)) 214 D2) (fun D' => D'.1 = D.1 ∧ (∀ x, x ≠ 214 → D'.2 x = D.2 x) ∧ ∀ g, g < 4 → ∀ w, w < W.1 → D'.2 214 (g * 64 + w) = sN W lk g w) := by
        rintro x rfl
        rw [e_X4_look_75, ll214, xgrd_in (by omega) (by omega), nI_clamp (by omega)]
        simp only [xlet]
        rw [nI_1]
        refine hk2 _ ⟨j1, fun x hx => ?_, fun g' hg' w' hw' => ?_, fun w' hw' => ?_⟩
        · dsimp only
          rw [xup_ne _ _ _ _ hx]; exact j2 x hx
        · dsimp only
          rw [xup_nk _ _ _ _ _ (by omega)]; exact j3 g' hg' w' hw'
        · dsimp only
          by_cases q : w' = w
          · subst q; rw [xup_at]
          · rw [xup_nk _ _ _ _ _ (by omega)]; exact j4 w' (by omega)
      rw [e_X4_look_9, j1, if_neg (by rw [hC.1, nI_leI (by omega) (by omega)]; omega), E_cell oW1 hg4 (by omega), Option.bind_some, hcell, E_lowest, Option.bind_some, lst_cs hW hg4 hw]
      simp only [xlet]
      rw [k64, nI_mul, nI_add, nI_add]
      by_cases q : w ≤ W.2.2 g w
      · rw [if_pos ((nI_leI (by omega) (by omega)).mpr q), j1, hC.1, E_firstsIn hF hW hg (by rw [j1]; exact hl), Option.bind_some]
        exact h75 _ rfl
      · rw [if_neg (fun c => q ((nI_leI (by omega) (by omega)).mp c)), xgrd_in (by omega) (by omega), nI_clamp (by omega), j4 _ (by omega)]
        exact h75 _ (sN_cell hR.2)
theorem E_see {F P : Nat} (hF : 10000 < F) {D : xDt} {W : Wd} {lk : Nat → Nat} (hn : W.1 ≤ 64) (hs : ∀ g, g < 4 → ∀ w, w < W.1 → D.2 214 (g * 64 + w) = sN W lk g w) {v w : Nat} (hv : v < W.1) (hw : w < W.1) : ∃ r : Int32, f_X4_seeSame F P xS0 212 (nI v) (nI w) D = some (r, D) ∧ (r = 0 ↔ ¬ ∀ g, g < 4 → sN W lk g v = sN W lk g w) := by
  rw [e_X4_seeSame]
  refine lpu (W := fun n g (_ : Unit) => ∃ r : Int32, f_X4_seeSame_2 F P xS0 n 212 (nI v) (nI w) (nI g) D = some (r, D) ∧ (r = 0 ↔ ¬ ∀ g, g < 4 → sN W lk g v = sN W lk g w)) (I := fun g _ => ∀ g', g' < g → sN W lk g' v = sN W lk g' w) 4 ?_ ?_ 4 0 () F (by omega) (by omega) (fun g' h => absurd h (by omega))
  · intro n _ h
    rw [e_X4_seeSame_2, if_pos (by decide)]
    exact ⟨1, rfl, fun c => absurd c (by decide), fun c => absurd h c⟩
  · intro n g _ hg h hk
    rw [e_X4_seeSame_2, k4, if_neg (by rw [nI_leI (by omega) (by omega)]; omega), k64, nI_mul, nI_add, nI_add, xgrd_in (by omega) (by omega), xgrd_in (by omega) (by omega), nI_clamp (by omega), nI_clamp (by omega), hs g hg v hv, hs g hg w hw]
    by_cases q : sN W lk g v = sN W lk g w
    · rw [if_pos (by rw [cmp0]; exact q)]
      simp only [xlet]
      rw [nI_1]
      refine hk () (fun g' hg' => ?_)
      by_cases e : g' = g
      · rw [e]; exact q
      · exact h g' (by omega)
    · rw [if_neg (by rw [cmp0]; exact q)]
      exact ⟨0, rfl, fun _ c => q (c g hg), fun _ => rfl⟩
theorem E_refine {F P : Nat} (hF : 10000 < F) {D : xDt} {W : Wd} {lk : Nat → Nat} (hW : wOK W) (hC : wC D 1 2 3 W) (hg : gk W lk) (hl : ∀ w, w < W.1 → D.1 213 w = nI (lk w)) : oK (f_X4_refine F P xS0 212 1 D) (fun r => ch [213, 215] [214] D r.2 ∧ (∀ w, w < W.1 → r.2.1 213 w = nI (lkS W lk w)) ∧ (∀ g, g < 4 → ∀ w, w < W.1 → r.2.2 214 (g * 64 + w) = sN W lk g w) ∧ (r.1 = 0 ↔ ∀ w, w < W.1 → lkS W lk w = lk w)) := by
  have hn := hW.1
  rw [e_X4_refine]
  refine oK_bind (E_look hF hW hC hg hl) ?_
  rintro D1 ⟨a1, a2, a3⟩
  have hl1 : ∀ w, w < W.1 → D1.1 213 w = nI (lk w) := by rw [a1]; exact hl
  have c0 : ch [213, 215] [214] D D1 := ⟨fun x _ => by rw [a1], fun x hx => a2 x (by simpa using hx)⟩
  refine lpu (W := fun n w (s : Int32 × xDt) => oK (f_X4_refine_9 F P xS0 n 212 1 s.1 (nI w) s.2) _) (I := fun w s => ch [215] [] D1 s.2 ∧ (∀ v, v < w → s.2.1 215 v = nI (lkS W lk v)) ∧ (s.1 = 0 ∨ s.1 = 1) ∧ (s.1 = 0 ↔ ∀ v, v < w → lkS W lk v = lk v)) W.1 ?_ ?_ W.1 0 (0, D1) F (by omega) (by omega) ⟨ch_rfl _ _ _, fun v h => absurd h (by omega), Or.inl rfl, fun _ v h => absurd h (by omega), fun _ => rfl⟩
  · rintro n ⟨m, D2⟩ ⟨i1, i2, i3, i4⟩
    dsimp only at i1 i2 i3 i4 ⊢
    rw [e_X4_refine_9, i1.1 1 (by decide), a1, if_pos (by rw [hC.1]; exact Int32.le_refl _), show xcpin 0 0 64 64 64 = true by decide, xgrd_t]
    simp only [xlet]
    have hx : xb m = true := by rcases i3 with rfl | rfl <;> rfl
    rw [hx, xgrd_t]
    have z0 : (0 : Int32).toNatClampNeg = 0 := rfl
    have z64 : (64 : Int32).toNatClampNeg = 64 := rfl
    rw [z0, z64]
    refine oK_some ⟨⟨fun x hx => ?_, fun x hx => ?_⟩, fun w hw => ?_, fun g hg4 w hw => ?_, i4⟩
    · simp only [List.mem_cons, List.not_mem_nil, or_false, not_or] at hx
      dsimp only
      unfold xcp
      rw [if_neg hx.1, i1.1 x (by simp; omega), a1]
    · dsimp only
      rw [i1.2 x (by simp)]
      exact a2 x (by simpa using hx)
    · dsimp only
      unfold xcp va_cpy
      rw [if_pos rfl, if_pos (by omega), show 0 + (w - 0) = w by omega]
      exact i2 w hw
    · dsimp only
      rw [i1.2 214 (by simp)]; exact a3 g hg4 w hw
  · rintro n w ⟨m, D2⟩ hw ⟨i1, i2, i3, i4⟩ hk
    dsimp only at i1 i2 i3 i4 ⊢
    have hlw := (hg w hw).1
    rw [e_X4_refine_9, i1.1 1 (by decide), a1, if_neg (by rw [hC.1, nI_leI (by omega) (by omega)]; omega), xgrd_in (by omega) (by omega), nI_clamp (by omega)]
    simp only [xlet]
    rw [xgrd_in (by omega) (by omega), xup_na _ _ _ _ _ (show 213 ≠ 215 by omega), i1.1 213 (by decide), hl1 w hw]
    -- what is found is put down
    have fin : ∀ D3 : xDt, ch [215] [] D1 D3 → (∀ v, v < w → D3.1 215 v = nI (lkS W lk v)) → D3.1 215 w = nI (lkS W lk w) → oK (f_X4_refine_81 F P xS0 (f_X4_refine_9 F P xS0 n) 212 1 m (nI w) D3) (fun r => ch [213, 215] [214] D r.2 ∧ (∀ w, w < W.1 → r.2.1 213 w = nI (lkS W lk w)) ∧ (∀ g, g < 4 → ∀ w, w < W.1 → r.2.2 214 (g * 64 + w) = sN W lk g w) ∧ (r.1 = 0 ↔ ∀ w, w < W.1 → lkS W lk w = lk w)) := by
      intro D3 c1 c2 c3
      have hSw := (lkS_p (lk := lk) hw).1
      have all : ∀ v, v < w + 1 → D3.1 215 v = nI (lkS W lk v) := fun v hv => by
        by_cases q : v = w
        · rw [q]; exact c3
        · exact c2 v (by omega)
      rw [e_X4_refine_81]
      simp only [e_X4_refine_100, e_X4_refine_105, xlet]
      rw [nI_1]
      rcases i3 with rfl | rfl
      · rw [if_pos rfl, xgrd_in (by omega) (by omega), xgrd_in (by omega) (by omega), nI_clamp (by omega), c3, c1.1 213 (by decide), hl1 w hw]
        by_cases q : lkS W lk w = lk w
        · rw [if_pos (by rw [q])]
          refine hk (0, D3) ⟨c1, all, Or.inl rfl, fun _ v hv => ?_, fun _ => rfl⟩
          by_cases e : v = w
          · rw [e]; exact q
          · exact i4.mp rfl v (by omega)
        · rw [if_neg (by rw [nI_eq (by omega) (by omega)]; exact q)]
          refine hk (1, D3) ⟨c1, all, Or.inr rfl, fun c => absurd c (show ¬ (1 : Int32) = 0 by decide), fun c => absurd (c w (by omega)) q⟩
      · rw [if_neg (by decide)]
        refine hk (1, D3) ⟨c1, all, Or.inr rfl, fun c => absurd c (show ¬ (1 : Int32) = 0 by decide), fun c => ?_⟩
        have := i4.mpr (fun v hv => c v (by omega))
        exact absurd this (by decide)
    generalize hD3 : ((xup D2.1 215 w (nI w), D2.2) : xDt) = D3
    have e0 : ch [215] [] D1 D3 := by rw [← hD3]; exact ch_i (by simp) i1
    have e1 : ∀ v, v < w → D3.1 215 v = nI (lkS W lk v) := fun v hv => by rw [← hD3]; dsimp only; rw [xup_nk _ _ _ _ _ (by omega)]; exact i2 v hv
    have e2 : D3.1 215 w = nI w := by rw [← hD3]; dsimp only; rw [xup_at]
    have nolow : ∀ j, j < lk w → ¬ sm2 W lk j w := fun j hj c => by
      have := (hg j (by omega)).1
      rw [c.1] at this; omega
    refine lpu (W := fun n' v (_ : Unit) => oK (f_X4_refine_32 F P xS0 (f_X4_refine_9 F P xS0 n) n' 212 1 m (nI w) (nI v) D3) _) (I := fun v _ => lk w ≤ v ∧ ∀ j, j < v → ¬ sm2 W lk j w) w ?_ ?_ (w - lk w) (lk w) () F (by omega) (by omega) ⟨Nat.le_refl _, nolow⟩
    · rintro n' _ ⟨_, hI⟩
      rw [e_X4_refine_32, if_pos (Int32.le_refl _)]
      refine fin D3 e0 e1 ?_
      rw [e2]
      congr 1
      exact (lst_eq hw (tb_iff.mpr (sm2_rfl w)) (fun j hj => tb_f.mpr (hI j hj))).symm
    · rintro n' v _ hv ⟨hI0, hI⟩ hk2
      have hlv := (hg v (by omega)).1
      rw [e_X4_refine_32, if_neg (by rw [nI_leI (by omega) (by omega)]; omega), xgrd_in (by omega) (by omega), xgrd_in (by omega) (by omega), nI_clamp (by omega), nI_clamp (by omega), e0.1 213 (by decide), hl1 v (by omega), hl1 w hw]
      have next : ¬ sm2 W lk v w → oK (f_X4_refine_75 F P xS0 (f_X4_refine_9 F P xS0 n) (f_X4_refine_32 F P xS0 (f_X4_refine_9 F P xS0 n) n') 212 1 m (nI w) (nI v) D3) (fun r => ch [213, 215] [214] D r.2 ∧ (∀ w, w < W.1 → r.2.1 213 w = nI (lkS W lk w)) ∧ (∀ g, g < 4 → ∀ w, w < W.1 → r.2.2 214 (g * 64 + w) = sN W lk g w) ∧ (r.1 = 0 ↔ ∀ w, w < W.1 → lkS W lk w = lk w)) := by
        intro q
        rw [e_X4_refine_75]
        simp only [xlet]
        rw [nI_1]
        refine hk2 () ⟨by omega, fun j hj => ?_⟩
        by_cases e : j = v
        · rw [e]; exact q
        · exact hI j (by omega)
      by_cases q : lk v = lk w
      · rw [if_pos (by rw [q])]
        obtain ⟨r, hr, hr2⟩ := E_see (F := F) (P := P) hF (D := D3) hn (fun g hg4 w hw => by rw [e0.2 214 (by simp)]; exact a3 g hg4 w hw) (show v < W.1 by omega) hw
        rw [hr, Option.bind_some]
        by_cases q2 : r = 0
        · rw [if_pos q2]
          exact next (fun c => hr2.mp q2 c.2)
        · rw [if_neg q2, xgrd_in (by omega) (by omega)]
          simp only [xlet]
          have hs : sm2 W lk v w := ⟨q, Classical.byContradiction (fun c => q2 (hr2.mpr c))⟩
          refine fin _ (ch_i (by simp) e0) (fun j hj => ?_) ?_
          · dsimp only
            rw [xup_nk _ _ _ _ _ (by omega)]; exact e1 j hj
          · dsimp only
            rw [xup_at]
            congr 1
            exact (lst_eq (by omega) (tb_iff.mpr hs) (fun j hj => tb_f.mpr (hI j hj))).symm
      · rw [if_neg (by rw [nI_eq (by omega) (by omega)]; exact q)]
        exact next (fun c => q c.1)
