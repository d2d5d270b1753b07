/-! alike worlds: the reference -/
/-- the least one, found from above -/
theorem dn_x {N : Nat} {p : Nat → Prop} {i f : Nat} (h2 : p f) (h1 : f ≤ i) (h3 : ∀ j, j < f → ¬ p j) (hi : i < N) {q : Nat → Bool} (hq : ∀ j, q j = true ↔ p j) : lst q N = f := lst_eq (by omega) ((hq f).mpr h2) (fun j hj => by
  cases hc : q j
  · rfl
  · exact absurd ((hq j).mp hc) (h3 j hj))
theorem E_mbegin {F P : Nat} (hF : 10000 < F) {D : xDt} {W : Wd} (hW : wOK W) (hM : wM (D.1 241 1) (D.1 242) (D.1 243) W) : oK (f_X12_beginLike F P xS0 241 D) (fun D' => ch [265] [] D D' ∧ ∀ w, w < W.1 → D'.1 265 w = nI (lk0 W w)) := by
  have hn := hW.1
  rw [e_X12_beginLike]
  refine lpu (W := fun n w (D1 : xDt) => oK (f_X12_beginLike_2 F P xS0 n 241 (nI w) D1) _) (I := fun w D1 => ch [265] [] D D1 ∧ ∀ v, v < w → D1.1 265 v = nI (lk0 W v)) W.1 ?_ ?_ W.1 0 _ F (by omega) (by omega) ⟨ch_rfl _ _ _, fun v h => absurd h (by omega)⟩
  · rintro n D1 ⟨i1, i2⟩
    rw [e_X12_beginLike_2, if_pos (by rw [i1.1 241 (by decide), hM.1]; exact Int32.le_refl _)]
    exact oK_some ⟨i1, i2⟩
  · rintro n w D1 hw ⟨i1, i2⟩ hk
    rw [e_X12_beginLike_2, if_neg (by rw [i1.1 241 (by decide), hM.1, nI_leI (by omega) (by omega)]; omega)]
    have h242 : ∀ v, v < W.1 → D1.1 242 v = nI (W.2.1 v) := fun v hv => by rw [i1.1 242 (by decide)]; exact hM.2.1 v hv
    have hst : oK (f_X12_beginLike_14 F P xS0 (f_X12_beginLike_2 F P xS0 n) F 241 (nI w) (nI w) (nI (w + 1 - 0) - 1) D1) (fun D' => ch [265] [] D D' ∧ ∀ w, w < W.1 → D'.1 265 w = nI (lk0 W w)) := by
      refine lpu (W := fun n' d (s : Int32) => oK (f_X12_beginLike_14 F P xS0 (f_X12_beginLike_2 F P xS0 n) n' 241 (nI w) s (nI (w + 1 - d) - 1) D1) _) (I := fun d s => ∃ f, s = nI f ∧ f ≤ w ∧ W.2.1 f = W.2.1 w ∧ ∀ j, w + 1 - d ≤ j → j < f → ¬ W.2.1 j = W.2.1 w) (w + 1) ?_ ?_ (w + 1) 0 (nI w) F (by omega) (by omega) ⟨w, rfl, Nat.le_refl _, rfl, fun j h1 h2 => by omega⟩
      · rintro n' s ⟨f, rfl, f1, f2, f3⟩
        rw [Nat.sub_self, e_X12_beginLike_14, if_pos (by decide), xgrd_in (by omega) (by omega), nI_clamp (by omega)]
        simp only [xlet]
        rw [nI_1]
        refine hk _ ⟨ch_i (by simp) i1, fun v hv => ?_⟩
        dsimp only
        by_cases q : v = w
        · subst q
          rw [xup_at]
          congr 1
          exact (dn_x (p := fun j => W.2.1 j = W.2.1 v) f2 f1 (fun j hj => f3 j (by omega) hj) hw (fun j => decide_eq_true_iff)).symm
        · rw [xup_nk _ _ _ _ _ q]; exact i2 v (by omega)
      · rintro n' d s hd ⟨f, rfl, f1, f2, f3⟩ hk3
        have hv6 : nI (w + 1 - d) - 1 = nI (w - d) := by rw [nI_s1 (by omega)]; congr 1; omega
        have hnext : nI (w - d) + (-1) = nI (w + 1 - (d + 1)) - 1 := by rw [neg1]; congr 2; omega
        have a1 := hW.2.1 (w - d) (by omega)
        have a2 := hW.2.1 w hw
        rw [hv6, e_X12_beginLike_14, if_neg (nI_pos (by omega)), xgrd_in (by omega) (by omega), xgrd_in (by omega) (by omega), nI_clamp (by omega), nI_clamp (by omega), h242 _ (by omega), h242 w hw]
        simp only [e_X12_beginLike_38, xlet]
        rw [hnext]
        by_cases q : W.2.1 (w - d) = W.2.1 w
        · rw [if_pos (by rw [q])]
          exact hk3 _ ⟨w - d, rfl, by omega, q, fun j h1 h2 => by omega⟩
        · rw [if_neg (by rw [nI_eq (by omega) (by omega)]; exact q)]
          refine hk3 _ ⟨f, rfl, f1, f2, fun j h1 h2 => ?_⟩
          by_cases e : j = w - d
          · rw [e]; exact q
          · exact f3 j (by omega) h2
    rw [Nat.sub_zero, nI_s1 (by omega), Nat.add_sub_cancel] at hst
    exact hst
theorem E_sorts {F P : Nat} (hF : 10000 < F) {D : xDt} {W : Wd} {lk : Nat → Nat} (hW : wOK W) (hM : wM (D.1 241 1) (D.1 242) (D.1 243) W) (hg : gk W lk) (hl : ∀ w, w < W.1 → D.1 265 w = nI (lk w)) {g w : Nat} (hg4 : g < 4) (hw : w < W.1) : f_X12_sortsIn F P xS0 241 (nI (g + 1)) (nI w) D = some (sN W lk g w, D) := by
  have hn := hW.1
  rw [e_X12_sortsIn]
  refine lpu (W := fun n i (v : Int64) => f_X12_sortsIn_5 F P xS0 n 241 (nI (g + 1)) (nI w) v (nI i) D = _) (I := fun i v => ∀ j, j < 64 → (bt v j = true ↔ ∃ u, u < i ∧ W.2.2 g u = W.2.2 g w ∧ lk u = j)) W.1 ?_ ?_ W.1 0 _ F (by omega) (by omega) ?_
  · intro n v h
    rw [e_X12_sortsIn_5, hM.1, if_pos (Int32.le_refl _)]
    have : v = sN W lk g w := bt_ext (fun j hj => b_iff (by rw [h j hj, bt_sN j hj]))
    rw [this]
  · intro n i v hi h hk
    have hlk := (hg i hi).1
    have r1 := (hW.2.2 g hg4 i hi).1
    have r2 := (hW.2.2 g hg4 w hw).1
    rw [e_X12_sortsIn_5, hM.1, if_neg (by rw [nI_leI (by omega) (by omega)]; omega), E_mcell hg4 (by omega), Option.bind_some]
    dsimp only
    rw [E_mcell hg4 (by omega), Option.bind_some]
    dsimp only
    rw [hM.2.2 g hg4 i hi, hM.2.2 g hg4 w hw, xgrd_in (by omega) (by omega), nI_clamp (by omega), hl i hi]
    simp only [e_X12_sortsIn_44, xlet]
    rw [nI_1]
    by_cases q : W.2.2 g i = W.2.2 g w
    · rw [if_pos (by rw [q])]
      refine hk _ (fun j hj => ?_)
      rw [bt_or, Bool.or_eq_true, h j hj, sh1b (by omega), decide_eq_true_iff]
      constructor
      · rintro (⟨u, h1, h2⟩ | rfl)
        · exact ⟨u, by omega, h2⟩
        · exact ⟨i, by omega, q, rfl⟩
      · rintro ⟨u, h1, h2, h3⟩
        by_cases e : u = i
        · subst e; exact Or.inr h3.symm
        · exact Or.inl ⟨u, by omega, h2, h3⟩
    · rw [if_neg (by rw [nI_eq (by omega) (by omega)]; exact q)]
      refine hk _ (fun j hj => ?_)
      rw [bt_or, bt_0, Bool.or_false, h j hj]
      constructor
      · rintro ⟨u, h1, h2⟩; exact ⟨u, by omega, h2⟩
      · rintro ⟨u, h1, h2, h3⟩
        by_cases e : u = i
        · subst e; exact absurd h2 q
        · exact ⟨u, by omega, h2, h3⟩
  · intro j _
    rw [bt_0]
    constructor
    · intro c; cases c
    · rintro ⟨u, h, _⟩; omega
theorem E_are {F P : Nat} (hF : 10000 < F) {D : xDt} {W : Wd} {lk : Nat → Nat} (hW : wOK W) (hM : wM (D.1 241 1) (D.1 242) (D.1 243) W) (hg : gk W lk) (hl : ∀ w, w < W.1 → D.1 265 w = nI (lk w)) {v w : Nat} (hv : v < W.1) (hw : w < W.1) : ∃ r : Int32, f_X12_areAsBefore F P xS0 241 (nI v) (nI w) D = some (r, D) ∧ (r = 0 ↔ ¬ sm2 W lk v w) := by
  have hn := hW.1
  have key : ∀ s : Int32, (s = 1 ∧ lk v = lk w) ∨ (s = 0 ∧ ¬ lk v = lk w) → ∃ r : Int32, f_X12_areAsBefore_24 F P xS0 F 241 (nI v) (nI w) s 1 D = some (r, D) ∧ (r = 0 ↔ ¬ sm2 W lk v w) := by
    intro s hs
    refine lpu (W := fun n g (s : Int32) => ∃ r : Int32, f_X12_areAsBefore_24 F P xS0 n 241 (nI v) (nI w) s (nI (g + 1)) D = some (r, D) ∧ (r = 0 ↔ ¬ sm2 W lk v w)) (I := fun g s => (s = 1 ∧ lk v = lk w ∧ ∀ g', g' < g → sN W lk g' v = sN W lk g' w) ∨ (s = 0 ∧ ¬ sm2 W lk v w)) 4 ?_ ?_ 4 0 s F (by omega) (by omega) ?_
    · rintro n s (⟨rfl, h1, h2⟩ | ⟨rfl, h1⟩)
      · rw [e_X12_areAsBefore_24, if_pos (by decide)]
        exact ⟨1, rfl, fun c => absurd c (by decide), fun c => absurd ⟨h1, h2⟩ c⟩
      · rw [e_X12_areAsBefore_24, if_pos (by decide)]
        exact ⟨0, rfl, fun _ => h1, fun _ => rfl⟩
    · rintro n g s hg4 (⟨rfl, h1, h2⟩ | ⟨rfl, h1⟩) hk
      · rw [e_X12_areAsBefore_24, k4, if_neg (by rw [nI_ltI (by omega) (by omega)]; omega), if_neg (by decide), E_sorts hF hW hM hg hl hg4 hv, Option.bind_some]
        dsimp only
        rw [E_sorts hF hW hM hg hl hg4 hw, Option.bind_some]
        simp only [e_X12_areAsBefore_57, xlet]
        rw [nI_1]
        by_cases q : sN W lk g v = sN W lk g w
        · rw [if_pos (by rw [cmp0]; exact q)]
          refine hk 1 (Or.inl ⟨rfl, h1, fun g' hg' => ?_⟩)
          by_cases e : g' = g
          · rw [e]; exact q
          · exact h2 g' (by omega)
        · rw [if_neg (by rw [cmp0]; exact q)]
          exact hk 0 (Or.inr ⟨rfl, fun c => q (c.2 g hg4)⟩)
      · rw [e_X12_areAsBefore_24, k4, if_neg (by rw [nI_ltI (by omega) (by omega)]; omega), if_pos rfl]
        exact ⟨0, rfl, fun _ => h1, fun _ => rfl⟩
    · rcases hs with ⟨rfl, h1⟩ | ⟨rfl, h1⟩
      · exact Or.inl ⟨rfl, h1, fun g' h => absurd h (by omega)⟩
      · exact Or.inr ⟨rfl, fun c => h1 c.1⟩
  have b1 := (hg v hv).1
  have b2 := (hg w hw).1
  rw [e_X12_areAsBefore, xgrd_in (by omega) (by omega), xgrd_in (by omega) (by omega), nI_clamp (by omega), nI_clamp (by omega), hl v hv, hl w hw]
  simp only [e_X12_areAsBefore_20]
  by_cases q : lk v = lk w
  · rw [if_pos (by rw [q])]
    exact key 1 (Or.inl ⟨rfl, q⟩)
  · rw [if_neg (by rw [nI_eq (by omega) (by omega)]; exact q)]
    exact key 0 (Or.inr ⟨rfl, q⟩)
theorem E_mrefine {F P : Nat} (hF : 10000 < F) {D : xDt} {W : Wd} {lk : Nat → Nat} (hW : wOK W) (hM : wM (D.1 241 1) (D.1 242) (D.1 243) W) (hg : gk W lk) (hl : ∀ w, w < W.1 → D.1 265 w = nI (lk w)) : oK (f_X12_refine F P xS0 241 D) (fun r => ch [265, 266] [] D r.2 ∧ (∀ w, w < W.1 → r.2.1 265 w = nI (lkS W lk w)) ∧ (r.1 = 0 ∨ r.1 = 1) ∧ (r.1 = 0 ↔ ∀ w, w < W.1 → lkS W lk w = lk w)) := by
  have hn := hW.1
  rw [e_X12_refine]
  refine lpu (W := fun n w (D1 : xDt) => oK (f_X12_refine_2 F P xS0 n 241 (nI w) D1) _) (I := fun w D1 => ch [266] [] D D1 ∧ ∀ v, v < w → D1.1 266 v = nI (lkS W lk v)) W.1 ?_ ?_ W.1 0 _ F (by omega) (by omega) ⟨ch_rfl _ _ _, fun v h => absurd h (by omega)⟩
  · rintro n D1 ⟨i1, i2⟩
    rw [e_X12_refine_2, if_pos (by rw [i1.1 241 (by decide), hM.1]; exact Int32.le_refl _)]
    refine lpu (W := fun n w (s : Int32 × xDt) => oK (f_X12_refine_56 F P xS0 n 241 s.1 (nI w) s.2) _) (I := fun w s => ch [265] [] D1 s.2 ∧ (∀ v, v < w → s.2.1 265 v = nI (lkS W lk v)) ∧ (∀ v, w ≤ v → s.2.1 265 v = D1.1 265 v) ∧ (s.1 = 0 ∨ s.1 = 1) ∧ (s.1 = 0 ↔ ∀ v, v < w → lkS W lk v = lk v)) W.1 ?_ ?_ W.1 0 (0, D1) F (by omega) (by omega) ⟨ch_rfl _ _ _, fun v h => absurd h (by omega), fun _ _ => rfl, Or.inl rfl, fun _ v h => absurd h (by omega), fun _ => rfl⟩
    · rintro n ⟨m, D2⟩ ⟨j1, j2, j3, j4, j5⟩
      dsimp only at j1 j2 j3 j4 j5 ⊢
      rw [e_X12_refine_56, if_pos (by rw [j1.1 241 (by decide), i1.1 241 (by decide), hM.1]; exact Int32.le_refl _)]
      have hx : xb m = true := by rcases j4 with rfl | rfl <;> rfl
      rw [hx, xgrd_t]
      exact oK_some ⟨ch_trans (ch_mono i1 (by intro x hx; simp at hx ⊢; omega) (fun _ h => h)) (ch_mono j1 (by intro x hx; simp at hx ⊢; omega) (fun _ h => h)), j2, j4, j5⟩
    · rintro n w ⟨m, D2⟩ hw ⟨j1, j2, j3, j4, j5⟩ hk
      dsimp only at j1 j2 j3 j4 j5 ⊢
      have h265 : D2.1 265 w = nI (lk w) := by rw [j3 w (Nat.le_refl _), i1.1 265 (by decide)]; exact hl w hw
      have h266 : D2.1 266 w = nI (lkS W lk w) := by rw [j1.1 266 (by decide)]; exact i2 w hw
      have b1 := (hg w hw).1
      have b2 := (lkS_p (lk := lk) hw).1
      have go : ∀ s : Int32, (s = 0 ∨ s = 1) → (s = 0 ↔ ∀ v, v < w + 1 → lkS W lk v = lk v) → oK (f_X12_refine_88 F P xS0 (f_X12_refine_56 F P xS0 n) 241 (nI w) s D2) (fun r => ch [265, 266] [] D r.2 ∧ (∀ w, w < W.1 → r.2.1 265 w = nI (lkS W lk w)) ∧ (r.1 = 0 ∨ r.1 = 1) ∧ (r.1 = 0 ↔ ∀ w, w < W.1 → lkS W lk w = lk w)) := by
        intro s hs1 hs2
        rw [e_X12_refine_88, xgrd_in (by omega) (by omega), xgrd_in (by omega) (by omega), nI_clamp (by omega), h266]
        simp only [xlet]
        rw [nI_1]
        refine hk (s, (xup D2.1 265 w (nI (lkS W lk w)), D2.2)) ⟨ch_i (by simp) j1, fun v hv => ?_, fun v hv => ?_, hs1, hs2⟩
        · dsimp only
          by_cases q : v = w
          · subst q; rw [xup_at]
          · rw [xup_nk _ _ _ _ _ q]; exact j2 v (by omega)
        · dsimp only
          rw [xup_nk _ _ _ _ _ (by omega)]; exact j3 v (by omega)
      rw [e_X12_refine_56, if_neg (by rw [j1.1 241 (by decide), i1.1 241 (by decide), hM.1, nI_leI (by omega) (by omega)]; omega)]
      simp only [e_X12_refine_83]
      rcases j4 with rfl | rfl
      · rw [if_pos rfl, xgrd_in (by omega) (by omega), xgrd_in (by omega) (by omega), nI_clamp (by omega), h265, h266]
        by_cases q : lk w = lkS W lk w
        · rw [if_pos (by rw [q])]
          refine go 0 (Or.inl rfl) ⟨fun _ v hv => ?_, fun _ => rfl⟩
          by_cases e : v = w
          · rw [e]; exact q.symm
          · exact j5.mp rfl v (by omega)
        · rw [if_neg (by rw [nI_eq (by omega) (by omega)]; exact q)]
          exact go 1 (Or.inr rfl) ⟨fun c => absurd c (by decide), fun c => absurd (c w (by omega)).symm q⟩
      · rw [if_neg (by decide)]
        refine go 1 (Or.inr rfl) ⟨fun c => absurd c (by decide), fun c => ?_⟩
        have := j5.mpr (fun v hv => c v (by omega))
        exact absurd this (by decide)
  · rintro n w D1 hw ⟨i1, i2⟩ hk
    rw [e_X12_refine_2, if_neg (by rw [i1.1 241 (by decide), hM.1, nI_leI (by omega) (by omega)]; omega)]
    have hM1 : wM (D1.1 241 1) (D1.1 242) (D1.1 243) W := by rw [i1.1 241 (by decide), i1.1 242 (by decide), i1.1 243 (by decide)]; exact hM
    have hl1 : ∀ w, w < W.1 → D1.1 265 w = nI (lk w) := fun w hw => by rw [i1.1 265 (by decide)]; exact hl w hw
    have hst : oK (f_X12_refine_14 F P xS0 (f_X12_refine_2 F P xS0 n) F 241 (nI w) (nI w) (nI (w + 1 - 0) - 1) D1) (fun r => ch [265, 266] [] D r.2 ∧ (∀ w, w < W.1 → r.2.1 265 w = nI (lkS W lk w)) ∧ (r.1 = 0 ∨ r.1 = 1) ∧ (r.1 = 0 ↔ ∀ w, w < W.1 → lkS W lk w = lk w)) := by
      refine lpu (W := fun n' d (s : Int32) => oK (f_X12_refine_14 F P xS0 (f_X12_refine_2 F P xS0 n) n' 241 (nI w) s (nI (w + 1 - d) - 1) D1) _) (I := fun d s => ∃ f, s = nI f ∧ f ≤ w ∧ sm2 W lk f w ∧ ∀ j, w + 1 - d ≤ j → j < f → ¬ sm2 W lk j w) (w + 1) ?_ ?_ (w + 1) 0 (nI w) F (by omega) (by omega) ⟨w, rfl, Nat.le_refl _, sm2_rfl w, fun j h1 h2 => by omega⟩
      · rintro n' s ⟨f, rfl, f1, f2, f3⟩
        rw [Nat.sub_self, e_X12_refine_14, if_pos (by decide), xgrd_in (by omega) (by omega), nI_clamp (by omega)]
        simp only [xlet]
        rw [nI_1]
        refine hk _ ⟨ch_i (by simp) i1, fun v hv => ?_⟩
        dsimp only
        by_cases q : v = w
        · subst q
          rw [xup_at]
          congr 1
          exact (dn_x (p := fun j => sm2 W lk j v) f2 f1 (fun j hj => f3 j (by omega) hj) hw (fun j => tb_iff)).symm
        · rw [xup_nk _ _ _ _ _ q]; exact i2 v (by omega)
      · rintro n' d s hd ⟨f, rfl, f1, f2, f3⟩ hk3
        have hv6 : nI (w + 1 - d) - 1 = nI (w - d) := by rw [nI_s1 (by omega)]; congr 1; omega
        have hnext : nI (w - d) + (-1) = nI (w + 1 - (d + 1)) - 1 := by rw [neg1]; congr 2; omega
        obtain ⟨r, hr, hr2⟩ := E_are (F := F) (P := P) hF hW hM1 hg hl1 (show w - d < W.1 by omega) hw
        rw [hv6, e_X12_refine_14, if_neg (nI_pos (by omega)), hr, Option.bind_some]
        simp only [e_X12_refine_32, xlet]
        rw [hnext]
        by_cases q : r = 0
        · rw [if_pos q]
          refine hk3 _ ⟨f, rfl, f1, f2, fun j h1 h2 => ?_⟩
          by_cases e : j = w - d
          · rw [e]; exact hr2.mp q
          · exact f3 j (by omega) h2
        · rw [if_neg q]
          exact hk3 _ ⟨w - d, rfl, by omega, Classical.byContradiction (fun c => q (hr2.mpr c)), fun j h1 h2 => by omega⟩
    rw [Nat.sub_zero, nI_s1 (by omega), Nat.add_sub_cancel] at hst
    exact hst
