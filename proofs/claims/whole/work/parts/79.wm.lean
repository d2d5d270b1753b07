/-! the reference's worlds -/
theorem mkB_full {p : Nat → Bool} {n : Nat} (hn : n ≤ 64) (hp : ∀ j, n ≤ j → p j = false) : mkB p n = mkS p := by
  apply bt_ext
  intro j hj
  rw [bt_mkB p n hn, bt_mkS]
  by_cases h : j < n
  · simp [h, hj]
  · rw [hp j (by omega)]; simp
theorem E_in (F P : Nat) (S : xSt) (x lo hi : Int32) (D : xDt) : f_X12_in F P S x lo hi D = some (if x < lo then 0 else if hi < x then 0 else 1, D) := by
  unfold f_X12_in f_X12_in_14
  split
  · rfl
  · split <;> rfl
theorem xb_01 (c d : Prop) [Decidable c] [Decidable d] : xb (if c then 0 else if d then 0 else 1) = true := by
  split
  · rfl
  · split <;> rfl
theorem E_in1 {F P : Nat} {S : xSt} {D : xDt} {x lo hi : Nat} (h1 : lo ≤ x) (h2 : x ≤ hi) (h3 : hi < 2 ^ 31) : f_X12_in F P S (nI x) (nI lo) (nI hi) D = some (1, D) := by
  rw [E_in, if_neg (fun c => by rw [nI_ltI (by omega) (by omega)] at c; omega), if_neg (fun c => by rw [nI_ltI (by omega) (by omega)] at c; omega)]
theorem E_in0 {F P : Nat} {S : xSt} {D : xDt} {x : Int32} {lo hi : Nat} (h : x < nI lo ∨ nI hi < x) : f_X12_in F P S x (nI lo) (nI hi) D = some (0, D) := by
  rw [E_in]
  by_cases h1 : x < nI lo
  · rw [if_pos h1]
  · rw [if_neg h1]
    rcases h with h | h
    · exact absurd h h1
    · rw [if_pos h]
/-- an int: one of 0 .. n - 1, or not -/
theorem i_in (n : Nat) (x : Int32) : (∃ j, j < n ∧ j < 2 ^ 31 ∧ x = nI j) ∨ (x < 0 ∨ ∃ j, n ≤ j ∧ j < 2 ^ 31 ∧ x = nI j) := by
  rcases i_cases x with h | ⟨j, hj, rfl⟩
  · exact Or.inr (Or.inl h)
  · by_cases h : j < n
    · exact Or.inl ⟨j, h, hj, rfl⟩
    · exact Or.inr (Or.inr ⟨j, by omega, hj, rfl⟩)
theorem E_isW1 {F P : Nat} {D : xDt} {n j : Nat} (hn : D.1 241 1 = nI n) (hn2 : n ≤ 64) (hj : j < n) : f_X12_isWorld F P xS0 241 (nI j) D = some (1, D) := by
  rw [e_X12_isWorld, hn, nI_s1 (by omega), show f_X12_in F P xS0 (nI j) 0 (nI (n - 1)) D = some (1, D) from E_in1 (lo := 0) (by omega) (by omega) (by omega)]
  rfl
theorem E_isW0 {F P : Nat} {D : xDt} {n : Nat} {x : Int32} (hn : D.1 241 1 = nI n) (hn2 : n ≤ 64) (hx : x < 0 ∨ ∃ j, n ≤ j ∧ j < 2 ^ 31 ∧ x = nI j) : f_X12_isWorld F P xS0 241 x D = some (0, D) := by
  rw [e_X12_isWorld, hn, E_in]
  dsimp only [Option.bind]
  have : (if x < 0 then (0 : Int32) else if nI n - 1 < x then 0 else 1) = 0 := by
    rcases hx with h | ⟨j, h1, h2, rfl⟩
    · rw [if_pos h]
    · rw [if_neg (nI_pos h2), if_pos]
      by_cases h0 : n = 0
      · subst h0
        exact neg_lt (by decide) h2
      · rw [nI_s1 (by omega), nI_ltI (by omega) h2]; omega
  rw [this]; rfl
theorem E_isAgent (F P : Nat) (S : xSt) (x : Int32) (D : xDt) : f_X12_isAgent F P S x D = some (if x < 1 then 0 else if 4 < x then 0 else 1, D) := by
  unfold f_X12_isAgent
  rw [E_in]
  dsimp only [Option.bind]
  rw [xb_01]; rfl
theorem E_mcell {F P : Nat} {D : xDt} {g w : Nat} (hg : g < 4) (hw : w < 64) : f_X12_cell F P xS0 241 (nI (g + 1)) (nI w) D = some (D.1 243 (64 * g + w), D) := by
  rw [e_X12_cell, nI_s1 (by omega), Nat.add_sub_cancel, k64, nI_mul, nI_add, xgrd_in (by omega) (by omega), nI_clamp (by omega)]
theorem E_cellOf {F P : Nat} (hF : 1000 < F) {D : xDt} {W : Wd} (hW : wOK W) (hM : wM (D.1 241 1) (D.1 242) (D.1 243) W) {g w : Nat} (hg : g < 4) (hw : w < W.1) : f_X12_cellOf F P xS0 241 (nI (g + 1)) (nI w) D = some (cs W g w, D) := by
  have hn := hW.1
  rw [e_X12_cellOf]
  refine lpu (W := fun m i (v : Int64) => f_X12_cellOf_5 F P xS0 m 241 (nI (g + 1)) (nI w) v (nI i) D = some (cs W g w, D)) (I := fun i v => v = mkB (fun u => decide (u < W.1) && decide (W.2.2 g u = W.2.2 g w)) i) W.1 ?_ ?_ W.1 0 _ F (by omega) (by omega) rfl
  · rintro m v rfl
    rw [e_X12_cellOf_5, hM.1, if_pos (Int32.le_refl _), mkB_full hn (fun j hj => by simp; omega)]
    rfl
  · rintro m i v hi rfl hk
    rw [e_X12_cellOf_5, hM.1, if_neg (by rw [nI_leI (by omega) (by omega)]; omega), E_mcell hg (by omega)]
    dsimp only [Option.bind]
    rw [E_mcell hg (by omega)]
    dsimp only [Option.bind]
    rw [e_X12_cellOf_39, e_X12_cellOf_39, hM.2.2 g hg i hi, hM.2.2 g hg w hw]
    dsimp only [xlet]
    have b1 := (hW.2.2 g hg i hi).1
    have b2 := (hW.2.2 g hg w hw).1
    rw [nI_1]
    by_cases hc : W.2.2 g i = W.2.2 g w
    · rw [if_pos (by rw [hc])]
      exact hk _ (by rw [mkB]; simp [hi, hc])
    · rw [if_neg (by rw [nI_eq (by omega) (by omega)]; exact hc)]
      exact hk _ (by rw [mkB]; simp [hc])
theorem E_least {F P : Nat} (hF : 1000 < F) (S : xSt) (x : Int64) (D : xDt) : f_X12_least F P S x D = some (nI (lst (bt x) 64), D) := by
  unfold f_X12_least
  refine lpu (W := fun m i (_ : Unit) => f_X12_least_2 F P S m x (nI i) D = some (nI (lst (bt x) 64), D)) (I := fun i _ => ∀ j, j < i → bt x j = false) 64 ?_ ?_ 64 0 () F (by omega) (by omega) (fun j hj => absurd hj (by omega))
  · intro m _ h
    show f_X12_least_2s F P S (f_X12_least_2 F P S m) x (nI 64) D = _
    unfold f_X12_least_2s
    rw [if_pos (by decide), lst_none h]
  · intro m i _ hi h hk
    show f_X12_least_2s F P S (f_X12_least_2 F P S m) x (nI i) D = _
    unfold f_X12_least_2s
    rw [k64, if_neg (by rw [nI_leI (by omega) (by omega)]; omega)]
    dsimp only [xlet]
    by_cases hb : bt x i = true
    · rw [if_neg (by rw [test1 _ hi, hb]; simp), lst_eq hi hb h]
    · have hb2 : bt x i = false := by simpa using hb
      rw [if_pos (by rw [test1 _ hi, hb2]), nI_1]
      refine hk () (fun j hj => ?_)
      by_cases e : j = i
      · rw [e]; exact hb2
      · exact h j (by omega)
theorem E_size {F P : Nat} (hF : 1000 < F) (S : xSt) (x : Int64) (D : xDt) : f_X12_size F P S x D = some (nI (cn (bt x) 64), D) := by
  unfold f_X12_size
  refine lpu (W := fun m i (v : Int32) => f_X12_size_4 F P S m x v (nI i) D = some (nI (cn (bt x) 64), D)) (I := fun i v => v = nI (cn (bt x) i)) 64 ?_ ?_ 64 0 _ F (by omega) (by omega) rfl
  · rintro m v rfl
    show f_X12_size_4s F P S (f_X12_size_4 F P S m) x _ (nI 64) D = _
    unfold f_X12_size_4s
    rw [if_pos (by decide)]
  · rintro m i v hi rfl hk
    show f_X12_size_4s F P S (f_X12_size_4 F P S m) x _ (nI i) D = _
    unfold f_X12_size_4s
    rw [k64, if_neg (by rw [nI_leI (by omega) (by omega)]; omega)]
    dsimp only [xlet]
    rw [test1i _ hi, nI_1]
    refine hk _ ?_
    rw [cn]
    cases bt x i
    · simp
    · simp [nI_1]
theorem E_gather {F P : Nat} (hF : 1000 < F) {D : xDt} {n : Nat} (hn : D.1 241 1 = nI n) (hn2 : n ≤ 64) {g : Nat} (hg : g < 4) (x : Int64) : f_X12_gather F P xS0 241 (nI (g + 1)) x D = some (upP D.1 243 (64 * g) n (bt x) (fun _ => nI (lst (bt x) 64)), D.2) := by
  rw [e_X12_gather, E_least hF]
  dsimp only [Option.bind]
  refine lpu (W := fun m i (D' : xDt) => f_X12_gather_9 F P xS0 m 241 (nI (g + 1)) x (nI (lst (bt x) 64)) (nI i) D' = some (upP D.1 243 (64 * g) n (bt x) (fun _ => nI (lst (bt x) 64)), D.2)) (I := fun i D' => D' = (upP D.1 243 (64 * g) i (bt x) (fun _ => nI (lst (bt x) 64)), D.2)) n ?_ ?_ n 0 _ F (by omega) (by omega) ?_
  · rintro m D' rfl
    rw [e_X12_gather_9, if_pos (by dsimp only; rw [upP_na (by omega), hn]; exact Int32.le_refl _)]
  · rintro m i D' hi rfl hk
    rw [e_X12_gather_9, if_neg (by dsimp only; rw [upP_na (by omega), hn, nI_leI (by omega) (by omega)]; omega)]
    simp only [e_X12_gather_45, xlet]
    rw [nI_1]
    by_cases hb : bt x i = true
    · rw [if_pos (by rw [test1' _ (by omega), hb]), nI_s1 (by omega), Nat.add_sub_cancel, k64, nI_mul, nI_add, xgrd_in (by omega) (by omega), nI_clamp (by omega)]
      exact hk _ (by rw [upP_t hb rfl])
    · have hb2 : bt x i = false := by simpa using hb
      rw [if_neg (by rw [test1' _ (by omega), hb2]; simp)]
      exact hk _ (by rw [upP_f hb2])
  · rw [upP_0]
theorem E_mworld {F P : Nat} (hF : 1000 < F) {D : xDt} {n b : Nat} (hn : D.1 241 1 = nI n) (hn2 : n < 64) (hb : b < 256) :
    oK (f_X12_world F P xS0 241 (nI b) D) (fun r => r.1 = nI n ∧ ch [241, 242, 243] [] D r.2 ∧ (∀ j, r.2.1 241 j = if j = 7 then 0 else if j = 1 then nI (n + 1) else D.1 241 j) ∧ (∀ j, r.2.1 242 j = if j = n then nI b else D.1 242 j) ∧ (∀ g, g < 4 → ∀ w, w < 64 → r.2.1 243 (64 * g + w) = if w = n then nI n else D.1 243 (64 * g + w))) := by
  rw [e_X12_world, show f_X12_in F P xS0 (nI b) 0 255 D = some (1, D) from E_in1 (lo := 0) (hi := 255) (by omega) (by omega) (by omega)]
  dsimp only [Option.bind]
  rw [if_neg (by decide), if_neg (by rw [hn, k64, nI_eq (by omega) (by omega)]; omega)]
  dsimp only [xlet]
  rw [xup_nk _ _ _ _ _ (show 1 ≠ 7 by omega), hn, xgrd_in (by omega) (by omega), nI_clamp (by omega)]
  refine lpu (W := fun m i (D' : xDt) => oK (f_X12_world_39 F P xS0 m 241 (nI i) D') _) (I := fun i D' => ch [241, 242, 243] [] D D' ∧ (∀ j, D'.1 241 j = if j = 7 then 0 else D.1 241 j) ∧ (∀ j, D'.1 242 j = if j = n then nI b else D.1 242 j) ∧ (∀ g, g < 4 → ∀ w, w < 64 → D'.1 243 (64 * g + w) = if w = n ∧ g < i then nI n else D.1 243 (64 * g + w))) 4 ?_ ?_ 4 0 _ F (by omega) (by omega) ?_
  · rintro m D1 ⟨h1, h2, h3, h4⟩
    rw [e_X12_world_39, if_pos (by decide)]
    dsimp only [xlet]
    have h5 : D1.1 241 1 = nI n := by rw [h2 1]; simp [hn]
    refine oK_some ⟨?_, ch_i (by simp) h1, ?_, ?_, ?_⟩
    · dsimp only
      rw [xup_at, h5, nI_1, nI_s1 (by omega), Nat.add_sub_cancel]
    · intro j
      dsimp only
      by_cases hj : j = 1
      · subst hj; rw [xup_at, h5, nI_1]; simp
      · rw [xup_nk _ _ _ _ _ hj, h2 j]; simp [hj]
    · intro j
      dsimp only
      rw [xup_na _ _ _ _ _ (by omega), h3]
    · intro g hg w hw
      dsimp only
      rw [xup_na _ _ _ _ _ (by omega), h4 g hg w hw]
      by_cases hj : w = n
      · simp [hj, hg]
      · simp [hj]
  · rintro m i D1 hi ⟨h1, h2, h3, h4⟩ hk
    have h5 : D1.1 241 1 = nI n := by rw [h2 1]; simp [hn]
    rw [e_X12_world_39, k4, if_neg (by rw [nI_leI (by omega) (by omega)]; omega), h5, k64, nI_mul, nI_add, xgrd_in (by omega) (by omega), nI_clamp (by omega)]
    dsimp only [xlet]
    rw [nI_1]
    refine hk _ ⟨ch_i (by simp) h1, ?_, ?_, ?_⟩
    · intro j
      dsimp only
      rw [xup_na _ _ _ _ _ (by omega), h2 j]
    · intro j
      dsimp only
      rw [xup_na _ _ _ _ _ (by omega), h3 j]
    · intro g hg w hw
      dsimp only
      by_cases hgw : 64 * g + w = 64 * i + n
      · have e1 : g = i := by omega
        have e2 : w = n := by omega
        subst e1; subst e2
        rw [xup_at]; simp
      · rw [xup_nk _ _ _ _ _ hgw, h4 g hg w hw]
        by_cases hj : w = n
        · have : g < i + 1 ↔ g < i := by omega
          simp [hj, this]
        · simp [hj]
  · refine ⟨ch_i (by simp) (ch_i (by simp) (ch_rfl _ _ _)), ?_, ?_, ?_⟩
    · intro j
      show xup (xup D.1 241 7 0) 242 n (nI b) 241 j = _
      rw [xup_na _ _ _ _ _ (by omega)]
      by_cases hj : j = 7
      · subst hj; rw [xup_at]; simp
      · rw [xup_nk _ _ _ _ _ hj]; simp [hj]
    · intro j
      show xup (xup D.1 241 7 0) 242 n (nI b) 242 j = _
      by_cases hj : j = n
      · subst hj; rw [xup_at]; simp
      · rw [xup_nk _ _ _ _ _ hj, xup_na _ _ _ _ _ (by omega)]; simp [hj]
    · intro g hg w hw
      show xup (xup D.1 241 7 0) 242 n (nI b) 243 _ = _
      rw [xup_na _ _ _ _ _ (by omega), xup_na _ _ _ _ _ (by omega)]
      simp
