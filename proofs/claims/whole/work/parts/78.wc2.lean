/-! what is changed: cells of ints, cells of longs -/
def ch (I L : List Nat) (D D' : xDt) : Prop := (∀ x, x ∉ I → D'.1 x = D.1 x) ∧ (∀ x, x ∉ L → D'.2 x = D.2 x)
theorem ch_rfl (I L : List Nat) (D : xDt) : ch I L D D := ⟨fun _ _ => rfl, fun _ _ => rfl⟩
theorem ch_mono {I L I' L' : List Nat} {D D' : xDt} (h : ch I L D D') (h1 : ∀ x, x ∈ I → x ∈ I') (h2 : ∀ x, x ∈ L → x ∈ L') : ch I' L' D D' := ⟨fun x hx => h.1 x (fun c => hx (h1 x c)), fun x hx => h.2 x (fun c => hx (h2 x c))⟩
theorem ch_trans {I L : List Nat} {D D' D'' : xDt} (h : ch I L D D') (h' : ch I L D' D'') : ch I L D D'' := ⟨fun x hx => (h'.1 x hx).trans (h.1 x hx), fun x hx => (h'.2 x hx).trans (h.2 x hx)⟩
theorem ch_i {I L : List Nat} {D D' : xDt} {a k : Nat} {v : Int32} (ha : a ∈ I) (h : ch I L D D') : ch I L D (xup D'.1 a k v, D'.2) := ⟨fun x hx => by
  show xup D'.1 a k v x = _
  rw [xup_ne _ _ _ _ (fun e => hx (by rw [e]; exact ha))]; exact h.1 x hx, h.2⟩
theorem ch_l {I L : List Nat} {D D' : xDt} {a k : Nat} {v : Int64} (ha : a ∈ L) (h : ch I L D D') : ch I L D (D'.1, xup D'.2 a k v) := ⟨h.1, fun x hx => by
  show xup D'.2 a k v x = _
  rw [xup_ne _ _ _ _ (fun e => hx (by rw [e]; exact ha))]; exact h.2 x hx⟩
theorem ch_ip {I L : List Nat} {D D' : xDt} {a lo n : Nat} {p : Nat → Bool} {g : Nat → Int32} (ha : a ∈ I) (h : ch I L D D') : ch I L D (upP D'.1 a lo n p g, D'.2) := ⟨fun x hx => by
  funext j
  show upP D'.1 a lo n p g x j = _
  rw [upP_na (fun e => hx (by rw [e]; exact ha))]; rw [h.1 x hx], h.2⟩
theorem ch_lp {I L : List Nat} {D D' : xDt} {a lo n : Nat} {p : Nat → Bool} {g : Nat → Int64} (ha : a ∈ L) (h : ch I L D D') : ch I L D (D'.1, upP D'.2 a lo n p g) := ⟨h.1, fun x hx => by
  funext j
  show upP D'.2 a lo n p g x j = _
  rw [upP_na (fun e => hx (by rw [e]; exact ha))]; rw [h.2 x hx]⟩
/-! the class's worlds -/
def sa (x : Int64) (w : Nat) (b : Int32) : Int64 := if b = 0 then x &&& (jlshl 1 (nI w) ^^^ (-1)) else x ||| jlshl 1 (nI w)
theorem bt_sa (x : Int64) {w : Nat} (hw : w < 64) (b : Int32) (j : Nat) : bt (sa x w b) j = if j = w then !decide (b = 0) else bt x j := by
  unfold sa
  by_cases hb : b = 0
  · rw [if_pos hb, bt_andn, bt_bit hw]
    by_cases h : j = w
    · simp [h, hb]
    · simp [h]
  · rw [if_neg hb, bt_or, bt_bit hw]
    by_cases h : j = w
    · simp [h, hb]
    · simp [h]
theorem E_setAtom {F P : Nat} {D : xDt} {a ta ce : Nat} (ho : oW a ta ce) {w k : Nat} (hk : k < 8) (b : Int32) : f_X10_setAtom F P xS0 a (nI w) (nI k) b D = some (D.1, xup D.2 ta k (sa (D.2 ta k) w b)) := by
  unfold f_X10_setAtom sa
  simp only [xlet]
  rw [ho.1, ho.2.2.1, xin_nI hk (by omega), nI_clamp (by omega)]
  simp only [xgrd_t]
  split <;> rfl
theorem E_setCells {F P : Nat} (hF : 1000 < F) {D : xDt} {a ta ce n : Nat} (ho : oW a ta ce) (hn : D.1 a 0 = nI n) (hn2 : n ≤ 64) {g : Nat} (hg : g < 4) (x y : Int64) : f_X10_setCells F P xS0 a (nI g) x y D = some (D.1, upP D.2 ce (g * 64) n (bt x) (fun _ => y)) := by
  unfold f_X10_setCells
  refine lpu (W := fun m i (D' : xDt) => f_X10_setCells_3 F P xS0 m a (nI g) x y (nI i) D' = some (D.1, upP D.2 ce (g * 64) n (bt x) (fun _ => y))) (I := fun i D' => D' = (D.1, upP D.2 ce (g * 64) i (bt x) (fun _ => y))) n ?_ ?_ n 0 _ F (by omega) (by omega) ?_
  · rintro m D' rfl
    show f_X10_setCells_3s F P xS0 (f_X10_setCells_3 F P xS0 m) a (nI g) x y (nI n) _ = _
    unfold f_X10_setCells_3s
    dsimp only
    rw [hn, if_pos (Int32.le_refl _)]
  · rintro m i D' hi rfl hk
    show f_X10_setCells_3s F P xS0 (f_X10_setCells_3 F P xS0 m) a (nI g) x y (nI i) _ = _
    unfold f_X10_setCells_3s f_X10_setCells_37
    dsimp only [xlet]
    rw [hn, if_neg (by rw [nI_leI (by omega) (by omega)]; omega), nI_1]
    by_cases hb : bt x i = true
    · rw [if_neg (by rw [test1 _ (by omega), hb]; simp), ho.2.1, ho.2.2.2, k64, nI_mul, nI_add, xgrd_in (by omega) (by omega), nI_clamp (by omega)]
      exact hk _ (by rw [upP_t hb rfl])
    · have hb2 : bt x i = false := by simpa using hb
      rw [if_pos (by rw [test1 _ (by omega), hb2])]
      exact hk _ (by rw [upP_f hb2])
  · rw [upP_0]
theorem E_add {F P : Nat} (hF : 1000 < F) {D : xDt} {a ta ce n b : Nat} (ho : oW a ta ce) (hd : ta ≠ ce) (hn : D.1 a 0 = nI n) (hn2 : n < 64) (hb : b < 256) :
    oK (f_X10_add F P xS0 a (nI b) D) (fun r => r.1 = nI n ∧ r.2.1 = xup D.1 a 0 (nI (n + 1)) ∧ ch [a] [ta, ce] D r.2 ∧ (∀ k, k < 8 → ∀ j, bt (r.2.2 ta k) j = if j = n then b.testBit k else bt (D.2 ta k) j) ∧ (∀ g, g < 4 → ∀ w, w < 64 → r.2.2 ce (g * 64 + w) = if w = n then jlshl 1 (nI n) else D.2 ce (g * 64 + w))) := by
  unfold f_X10_add
  simp only [xlet]
  rw [hn, nI_1]
  refine lpu (W := fun m i (D' : xDt) => oK (f_X10_add_14 F P xS0 m a (nI b) (nI n) (nI i) D') _) (I := fun i D' => D'.1 = xup D.1 a 0 (nI (n + 1)) ∧ ch [a] [ta, ce] D D' ∧ D'.2 ta = D.2 ta ∧ (∀ g, g < 4 → ∀ w, w < 64 → D'.2 ce (g * 64 + w) = if w = n ∧ g < i then jlshl 1 (nI n) else D.2 ce (g * 64 + w))) 4 ?_ ?_ 4 0 _ F (by omega) (by omega) ?_
  · rintro m D1 ⟨h1, h2, h3, h4⟩
    show oK (f_X10_add_14s F P xS0 (f_X10_add_14 F P xS0 m) a (nI b) (nI n) (nI 4) D1) _
    unfold f_X10_add_14s
    rw [if_pos (by decide)]
    refine lpu (W := fun m i (D' : xDt) => oK (f_X10_add_41 F P xS0 m a (nI b) (nI n) (nI i) D') _) (I := fun i D' => D'.1 = xup D.1 a 0 (nI (n + 1)) ∧ ch [a] [ta, ce] D D' ∧ D'.2 ce = D1.2 ce ∧ (∀ k, k < 8 → ∀ j, bt (D'.2 ta k) j = if j = n ∧ k < i then b.testBit k else bt (D.2 ta k) j)) 8 ?_ ?_ 8 0 _ F (by omega) (by omega) ?_
    · rintro m D2 ⟨g1, g2, g3, g4⟩
      show oK (f_X10_add_41s F P xS0 (f_X10_add_41 F P xS0 m) a (nI b) (nI n) (nI 8) D2) _
      unfold f_X10_add_41s
      rw [if_pos (by decide)]
      refine oK_some ⟨rfl, g1, g2, ?_, ?_⟩
      · intro k hk j
        rw [g4 k hk j]
        by_cases hj : j = n
        · simp [hj, hk]
        · simp [hj]
      · intro g hg w hw
        rw [g3, h4 g hg w hw]
        by_cases hj : w = n
        · simp [hj, hg]
        · simp [hj]
    · rintro m i D2 hi ⟨g1, g2, g3, g4⟩ hk
      show oK (f_X10_add_41s F P xS0 (f_X10_add_41 F P xS0 m) a (nI b) (nI n) (nI i) D2) _
      have hbit : ∀ bb : Int32, (bb = 0 ↔ b.testBit i = false) → oK (f_X10_add_63 F P xS0 (f_X10_add_41 F P xS0 m) a (nI b) (nI n) (nI i) bb (nI i) (nI n) a D2) (fun r => r.1 = nI n ∧ r.2.1 = xup D.1 a 0 (nI (n + 1)) ∧ ch [a] [ta, ce] D r.2 ∧ (∀ k, k < 8 → ∀ j, bt (r.2.2 ta k) j = if j = n then b.testBit k else bt (D.2 ta k) j) ∧ (∀ g, g < 4 → ∀ w, w < 64 → r.2.2 ce (g * 64 + w) = if w = n then jlshl 1 (nI n) else D.2 ce (g * 64 + w))) := by
        intro bb hbb
        unfold f_X10_add_63
        rw [E_setAtom ho hi]
        show oK (f_X10_add_41 F P xS0 m a (nI b) (nI n) (nI i + 1) _) _
        rw [nI_1]
        refine hk _ ⟨g1, ch_l (by simp) g2, ?_, ?_⟩
        · show xup D2.2 ta i _ ce = _
          rw [xup_ne _ _ _ _ (Ne.symm hd)]; exact g3
        · intro k hk8 j
          show bt (xup D2.2 ta i _ ta k) j = _
          by_cases hki : k = i
          · subst hki
            rw [xup_at, bt_sa _ hn2, g4 k hk8 j]
            by_cases hj : j = n
            · simp [hj]
              cases hbt : b.testBit k
              · simp [hbb.mpr hbt]
              · have : ¬ bb = 0 := fun h => by rw [hbb.mp h] at hbt; cases hbt
                simp [this]
            · simp [hj]
          · rw [xup_nk _ _ _ _ _ hki, g4 k hk8 j]
            by_cases hj : j = n
            · have : k < i + 1 ↔ k < i := by omega
              simp [hj, this]
            · simp [hj]
      unfold f_X10_add_41s
      rw [k8, if_neg (by rw [nI_leI (by omega) (by omega)]; omega)]
      have ht := (by decide +kernel : ∀ b, b < 256 → ∀ i, i < 8 → ((jishr (nI b) (nI i) &&& 1 = 0) ↔ b.testBit i = false)) b hb i hi
      by_cases hc : jishr (nI b) (nI i) &&& 1 = 0
      · rw [if_pos hc]
        exact hbit 0 ⟨fun _ => ht.mp hc, fun _ => rfl⟩
      · rw [if_neg hc]
        exact hbit 1 ⟨fun h => absurd h (by decide), fun h => absurd (ht.mpr h) hc⟩
    · refine ⟨h1, h2, rfl, ?_⟩
      intro k hk j
      rw [h3]; simp
  · rintro m i D1 hi ⟨h1, h2, h3, h4⟩ hk
    show oK (f_X10_add_14s F P xS0 (f_X10_add_14 F P xS0 m) a (nI b) (nI n) (nI i) D1) _
    unfold f_X10_add_14s
    rw [k4, if_neg (by rw [nI_leI (by omega) (by omega)]; omega), ho.2.1, ho.2.2.2, k64, nI_mul, nI_add, xgrd_in (by omega) (by omega), nI_clamp (by omega)]
    show oK (f_X10_add_14 F P xS0 m a (nI b) (nI n) (nI i + 1) _) _
    rw [nI_1]
    refine hk _ ⟨h1, ch_l (by simp) h2, ?_, ?_⟩
    · show xup D1.2 ce _ _ ta = _
      rw [xup_ne _ _ _ _ hd]; exact h3
    · intro g hg w hw
      show xup D1.2 ce _ _ ce _ = _
      by_cases hgw : g * 64 + w = i * 64 + n
      · have e1 : g = i := by omega
        have e2 : w = n := by omega
        subst e1; subst e2
        rw [xup_at]; simp
      · rw [xup_nk _ _ _ _ _ hgw, h4 g hg w hw]
        by_cases hj : w = n
        · have : g < i + 1 ↔ g < i := by omega
          simp [hj, this]
        · simp [hj]
  · refine ⟨rfl, ch_i (by simp) (ch_rfl _ _ _), rfl, ?_⟩
    intro g hg w hw
    simp
theorem E_merge {F P : Nat} (hF : 1000 < F) {D : xDt} {a ta ce n : Nat} (ho : oW a ta ce) (hn : D.1 a 0 = nI n) (hn2 : n ≤ 64) {g u v : Nat} (hg : g < 4) (hu : u < 64) (hv : v < 64) {x : Int64} (hx : x = D.2 ce (g * 64 + u) ||| D.2 ce (g * 64 + v)) : f_X10_merge F P xS0 a (nI g) (nI u) (nI v) D = some (nI (cn (bt x) 64), (D.1, upP D.2 ce (g * 64) n (bt x) (fun _ => x))) := by
  unfold f_X10_merge
  rw [E_cell ho hg hu]
  show (f_X10_cell F P xS0 a (nI g) (nI v) D).bind _ = _
  rw [E_cell ho hg hv]
  dsimp only [xlet, Option.bind]
  rw [← hx, E_setCells hF ho hn hn2 hg]
  dsimp only [Option.bind]
  rw [E_bitCount]
theorem E_part {F P : Nat} (hF : 1000 < F) {D : xDt} {a ta ce n : Nat} (ho : oW a ta ce) (hn : D.1 a 0 = nI n) (hn2 : n ≤ 64) {g w : Nat} (hg : g < 4) (hw : w < 64) {x : Int64} (hx : x = D.2 ce (g * 64 + w) &&& (jlshl 1 (nI w) ^^^ (-1))) : f_X10_part F P xS0 a (nI g) (nI w) D = some (nI (cn (bt x) 64), (D.1, upP (upP D.2 ce (g * 64) n (bt x) (fun _ => x)) ce (g * 64) n (bt (jlshl 1 (nI w))) (fun _ => jlshl 1 (nI w)))) := by
  unfold f_X10_part
  rw [E_cell ho hg hw]
  dsimp only [xlet, Option.bind]
  rw [← hx, E_setCells hF ho hn hn2 hg]
  dsimp only [Option.bind]
  rw [E_setCells hF ho (by exact hn) hn2 hg]
  dsimp only [Option.bind]
  rw [E_bitCount]
