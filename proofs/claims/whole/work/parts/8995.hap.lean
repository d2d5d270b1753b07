/-! what happens: the class's ATOMS, the reference -/
theorem E_changeAtom {F P : Nat} (hF : 10000 < F) {D : xDt} {n e k : Nat} {ee ww : Nat → Nat} (hn : n ≤ 64) (h0 : D.1 1 0 = nI n) (he8 : e < 8) (hk : k < 8) (he : ∀ i, i < n → D.1 47 i = nI (ee i) ∧ ee i < 8) (hw : ∀ i, i < n → D.1 46 i = nI (ww i) ∧ ww i < 64) (X : Int64) : oK (f_X1_changeAtom F P xS0 42 1 (nI e) (nI k) X D) (fun D' => D'.1 = D.1 ∧ (∀ x, x ≠ 2 → D'.2 x = D.2 x) ∧ (∀ k', k' ≠ k → D'.2 2 k' = D.2 2 k') ∧ ∀ x, x < n → bt (D'.2 2 k) x = if ee x = e then bt X (ww x) else bt (D.2 2 k) x) := by
  rw [e_X1_changeAtom]
  refine lpu (W := fun m i (D1 : xDt) => oK (f_X1_changeAtom_3 F P xS0 m 42 1 (nI e) (nI k) X (nI i) D1) _) (I := fun i D1 => D1.1 = D.1 ∧ (∀ x, x ≠ 2 → D1.2 x = D.2 x) ∧ (∀ k', k' ≠ k → D1.2 2 k' = D.2 2 k') ∧ ∀ x, x < n → bt (D1.2 2 k) x = if ee x = e ∧ x < i then bt X (ww x) else bt (D.2 2 k) x) n ?_ ?_ n 0 _ F (by omega) (by omega) ⟨rfl, fun _ _ => rfl, fun _ _ => rfl, fun x _ => by simp⟩
  · rintro m D1 ⟨i1, i2, i3, i4⟩
    rw [e_X1_changeAtom_3, if_pos (by rw [i1, h0]; exact Int32.le_refl _)]
    refine oK_some ⟨i1, i2, i3, fun x hx => ?_⟩
    rw [i4 x hx]
    by_cases q : ee x = e
    · simp [q, hx]
    · simp [q]
  · rintro m i D1 hi ⟨i1, i2, i3, i4⟩ hgo
    have hee := he i hi
    have hww := hw i hi
    rw [e_X1_changeAtom_3, i1, if_neg (by rw [h0, nI_leI (by omega) (by omega)]; omega), xgrd_in (by omega) (by omega), xgrd_in (by omega) (by omega), nI_clamp (by omega), hee.1, hww.1]
    have key : ∀ b : Int32, (b = 0 ↔ bt X (ww i) = false) → ee i = e → oK (f_X1_changeAtom_49 F P xS0 (f_X1_changeAtom_3 F P xS0 m) 42 1 (nI e) (nI k) X (nI i) b (nI k) (nI i) 1 D1) (fun D' => D'.1 = D.1 ∧ (∀ x, x ≠ 2 → D'.2 x = D.2 x) ∧ (∀ k', k' ≠ k → D'.2 2 k' = D.2 2 k') ∧ ∀ x, x < n → bt (D'.2 2 k) x = if ee x = e then bt X (ww x) else bt (D.2 2 k) x) := by
      intro b hb hq
      rw [e_X1_changeAtom_49, E_setAtom oW1 hk, Option.bind_some, e_X1_changeAtom_52]
      simp only [xlet, nI_1]
      refine hgo _ ⟨i1, fun x hx => ?_, fun k' hk' => ?_, fun x hx => ?_⟩
      · dsimp only
        rw [xup_ne _ _ _ _ hx]; exact i2 x hx
      · dsimp only
        rw [xup_nk _ _ _ _ _ hk']; exact i3 k' hk'
      · dsimp only
        rw [xup_at, bt_sa _ (by omega)]
        by_cases q : x = i
        · subst q
          rw [if_pos rfl, if_pos ⟨hq, by omega⟩]
          cases hX : bt X (ww x)
          · simp [hb.mpr hX]
          · have : ¬ b = 0 := fun c => by rw [hb.mp c] at hX; cases hX
            simp [this]
        · rw [if_neg q, i4 x hx]
          by_cases q2 : ee x = e
          · have : x < i + 1 ↔ x < i := by omega
            simp [q2, this]
          · simp [q2]
    by_cases q : ee i = e
    · rw [if_pos (by rw [q])]
      by_cases hX : bt X (ww i) = true
      · rw [if_neg (by rw [test1 _ hww.2, hX]; simp)]
        exact key 1 ⟨fun c => absurd c (by decide), fun c => by rw [hX] at c; cases c⟩ q
      · have hX2 : bt X (ww i) = false := by simpa using hX
        rw [if_pos (by rw [test1 _ hww.2, hX2])]
        exact key 0 ⟨fun _ => hX2, fun _ => rfl⟩ q
    · rw [if_neg (by rw [nI_eq (by omega) (by omega)]; exact q), e_X1_changeAtom_52]
      simp only [xlet, nI_1]
      refine hgo _ ⟨i1, i2, i3, fun x hx => ?_⟩
      rw [i4 x hx]
      by_cases q2 : x = i
      · subst q2; simp [q]
      · by_cases q3 : ee x = e
        · have : x < i + 1 ↔ x < i := by omega
          simp [q3, this]
        · simp [q3]
/-- where an ATOM will hold, by an event -/
noncomputable def bh (W : Wd) (E : Ev) (e k : Nat) : Int64 := if sz (E.2.2.1 e k) = 0 then oa W k else ev W (E.2.2.1 e k) (aS W)
theorem E_chAtoms {F P : Nat} (hF : 10000 < F) {D : xDt} {W : Wd} {E : Ev} {n p : Nat} {ee ww : Nat → Nat} (hp : p < 12) (hW : wOK W) (hC : wC D (6 + 3 * p) (7 + 3 * p) (8 + 3 * p) W) (hE : iE D E) (hn : n ≤ 64) (h0 : D.1 1 0 = nI n) (he : ∀ i, i < n → D.1 47 i = nI (ee i) ∧ ee i < E.1) (hw : ∀ i, i < n → D.1 46 i = nI (ww i) ∧ ww i < W.1) (hA : ∀ k, k < 8 → ∀ x, x < n → bt (D.2 2 k) x = (W.2.1 (ww x)).testBit k) : oK (f_X1_changeAtoms F P xS0 42 1 (6 + 3 * p) 207 D) (fun D' => ch [207, 208, 209] [2, 207, 210, 211] D D' ∧ ∀ k, k < 8 → ∀ x, x < n → bt (D'.2 2 k) x = bt (bh W E (ee x) k) (ww x)) := by
  have hn2 := hW.1
  obtain ⟨g0, g1, g2, g3, g4, g5⟩ := hE
  have hoa : ∀ k, k < 8 → ∀ x, x < n → bt (oa W k) (ww x) = (W.2.1 (ww x)).testBit k := by
    intro k hk x hx
    have := (hw x hx).2
    have h64 : ww x < 64 := by omega
    rw [oa, bt_mkS]; simp [this, h64]
  rw [e_X1_changeAtoms]
  refine lpu (W := fun m e (D1 : xDt) => oK (f_X1_changeAtoms_3 F P xS0 m 42 1 (6 + 3 * p) 207 (nI e) D1) _) (I := fun e D1 => ch [207, 208, 209] [2, 207, 210, 211] D D1 ∧ ∀ k, k < 8 → ∀ x, x < n → bt (D1.2 2 k) x = if ee x < e then bt (bh W E (ee x) k) (ww x) else (W.2.1 (ww x)).testBit k) E.1 ?_ ?_ E.1 0 _ F (by omega) (by omega) ⟨ch_rfl _ _ _, fun k hk x hx => by rw [if_neg (by omega)]; exact hA k hk x hx⟩
  · rintro m D1 ⟨i1, i2⟩
    rw [e_X1_changeAtoms_3, if_pos (by rw [i1.1 42 (by decide), g1]; exact Int32.le_refl _)]
    exact oK_some ⟨i1, fun k hk x hx => by rw [i2 k hk x hx, if_pos (he x hx).2]⟩
  · rintro m e D1 he1 ⟨i1, i2⟩ hgo
    rw [e_X1_changeAtoms_3, if_neg (by rw [i1.1 42 (by decide), g1, nI_leI (by omega) (by omega)]; omega)]
    refine lpu (W := fun m' k (D2 : xDt) => oK (f_X1_changeAtoms_15 F P xS0 (f_X1_changeAtoms_3 F P xS0 m) m' 42 1 (6 + 3 * p) 207 (nI e) (nI k) D2) _) (I := fun k D2 => ch [207, 208, 209] [2, 207, 210, 211] D D2 ∧ ∀ k', k' < 8 → ∀ x, x < n → bt (D2.2 2 k') x = if ee x < e ∨ (ee x = e ∧ k' < k) then bt (bh W E (ee x) k') (ww x) else (W.2.1 (ww x)).testBit k') 8 ?_ ?_ 8 0 _ F (by omega) (by omega) ⟨i1, fun k' hk' x hx => by
      rw [i2 k' hk' x hx]
      by_cases q : ee x < e
      · rw [if_pos q, if_pos (Or.inl q)]
      · rw [if_neg q, if_neg (by omega)]⟩
    · rintro m' D2 ⟨j1, j2⟩
      rw [e_X1_changeAtoms_15, if_pos (by decide)]
      simp only [xlet, nI_1]
      refine hgo D2 ⟨j1, fun k hk x hx => ?_⟩
      rw [j2 k hk x hx]
      by_cases q : ee x < e + 1
      · rw [if_pos (by omega), if_pos q]
      · rw [if_neg (by omega), if_neg q]
    · rintro m' k D2 hk ⟨j1, j2⟩ hgo2
      have e9 : e * 9 + 1 + k = 9 * e + 1 + k := by omega
      rw [e_X1_changeAtoms_15, k8, if_neg (by rw [nI_leI (by omega) (by omega)]; omega), show (9 : Int32) = nI 9 from rfl, nI_mul, nI_1, nI_add, xgrd_in (by omega) (by omega), nI_clamp (by omega), rw_r _ (by omega), e9, j1.1 _ (by simp; omega)]
      simp only [e_X1_changeAtoms_63, xlet, nI_1]
      rcases g4 e he1 k hk with ⟨s1, s2, s3⟩ | ⟨⟨s1, s2, s3⟩, s4⟩
      · rw [s2, if_pos (by decide)]
        refine hgo2 D2 ⟨j1, fun k' hk' x hx => ?_⟩
        rw [j2 k' hk' x hx]
        by_cases q : ee x < e ∨ (ee x = e ∧ k' < k)
        · rw [if_pos q, if_pos (by omega)]
        · rw [if_neg q]
          by_cases q2 : ee x < e ∨ (ee x = e ∧ k' < k + 1)
          · have q3 : ee x = e ∧ k' = k := by omega
            rw [if_pos q2, q3.2, bh, q3.1, if_pos (by rw [s1]; rfl), hoa k hk x hx]
          · rw [if_neg q2]
      · have hpos := sz_pos s1
        have hnn : ¬ sz (E.2.2.1 e k) = 0 := by omega
        rw [s3.1, if_neg (nI_nle (by omega) (by omega))]
        obtain ⟨D3, e3, q3⟩ := E_where (F := F) (P := P) hF (jo_row (r := 9 * e + 1 + k) (by omega) s2 (rg_o p hp) (by omega) (by omega) (by omega)) hW (D := D2) s1 (fmC_congr (by rw [j1.1 _ (by simp; omega)]) (fun i _ => by rw [j1.1 _ (by simp; omega)]) s3) (wC_congr (by rw [j1.1 _ (by simp; omega)]) (j1.2 _ (by simp; omega)) (j1.2 _ (by simp; omega)) hC)
        rw [e3, Option.bind_some]
        have q3' : ch [207, 208, 209] [2, 207, 210, 211] D D3 := ch_trans j1 (ch_mono q3.1 (fun _ h => h) (by intro x hx; simp at hx ⊢; omega))
        refine oK_bind (E_changeAtom hF (D := D3) (n := n) (e := e) (k := k) (ee := ee) (ww := ww) hn (by rw [q3'.1 1 (by decide)]; exact h0) (by omega) hk (fun i hi => ⟨by rw [q3'.1 47 (by decide)]; exact (he i hi).1, by have := (he i hi).2; omega⟩) (fun i hi => ⟨by rw [q3'.1 46 (by decide)]; exact (hw i hi).1, by have := (hw i hi).2; omega⟩) (ev W (E.2.2.1 e k) (aS W))) ?_
        rintro D4 ⟨l1, l2, l3, l4⟩
        refine hgo2 D4 ⟨⟨fun x hx => by rw [l1]; exact q3'.1 x hx, fun x hx => by
          simp only [List.mem_cons, List.not_mem_nil, or_false, not_or] at hx
          rw [l2 x hx.1]; exact q3'.2 x (by simp; omega)⟩, fun k' hk' x hx => ?_⟩
        have h22 : D3.2 2 = D2.2 2 := q3.1.2 2 (by decide)
        by_cases q : k' = k
        · subst q
          rw [l4 x hx, h22, j2 k' hk' x hx]
          by_cases q2 : ee x = e
          · rw [if_pos q2, if_pos (by omega), bh, q2, if_neg hnn]
          · rw [if_neg q2]
            by_cases q4 : ee x < e
            · rw [if_pos (by omega), if_pos (by omega)]
            · rw [if_neg (by omega), if_neg (by omega)]
        · rw [l3 k' q, h22, j2 k' hk' x hx]
          by_cases q2 : ee x < e ∨ (ee x = e ∧ k' < k)
          · rw [if_pos q2, if_pos (by omega)]
          · rw [if_neg q2, if_neg (by omega)]
/-! sums -/
def su (f : Nat → Nat) : Nat → Nat
  | 0 => 0
  | n + 1 => su f n + f n
theorem cn_su1 {W : Wd} {E : Ev} (w : Nat) (hm : E.1 ≤ 8) : ∀ e, e ≤ E.1 → cn (pp W E) (8 * w + e) = cn (pp W E) (8 * w) + su (fun e => (bt (nE W E e) w).toNat) e
  | 0, _ => rfl
  | e + 1, h => by
    show cn (pp W E) (8 * w + e) + (pp W E (8 * w + e)).toNat = _
    have he : e < E.1 := by omega
    rw [cn_su1 w hm e (by omega), pp_e (by omega), su]
    simp [he]; omega
theorem su_add (f g : Nat → Nat) : ∀ n, su (fun e => f e + g e) n = su f n + su g n
  | 0 => rfl
  | n + 1 => by rw [su, su, su, su_add f g n]; omega
theorem cn_su {W : Wd} {E : Ev} (hm : E.1 ≤ 8) : ∀ w, cn (pp W E) (8 * w) = su (fun e => cn (bt (nE W E e)) w) E.1
  | 0 => by
    have : ∀ n, su (fun e => cn (bt (nE W E e)) 0) n = 0 := by
      intro n
      induction n with
      | zero => rfl
      | succ n ih => rw [su, ih]; rfl
    rw [this]; rfl
  | w + 1 => by
    rw [cn_row8 hm w, cn_su1 w hm E.1 (Nat.le_refl _), cn_su hm w, ← su_add]
    rfl
theorem cn_tot {W : Wd} {E : Ev} (hm : E.1 ≤ 8) : cn (pp W E) 512 = su (fun e => cn (bt (nE W E e)) 64) E.1 := cn_su hm 64
