/-! some of the worlds, in their order -/
def sel (p : Nat → Bool) : Nat → List Nat
  | 0 => []
  | k + 1 => sel p k ++ (if p k then [k] else [])
theorem sel_len (p : Nat → Bool) : ∀ k, (sel p k).length = cn p k
  | 0 => rfl
  | k + 1 => by
    rw [sel, cn, List.length_append, sel_len p k]
    cases p k <;> rfl
theorem getD_l {l m : List Nat} {i : Nat} (h : i < l.length) : (l ++ m).getD i 0 = l.getD i 0 := by
  rw [List.getD_eq_getElem?_getD, List.getD_eq_getElem?_getD, List.getElem?_append_left h]
theorem getD_r {l m : List Nat} {i : Nat} (h : l.length ≤ i) : (l ++ m).getD i 0 = m.getD (i - l.length) 0 := by
  rw [List.getD_eq_getElem?_getD, List.getD_eq_getElem?_getD, List.getElem?_append_right h]
theorem cn_lt2 {p : Nat → Bool} {w : Nat} (h : p w = true) : ∀ {k : Nat}, w < k → cn p w < cn p k
  | 0, hk => absurd hk (by omega)
  | k + 1, hk => by
    rw [cn]
    by_cases e : w = k
    · subst e; rw [h]; simp
    · have := cn_lt2 h (k := k) (by omega)
      omega
theorem cn_le2 {p : Nat → Bool} : ∀ {k w : Nat}, w ≤ k → cn p w ≤ cn p k
  | 0, w, h => by have : w = 0 := by omega
                  rw [this]; exact Nat.le_refl _
  | k + 1, w, h => by
    by_cases e : w = k + 1
    · rw [e]; exact Nat.le_refl _
    · rw [cn]; have := cn_le2 (p := p) (k := k) (w := w) (by omega); omega
theorem sel_get {p : Nat → Bool} {w : Nat} (h : p w = true) : ∀ {k : Nat}, w < k → (sel p k).getD (cn p w) 0 = w
  | 0, hk => absurd hk (by omega)
  | k + 1, hk => by
    rw [sel]
    by_cases e : w = k
    · subst e
      rw [getD_r (by rw [sel_len]; exact Nat.le_refl _), sel_len, Nat.sub_self, if_pos h]; rfl
    · rw [getD_l (by rw [sel_len]; exact cn_lt2 h (by omega))]
      exact sel_get h (by omega)
theorem sel_inv {p : Nat → Bool} : ∀ {k i : Nat}, i < cn p k → (sel p k).getD i 0 < k ∧ p ((sel p k).getD i 0) = true ∧ cn p ((sel p k).getD i 0) = i
  | 0, i, h => absurd h (by simp [cn])
  | k + 1, i, h => by
    rw [sel]
    by_cases e : i < cn p k
    · rw [getD_l (by rw [sel_len]; exact e)]
      have := sel_inv e
      exact ⟨by omega, this.2⟩
    · rw [cn] at h
      cases hp : p k
      · rw [hp] at h; simp at h; omega
      · rw [hp] at h
        have hi : i = cn p k := by simp at h; omega
        subst hi
        rw [getD_r (by rw [sel_len]; exact Nat.le_refl _), sel_len, Nat.sub_self, if_pos rfl]
        exact ⟨by simp, by simpa using hp, by simp⟩
/-- the i-th one of a set -/
def fm (X : Int64) (i : Nat) : Nat := (sel (bt X) 64).getD i 0
theorem fm_p {X : Int64} {i : Nat} (h : i < cn (bt X) 64) : fm X i < 64 ∧ bt X (fm X i) = true ∧ cn (bt X) (fm X i) = i := sel_inv h
theorem fm_w {X : Int64} {w : Nat} (h : bt X w = true) (hw : w < 64) : fm X (cn (bt X) w) = w := sel_get h hw
theorem fm_lt {X : Int64} {i j : Nat} (hi : i < cn (bt X) 64) (hj : j < cn (bt X) 64) (h : i < j) : fm X i < fm X j := by
  have h1 := fm_p hi
  have h2 := fm_p hj
  by_cases c : fm X i < fm X j
  · exact c
  · have := cn_le2 (p := bt X) (w := fm X j) (k := fm X i) (by omega)
    omega
theorem E_choose {F P : Nat} (hF : 10000 < F) {D : xDt} (X : Int64) : oK (f_X11_choose F P xS0 0 X D) (fun r => r.1 = nI (cn (bt X) 64) ∧ ch [239] [] D r.2 ∧ ∀ i, i < cn (bt X) 64 → r.2.1 239 i = nI (fm X i)) := by
  rw [e_X11_choose]
  have hc64 := cn_le (bt X) 64
  refine lpu (W := fun n i (s : Int32 × xDt) => oK (f_X11_choose_5 F P xS0 n 0 X s.1 (nI i) s.2) _) (I := fun i s => s.1 = nI (cn (bt X) i) ∧ ch [239] [] D s.2 ∧ tkAt (s.2.1 239) 0 (sel (bt X) i)) 64 ?_ ?_ 64 0 (0, D) F (by omega) (by omega) ⟨rfl, ch_rfl _ _ _, fun i hi => absurd hi (by simp [sel])⟩
  · rintro n ⟨v, D1⟩ ⟨i1, i2, i3⟩
    dsimp only at i1 i2 i3 ⊢
    subst i1
    rw [e_X11_choose_5, if_pos (by decide)]
    refine oK_some ⟨rfl, i2, fun i hi => ?_⟩
    have := i3 i (by rw [sel_len]; exact hi)
    rw [Nat.zero_add] at this
    exact this
  · rintro n i ⟨v, D1⟩ hi ⟨i1, i2, i3⟩ hk
    dsimp only at i1 i2 i3 ⊢
    subst i1
    have hci := cn_le (bt X) i
    rw [e_X11_choose_5, k64, if_neg (by rw [nI_leI (by omega) (by omega)]; omega)]
    simp only [e_X11_choose_34, xlet, nI_1]
    by_cases hb : bt X i = true
    · rw [if_neg (by rw [test1 _ hi, hb]; simp), xgrd_in (by omega) (by omega), nI_clamp (by omega)]
      refine hk (nI (cn (bt X) i + 1), (xup D1.1 239 (cn (bt X) i) (nI i), D1.2)) ⟨?_, ch_i (by simp) i2, ?_⟩
      · rw [cn, hb]; rfl
      · rw [sel, if_pos hb]
        refine tkAt_more i3 (fun j hj => ?_) ?_
        · dsimp only
          rw [sel_len] at hj
          rw [xup_nk _ _ _ _ _ (by omega)]
        · dsimp only
          rw [sel_len, xup_at]
    · have hb2 : bt X i = false := by simpa using hb
      rw [if_pos (by rw [test1 _ hi, hb2])]
      refine hk (nI (cn (bt X) i), D1) ⟨?_, i2, ?_⟩
      · rw [cn, hb2]; rfl
      · rw [sel, hb2]; simpa using i3
theorem sh01 (x : Int64) {f w : Nat} (hf : f < 64) (hw : w < 64) : jlshl (jlushr x (nI f) &&& 1) (nI w) = if bt x f then jlshl 1 (nI w) else 0 := by
  rw [ushr1 x hf]
  cases bt x f
  · apply bt_ext
    intro j hj
    rw [if_neg (by simp), if_neg (by simp), bt_shl _ hw, bt_0, bt_0]; simp
  · rw [if_pos rfl, if_pos rfl]
theorem E_drawn {F P : Nat} (hF : 10000 < F) {D : xDt} {a v3 n : Nat} {fr_ : Nat → Nat} (hn : D.1 a 0 = nI n) (hn2 : n ≤ 64) (hl : xl xS0 v3 = 64) (hv : ∀ w, w < n → D.1 v3 w = nI (fr_ w) ∧ fr_ w < 64) (x : Int64) : f_X10_drawn F P xS0 a x v3 D = some (mkS (fun w => decide (w < n) && bt x (fr_ w)), D) := by
  unfold f_X10_drawn
  refine lpu (W := fun m i (v : Int64) => f_X10_drawn_6 F P xS0 m a x v3 v (nI i) D = _) (I := fun i v => v = mkB (fun w => decide (w < n) && bt x (fr_ w)) i) n ?_ ?_ n 0 _ F (by omega) (by omega) rfl
  · rintro m v rfl
    show f_X10_drawn_6s F P xS0 (f_X10_drawn_6 F P xS0 m) a x v3 _ (nI n) D = _
    unfold f_X10_drawn_6s
    rw [hn, if_pos (Int32.le_refl _), mkB_full hn2 (fun j hj => by simp; omega)]
  · rintro m i v hi rfl hk
    show f_X10_drawn_6s F P xS0 (f_X10_drawn_6 F P xS0 m) a x v3 _ (nI i) D = _
    unfold f_X10_drawn_6s
    rw [hn, if_neg (by rw [nI_leI (by omega) (by omega)]; omega), hl, xgrd_in (by omega) (by omega), nI_clamp (by omega), (hv i hi).1, sh01 x (hv i hi).2 (by omega)]
    simp only [xlet, nI_1]
    exact hk _ (by rw [mkB]; simp [hi])
theorem E_take {F P : Nat} (hF : 10000 < F) {D : xDt} {o to_ rc v3 n : Nat} {fr_ : Nat → Nat} (ho : xr xS0 o 1 = to_) (hl1 : xl xS0 to_ = 8) (ht : to_ ≠ 2 ∧ to_ ≠ 3) (hrc : rc ≠ 2 ∧ rc ≠ 3) (hl2 : xl xS0 rc = 256) (hv1 : v3 ≠ 1) (hl : xl xS0 v3 = 64) (hn2 : n ≤ 64) (hv : ∀ w, w < n → D.1 v3 w = nI (fr_ w) ∧ fr_ w < 64) : oK (f_X10_take F P xS0 1 o rc v3 (nI n) D) (fun D' => ch [1] [2, 3] D D' ∧ D'.1 1 0 = nI n ∧ (∀ k, k < 8 → D'.2 2 k = mkS (fun w => decide (w < n) && bt (D.2 to_ k) (fr_ w))) ∧ (∀ g, g < 4 → ∀ w, w < n → D'.2 3 (g * 64 + w) = mkS (fun u => decide (u < n) && bt (D.2 rc (g * 64 + fr_ w)) (fr_ u)))) := by
  have r11 := oW1.1
  have r12 := oW1.2.1
  have l2 := oW1.2.2.1
  have l3 := oW1.2.2.2
  unfold f_X10_take
  simp only [xlet]
  rw [k64, jmin_n (by omega) (by omega), Nat.min_eq_left hn2]
  have hv' : ∀ D1 : xDt, (∀ x, x ≠ 1 → D1.1 x = D.1 x) → ∀ w, w < n → D1.1 v3 w = nI (fr_ w) ∧ fr_ w < 64 := fun D1 h w hw => by rw [h v3 hv1]; exact hv w hw
  refine lpu (W := fun m i (D1 : xDt) => oK (f_X10_take_14 F P xS0 m 1 o rc v3 (nI i) D1) _) (I := fun i D1 => D1.1 = xup D.1 1 0 (nI n) ∧ (∀ x, x ≠ 2 → D1.2 x = D.2 x) ∧ ∀ k, k < i → D1.2 2 k = mkS (fun w => decide (w < n) && bt (D.2 to_ k) (fr_ w))) 8 ?_ ?_ 8 0 _ F (by omega) (by omega) ⟨rfl, fun _ _ => rfl, fun k hk => absurd hk (by omega)⟩
  · rintro m D1 ⟨i1, i2, i3⟩
    show oK (f_X10_take_14s F P xS0 (f_X10_take_14 F P xS0 m) 1 o rc v3 (nI 8) D1) _
    unfold f_X10_take_14s
    rw [if_pos (by decide)]
    refine lpu (W := fun m g (D2 : xDt) => oK (f_X10_take_49 F P xS0 m 1 rc v3 (nI g) D2) _) (I := fun g D2 => D2.1 = xup D.1 1 0 (nI n) ∧ (∀ x, x ≠ 2 → x ≠ 3 → D2.2 x = D.2 x) ∧ (∀ k, k < 8 → D2.2 2 k = mkS (fun w => decide (w < n) && bt (D.2 to_ k) (fr_ w))) ∧ ∀ g', g' < g → ∀ w, w < n → D2.2 3 (g' * 64 + w) = mkS (fun u => decide (u < n) && bt (D.2 rc (g' * 64 + fr_ w)) (fr_ u))) 4 ?_ ?_ 4 0 _ F (by omega) (by omega) ⟨i1, fun x h2 _ => i2 x h2, i3, fun g' hg' => absurd hg' (by omega)⟩
    · rintro m D2 ⟨j1, j2, j3, j4⟩
      show oK (f_X10_take_49s F P xS0 (f_X10_take_49 F P xS0 m) 1 rc v3 (nI 4) D2) _
      unfold f_X10_take_49s
      rw [if_pos (by decide)]
      refine oK_some ⟨⟨fun x hx => ?_, fun x hx => ?_⟩, ?_, j3, j4⟩
      · simp at hx
        rw [j1, xup_ne _ _ _ _ hx]
      · simp only [List.mem_cons, List.not_mem_nil, or_false, not_or] at hx
        exact j2 x hx.1 hx.2
      · rw [j1, xup_at]
    · rintro m g D2 hg ⟨j1, j2, j3, j4⟩ hk
      show oK (f_X10_take_49s F P xS0 (f_X10_take_49 F P xS0 m) 1 rc v3 (nI g) D2) _
      unfold f_X10_take_49s
      rw [k4, if_neg (by rw [nI_leI (by omega) (by omega)]; omega)]
      simp only [xlet]
      rw [k64, nI_mul]
      refine lpu (W := fun m' w (D3 : xDt) => oK (f_X10_take_65 F P xS0 (f_X10_take_49 F P xS0 m) m' 1 rc v3 (nI g) (nI (g * 64)) (nI w) D3) _) (I := fun w D3 => D3.1 = xup D.1 1 0 (nI n) ∧ (∀ x, x ≠ 2 → x ≠ 3 → D3.2 x = D.2 x) ∧ (∀ k, k < 8 → D3.2 2 k = mkS (fun w => decide (w < n) && bt (D.2 to_ k) (fr_ w))) ∧ (∀ g', g' < g → ∀ w, w < n → D3.2 3 (g' * 64 + w) = mkS (fun u => decide (u < n) && bt (D.2 rc (g' * 64 + fr_ w)) (fr_ u))) ∧ ∀ w', w' < w → D3.2 3 (g * 64 + w') = mkS (fun u => decide (u < n) && bt (D.2 rc (g * 64 + fr_ w')) (fr_ u))) n ?_ ?_ n 0 _ F (by omega) (by omega) ⟨j1, j2, j3, j4, fun w' hw' => absurd hw' (by omega)⟩
      · rintro m' D3 ⟨l1, l2, l3, l4, l5⟩
        show oK (f_X10_take_65s F P xS0 (f_X10_take_49 F P xS0 m) (f_X10_take_65 F P xS0 (f_X10_take_49 F P xS0 m) m') 1 rc v3 (nI g) (nI (g * 64)) (nI n) D3) _
        unfold f_X10_take_65s
        rw [if_pos (by rw [l1, xup_at]; exact Int32.le_refl _)]
        simp only [xlet, nI_1]
        refine hk D3 ⟨l1, l2, l3, fun g' hg' w hw => ?_⟩
        by_cases e : g' = g
        · subst e; exact l5 w hw
        · exact l4 g' (by omega) w hw
      · rintro m' w D3 hw ⟨q1, q2, q3, q4, q5⟩ hk2
        have hvw := hv' D3 (fun x hx => by rw [q1, xup_ne _ _ _ _ hx])
        show oK (f_X10_take_65s F P xS0 (f_X10_take_49 F P xS0 m) (f_X10_take_65 F P xS0 (f_X10_take_49 F P xS0 m) m') 1 rc v3 (nI g) (nI (g * 64)) (nI w) D3) _
        unfold f_X10_take_65s
        rw [if_neg (by rw [q1, xup_at, nI_leI (by omega) (by omega)]; omega), hl, xgrd_in (by omega) (by omega), nI_clamp (by omega), (hvw w hw).1, nI_add, hl2, xgrd_in (by have := (hvw w hw).2; omega) (by omega), nI_clamp (by have := (hvw w hw).2; omega), E_drawn hF (n := n) (by rw [q1, xup_at]) hn2 hl hvw]
        simp only [Option.bind_some, xlet]
        rw [nI_add, nI_1, r12, l3, xgrd_in (by omega) (by omega), nI_clamp (by omega), q2 rc hrc.1 hrc.2]
        refine hk2 _ ⟨q1, fun x h2 h3 => ?_, fun k hk => ?_, fun g' hg' w2 hw2 => ?_, fun w' hw' => ?_⟩
        · dsimp only
          rw [xup_ne _ _ _ _ h3]; exact q2 x h2 h3
        · dsimp only
          rw [xup_na _ _ _ _ _ (by omega)]; exact q3 k hk
        · dsimp only
          rw [xup_nk _ _ _ _ _ (by omega)]; exact q4 g' hg' w2 hw2
        · dsimp only
          by_cases e : w' = w
          · subst e; rw [xup_at]
          · rw [xup_nk _ _ _ _ _ (by omega)]; exact q5 w' (by omega)
  · rintro m k D1 hk8 ⟨i1, i2, i3⟩ hk
    have hvw := hv' D1 (fun x hx => by rw [i1, xup_ne _ _ _ _ hx])
    show oK (f_X10_take_14s F P xS0 (f_X10_take_14 F P xS0 m) 1 o rc v3 (nI k) D1) _
    unfold f_X10_take_14s
    rw [k8, if_neg (by rw [nI_leI (by omega) (by omega)]; omega), ho, hl1, xgrd_in hk8 (by omega), nI_clamp (by omega), E_drawn hF (n := n) (by rw [i1, xup_at]) hn2 hl hvw]
    simp only [Option.bind_some, xlet]
    rw [nI_1, r11, l2, xgrd_in hk8 (by omega), i2 to_ ht.1]
    refine hk _ ⟨i1, fun x hx => ?_, fun k' hk' => ?_⟩
    · dsimp only
      rw [xup_ne _ _ _ _ hx]; exact i2 x hx
    · dsimp only
      by_cases e : k' = k
      · subst e; rw [xup_at]
      · rw [xup_nk _ _ _ _ _ e]; exact i3 k' (by omega)
/-- worlds by their labels -/
def wTk (n : Nat) (A : Nat → Nat) (lab : Nat → Nat → Nat) : Wd := (n, A, fun g w => lst (fun u => decide (lab g u = lab g w)) n)
theorem wTk_r {n : Nat} {A : Nat → Nat} {lab : Nat → Nat → Nat} {g w : Nat} (hw : w < n) : (wTk n A lab).2.2 g w ≤ w ∧ lab g ((wTk n A lab).2.2 g w) = lab g w := by
  have h1 : (fun u => decide (lab g u = lab g w)) w = true := by simp
  refine ⟨lst_lej h1 (by omega), ?_⟩
  have := lst_yes (fun u => decide (lab g u = lab g w)) n (lst_lt hw h1)
  exact decide_eq_true_iff.mp this
theorem wTk_eq {n : Nat} {A : Nat → Nat} {lab : Nat → Nat → Nat} {g u w : Nat} (hu : u < n) (hw : w < n) : (wTk n A lab).2.2 g u = (wTk n A lab).2.2 g w ↔ lab g u = lab g w := by
  constructor
  · intro h
    have h1 := (wTk_r (A := A) (lab := lab) (g := g) hu).2
    have h2 := (wTk_r (A := A) (lab := lab) (g := g) hw).2
    rw [h] at h1
    exact h1.symm.trans h2
  · intro h
    show lst (fun x => decide (lab g x = lab g u)) n = lst (fun x => decide (lab g x = lab g w)) n
    rw [h]
theorem wTk_ok {n : Nat} {A : Nat → Nat} {lab : Nat → Nat → Nat} (hn : n ≤ 64) (hA : ∀ w, w < n → A w < 256) : wOK (wTk n A lab) := by
  refine ⟨hn, hA, fun g _ w hw => ?_⟩
  have hw2 : w < n := hw
  have h1 := wTk_r (A := A) (lab := lab) (g := g) hw2
  refine ⟨h1.1, ?_⟩
  exact (wTk_eq (by omega) hw2).mpr h1.2
theorem wTk_C {D : xDt} {a ta ce n : Nat} {A : Nat → Nat} {lab : Nat → Nat → Nat} (hn : n ≤ 64) (h0 : D.1 a 0 = nI n) (h1 : ∀ k, k < 8 → ∀ w, w < n → bt (D.2 ta k) w = (A w).testBit k) (h2 : ∀ g, g < 4 → ∀ w, w < n → ∀ u, u < 64 → (bt (D.2 ce (g * 64 + w)) u = true ↔ u < n ∧ lab g u = lab g w)) : wC D a ta ce (wTk n A lab) := by
  refine ⟨h0, h1, fun g hg w hw => ?_⟩
  have hw2 : w < n := hw
  apply bt_ext
  intro u hu
  apply b_iff
  rw [h2 g hg w hw u hu, bt_cs (wTk n A lab) hn, Bool.and_eq_true, decide_eq_true_iff, decide_eq_true_iff]
  show _ ↔ u < n ∧ _
  constructor
  · rintro ⟨c1, c2⟩; exact ⟨c1, (wTk_eq c1 hw2).mpr c2⟩
  · rintro ⟨c1, c2⟩; exact ⟨c1, (wTk_eq c1 hw2).mp c2⟩
