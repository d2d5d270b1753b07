/-! event, change, tieEvents -/
theorem E_addAll {F P : Nat} {D : xDt} {a ta row f e s : Nat} (ha : xr xS0 a 0 = ta) (hs : D.1 a 1 = nI s) (hat : a ≠ ta) (hfe : f ≤ e) (he : e ≤ xl xS0 row) (hR : s + (e - f) ≤ xl xS0 ta) (h3 : xl xS0 ta ≤ 2000) (h4 : xl xS0 row ≤ 2000) : f_X2_addAll F P xS0 a row (nI f) (nI e) D = some (1, (xup (xcp D.1 row ta f s (e - f)) a 1 (nI (s + (e - f))), D.2)) := by
  unfold f_X2_addAll
  rw [nI_sub hfe, ha, hs]
  simp only [xlet]
  rw [if_neg (nI_pos (by omega)), if_neg (nI_pos (by omega)), kof, if_neg (by rw [nI_ltI (by omega) (by omega)]; omega), kof, nI_sub (by omega), if_pos (by rw [nI_leI (by omega) (by omega)]; omega), nI_clamp (by omega), nI_clamp (by omega), nI_clamp (by omega)]
  have hc : xcpin (nI f) (nI s) (nI (e - f)) (xl xS0 row) (xl xS0 ta) = true := by
    unfold xcpin
    rw [nI_clamp (by omega), nI_clamp (by omega), nI_clamp (by omega)]
    have z1 : f + (e - f) ≤ xl xS0 row := by omega
    simp [nI_pos' (show f < 2 ^ 31 by omega), nI_pos' (show s < 2 ^ 31 by omega), nI_pos' (show e - f < 2 ^ 31 by omega), z1, hR]
  rw [hc, xgrd_t]
  have hx : xcp D.1 row ta f s (e - f) a 1 = nI s := by
    unfold xcp
    rw [if_neg hat]; exact hs
  rw [hx, nI_add]
theorem E_addAll0 {F P : Nat} {D : xDt} {a ta row f e s : Nat} (ha : xr xS0 a 0 = ta) (hs : D.1 a 1 = nI s) (hfe : f ≤ e) (he : e ≤ xl xS0 row) (hs2 : s ≤ xl xS0 ta) (hR : ¬ s + (e - f) ≤ xl xS0 ta) (h3 : xl xS0 ta ≤ 2000) (h4 : xl xS0 row ≤ 2000) : f_X2_addAll F P xS0 a row (nI f) (nI e) D = some (0, D) := by
  unfold f_X2_addAll
  rw [nI_sub hfe, ha, hs]
  simp only [xlet]
  rw [if_neg (nI_pos (by omega)), if_neg (nI_pos (by omega)), kof, if_neg (by rw [nI_ltI (by omega) (by omega)]; omega), kof, nI_sub (by omega), if_neg (by rw [nI_leI (by omega) (by omega)]; omega)]
theorem E_fcopy {F P : Nat} {D : xDt} {a ta b tb n : Nat} (ha : xr xS0 a 0 = ta) (hb : xr xS0 b 0 = tb) (hn : D.1 b 1 = nI n) (h1 : n ≤ xl xS0 ta) (h2 : n ≤ xl xS0 tb) (h3 : xl xS0 ta ≤ 2000) (h4 : xl xS0 tb ≤ 2000) (hne : a ≠ b) (hat : a ≠ ta) (htb : ta ≠ tb) (hab : tb ≠ a) : ∃ D', f_X2_copy F P xS0 a b D = some D' ∧ (∀ x, x ≠ a → x ≠ ta → D'.1 x = D.1 x) ∧ D'.2 = D.2 ∧ D'.1 a 1 = nI n ∧ ∀ j, j < n → D'.1 ta j = D.1 tb j := by
  have e : f_X2_copy F P xS0 a b D = some (xup (xcp (xup D.1 a 1 0) tb ta 0 0 n) a 1 (nI n), D.2) := by
    unfold f_X2_copy
    simp only [xlet]
    rw [xup_na _ _ _ _ _ (show b ≠ a from fun c => hne c.symm), hn, hb, show f_X2_addAll F P xS0 a tb 0 (nI n) (xup D.1 a 1 0, D.2) = _ from E_addAll (D := (xup D.1 a 1 0, D.2)) (f := 0) (e := n) (s := 0) ha (by dsimp only; rw [xup_at]; rfl) hat (by omega) h2 (by omega) (by omega) (by omega), Option.bind_some]
    simp only [Nat.sub_zero, Nat.zero_add]
  refine ⟨_, e, fun x hx hx2 => ?_, rfl, ?_, fun j hj => ?_⟩
  · dsimp only
    rw [xup_ne _ _ _ _ hx]
    unfold xcp
    rw [if_neg hx2, xup_ne _ _ _ _ hx]
  · dsimp only
    rw [xup_at]
  · dsimp only
    rw [xup_na _ _ _ _ _ (fun c => hat c.symm)]
    unfold xcp va_cpy
    rw [if_pos rfl, if_pos (by omega), xup_na _ _ _ _ _ hab, show 0 + (j - 0) = j by omega]
theorem rw_r : ∀ r, r < 72 → xr xS0 43 r = 48 + 2 * r := by decide +kernel
theorem rw_o : ∀ r, r < 72 → xr xS0 (48 + 2 * r) 0 = 49 + 2 * r ∧ xl xS0 (49 + 2 * r) = 150 := by decide +kernel
theorem E_row {F P : Nat} {D : xDt} {r : Nat} {t : T} (hr : r < 72) (hf : fmC D 202 203 t) (hz : sz t ≤ 150) : ∃ D', f_X2_copy F P xS0 (48 + 2 * r) 202 D = some D' ∧ (∀ x, x ≠ 48 + 2 * r → x ≠ 49 + 2 * r → D'.1 x = D.1 x) ∧ D'.2 = D.2 ∧ fmC D' (48 + 2 * r) (49 + 2 * r) t := by
  obtain ⟨o1, o2⟩ := rw_o r hr
  obtain ⟨D', e, c1, c2, c3, c4⟩ := E_fcopy (F := F) (P := P) (D := D) (n := sz t) o1 rr202 hf.1 (by rw [o2]; exact hz) (by rw [ll203]; omega) (by rw [o2]; omega) (by rw [ll203]; omega) (by omega) (by omega) (by omega) (by omega)
  refine ⟨D', e, c1, c2, c3, fun i hi => ?_⟩
  rw [tks_len] at hi
  rw [Nat.zero_add, c4 i hi]
  have := hf.2 i (by rw [tks_len]; exact hi)
  rw [Nat.zero_add] at this
  exact this
theorem bm_lt (p : Nat → Bool) : ∀ n, bm p n < 2 ^ n
  | 0 => by simp [bm]
  | n + 1 => by
    have := bm_lt p n
    rw [bm, Nat.pow_succ]
    split <;> omega
theorem bm_bit (p : Nat → Bool) : ∀ n j, (bm p n).testBit j = (decide (j < n) && p j)
  | 0, j => by simp [bm]
  | n + 1, j => by
    have h := bm_lt p n
    have e : bm p (n + 1) = 2 ^ n * (p n).toNat + bm p n := by
      rw [bm]; cases p n <;> simp <;> omega
    rw [e, Nat.testBit_two_pow_mul_add _ h]
    by_cases hj : j < n
    · rw [if_pos hj, bm_bit p n j]
      have : j < n + 1 := by omega
      simp [hj, this]
    · rw [if_neg hj]
      by_cases e2 : j = n
      · subst e2
        cases p j <;> simp
      · have h1 : ¬ j < n + 1 := by omega
        obtain ⟨d, hd⟩ : ∃ d, j - n = d + 1 := ⟨j - n - 1, by omega⟩
        rw [hd]
        cases p n
        · simp [h1]
        · simp [h1, Nat.testBit_succ]
theorem bm_eq {a : Nat} {p : Nat → Bool} {n : Nat} (ha : a < 2 ^ n) (h : ∀ j, j < n → a.testBit j = p j) : a = bm p n := by
  apply Nat.eq_of_testBit_eq
  intro j
  rw [bm_bit]
  by_cases hj : j < n
  · rw [h j hj]; simp [hj]
  · rw [Nat.testBit_lt_two_pow (Nat.lt_of_lt_of_le ha (Nat.pow_le_pow_right (by omega) (by omega)))]
    simp [hj]
theorem bm_congr {p q : Nat → Bool} {n : Nat} (h : ∀ j, j < n → p j = q j) : bm p n = bm q n := bm_eq (bm_lt p n) (fun j hj => by rw [bm_bit]; simp [hj, h j hj])
theorem E_ev1 {F P : Nat} {D : xDt} {m j : Nat} (h : D.1 42 0 = nI m) (hm : m ≤ 8) (hj : j < m) : f_X1_has F P xS0 42 (nI j) D = some (1, D) := by
  rw [e_X1_has, h, if_neg (nI_pos (by omega)), if_neg (by rw [nI_leI (by omega) (by omega)]; omega)]
theorem E_ev0 {F P : Nat} {D : xDt} {m : Nat} {x : Int32} (h : D.1 42 0 = nI m) (hm : m ≤ 8) (hx : x < 0 ∨ ∃ j, m ≤ j ∧ j < 2 ^ 31 ∧ x = nI j) : f_X1_has F P xS0 42 x D = some (0, D) := by
  rw [e_X1_has, h]
  unfold f_X1_has_16
  rcases hx with h1 | ⟨j, h1, h2, rfl⟩
  · rw [if_pos h1]
  · rw [if_neg (nI_pos h2), if_pos (by rw [nI_leI (by omega) h2]; exact h1)]
theorem E_mev1 {F P : Nat} {D : xDt} {m j : Nat} (h : D.1 241 25 = nI m) (hm : m ≤ 8) (hj : j < m) : f_X12_isEvent F P xS0 241 (nI j) D = some (1, D) := by
  rw [e_X12_isEvent, h, nI_s1 (by omega), show f_X12_in F P xS0 (nI j) 0 (nI (m - 1)) D = some (1, D) from E_in1 (lo := 0) (by omega) (by omega) (by omega)]
  rfl
theorem E_mev0 {F P : Nat} {D : xDt} {m : Nat} {x : Int32} (h : D.1 241 25 = nI m) (hm : m ≤ 8) (hx : x < 0 ∨ ∃ j, m ≤ j ∧ j < 2 ^ 31 ∧ x = nI j) : f_X12_isEvent F P xS0 241 x D = some (0, D) := by
  rw [e_X12_isEvent, h, E_in, Option.bind_some]
  have : (if x < 0 then (0 : Int32) else if nI m - 1 < x then 0 else 1) = 0 := by
    rcases hx with h | ⟨j, h1, h2, rfl⟩
    · rw [if_pos h]
    · rw [if_neg (nI_pos h2), if_pos]
      by_cases h0 : m = 0
      · subst h0
        exact neg_lt (by decide) h2
      · rw [nI_s1 (by omega), nI_ltI (by omega) h2]; omega
  dsimp only
  rw [this]; rfl
/-- the events have changed, and nothing else that is read -/
theorem Iv_ev {dA : T → Nat → Int32} {D D1 D2 : xDt} (h : Iv dA D) (c1 : ∀ x, x ≠ 42 → x ≠ 44 → (x < 48 ∨ 192 ≤ x) → D1.1 x = D.1 x) (c2 : D1.2 = D.2) (c3 : ch [241, 247, 248, 249, 250, 251, 257, 258, 259] [] D1 D2) (c4 : ∀ j, j ≠ 13 → j ≠ 25 → D2.1 241 j = D1.1 241 j) (c5 : ∀ x, 247 ≤ x → x ≤ 251 → ∀ j, j < 2000 → D2.1 x j = D1.1 x j) {E' : Ev} (hE : iE D2 E') : Iv dA D2 := by
  obtain ⟨W, L, t, E, sg, tx, a1, a2, a3, a4, a5, a6, a7, a8⟩ := h
  have q : ∀ x, x ≠ 42 → x ≠ 44 → (x < 48 ∨ 192 ≤ x) → x ≠ 241 → (x < 247 ∨ 251 < x) → (x < 257 ∨ 259 < x) → D2.1 x = D.1 x := fun x h1 h2 h3 h4 h5 h6 => by rw [c3.1 x (by simp; omega), c1 x h1 h2 h3]
  have qL : ∀ x, D2.2 x = D.2 x := fun x => by rw [c3.2 x (by simp), c2]
  have q1 : ∀ j, j ≠ 13 → j ≠ 25 → D2.1 241 j = D.1 241 j := fun j h1 h2 => by rw [c4 j h1 h2, c1 241 (by omega) (by omega) (by omega)]
  refine ⟨W, L, t, E', sg, tx, ?_, ?_, ?_, hE, ?_, ?_, ?_, ?_⟩
  · exact iW_congr (congrFun (q 1 (by omega) (by omega) (by omega) (by omega) (by omega) (by omega)) 0) (qL 2) (qL 3) (q1 1 (by omega) (by omega)) (q 242 (by omega) (by omega) (by omega) (by omega) (by omega) (by omega)) (q 243 (by omega) (by omega) (by omega) (by omega) (by omega) (by omega)) a1
  · exact iK_congr (q 4 (by omega) (by omega) (by omega) (by omega) (by omega) (by omega)) (q1 7 (by omega) (by omega)) (fun x hx hx2 => ⟨q x (by omega) (by omega) (by omega) (by omega) (by omega) (by omega), qL x⟩) (fun x hx hx2 => q x (by omega) (by omega) (by omega) (by omega) (by omega) (by omega)) a2
  · exact iT_congr (congrFun (q 202 (by omega) (by omega) (by omega) (by omega) (by omega) (by omega)) 1) (q 203 (by omega) (by omega) (by omega) (by omega) (by omega) (by omega)) (q1 14 (by omega) (by omega)) (fun x hx hx2 j hj => by rw [c5 x hx hx2 j hj, c1 x (by omega) (by omega) (by omega)]) a3
  · exact iS_congr (congrFun (q 192 (by omega) (by omega) (by omega) (by omega) (by omega) (by omega)) 1) (q 193 (by omega) (by omega) (by omega) (by omega) (by omega) (by omega)) (q1 16 (by omega) (by omega)) (q 252 (by omega) (by omega) (by omega) (by omega) (by omega) (by omega)) a5
  · exact iX_congr (congrFun (q 204 (by omega) (by omega) (by omega) (by omega) (by omega) (by omega)) 1) (q 205 (by omega) (by omega) (by omega) (by omega) (by omega) (by omega)) (q1 21 (by omega) (by omega)) (q 253 (by omega) (by omega) (by omega) (by omega) (by omega) (by omega)) a6
  · exact iJ_congr (congrFun (q 0 (by omega) (by omega) (by omega) (by omega) (by omega) (by omega)) 13) (qL 0) a7
  · exact iD_congr (congrFun (q 0 (by omega) (by omega) (by omega) (by omega) (by omega) (by omega)) 14) (q 223 (by omega) (by omega) (by omega) (by omega) (by omega) (by omega)) a8
theorem M_change {dA : T → Nat → Int32} {F P : Nat} (hF : 10000 < F) (hP : 2005 < P) {D : xDt} (h : Iv dA D) (x y : Int32) : Two dA D (f_X11_change F P xS0 0 x y) (f_X12_change F P xS0 241 x y) := by
  obtain ⟨W, L, t, E, sg, tx, a1, a2, a3, a4, a5, a6, a7, a8⟩ := id h
  obtain ⟨g0, g1, g2, g3, g4, g5⟩ := id a4
  obtain ⟨b1, b2, b3, b4, i, b5, b6, b7⟩ := id a3
  rcases i_in E.1 x with ⟨e, he, _, rfl⟩ | hx
  rotate_left
  · exact Iv_same (r := -1) h (by rw [e_X11_change, E_ev0 g1 g0 hx]; rfl) (by rw [e_X12_change, E_mev0 g2 g0 hx]; rfl)
  rcases i_in 8 y with ⟨k, hk, _, rfl⟩ | hy
  rotate_left
  · refine Iv_same (r := -1) h ?_ ?_
    · rw [e_X11_change, E_ev1 g1 g0 he, Option.bind_some, if_neg (show ¬ (1 : Int32) = 0 by decide), E_at0 hy]; rfl
    · rw [e_X12_change, E_mev1 g2 g0 he, Option.bind_some, if_neg (show ¬ (1 : Int32) = 0 by decide), show f_X12_in F P xS0 y 0 7 D = some (0, D) from in_f (hi := 7) (by omega) hy]; rfl
  have hsz : D.1 251 i = nI (sz t) := nd_sz b7
  by_cases hz : sz t ≤ 150
  rotate_left
  · refine Iv_same (r := -1) h ?_ ?_
    · rw [e_X11_change, E_ev1 g1 g0 he, Option.bind_some, if_neg (show ¬ (1 : Int32) = 0 by decide), E_at1 hk, Option.bind_some, if_neg (show ¬ (1 : Int32) = 0 by decide)]
      dsimp only
      rw [b4.1, if_neg (show ¬ nI (sz t) ≤ 150 from fun c => hz ((nI_leI (b := 150) (by omega) (by omega)).mp c))]
    · rw [e_X12_change, E_mev1 g2 g0 he, Option.bind_some, if_neg (show ¬ (1 : Int32) = 0 by decide), show f_X12_in F P xS0 (nI k) 0 7 D = some (1, D) from E_in1 (lo := 0) (hi := 7) (by omega) (by omega) (by omega), Option.bind_some, if_neg (show ¬ (1 : Int32) = 0 by decide)]
      dsimp only
      rw [b6, xgrd_in (by omega) (by omega), nI_clamp (by omega), hsz, if_neg (show ¬ nI (sz t) ≤ 150 from fun c => hz ((nI_leI (b := 150) (by omega) (by omega)).mp c))]
  obtain ⟨D1, e1, c1, c2, c3⟩ := E_row (F := F) (P := P) (D := D) (r := 9 * e + 1 + k) (by omega) b4 hz
  have e1' : f_X11_change F P xS0 0 (nI e) (nI k) D = some (0, D1) := by
    rw [e_X11_change, E_ev1 g1 g0 he, Option.bind_some, if_neg (show ¬ (1 : Int32) = 0 by decide), E_at1 hk, Option.bind_some, if_neg (show ¬ (1 : Int32) = 0 by decide)]
    dsimp only
    rw [b4.1, if_pos (show nI (sz t) ≤ 150 from (nI_leI (b := 150) (by omega) (by omega)).mpr hz), e_X1_setChange, show (9 : Int32) = nI 9 from rfl, nI_mul, nI_1, nI_add, xgrd_in (by omega) (by omega), nI_clamp (by omega), rw_r _ (by omega), Nat.mul_comm e 9, e1, Option.bind_some, Option.bind_some]
  have m1 : ∀ x, 192 ≤ x → D1.1 x = D.1 x := fun x hx => c1 x (by omega) (by omega)
  obtain ⟨⟨r, D2⟩, e2, d1, d2, d3, d4, d5⟩ := E_laid (F := F) (P := P) hF hP (D := D1) (t := t) (i := i) (p := 2000 + 150 * (9 * e + 1 + k)) b1 (nd_congr (fun x hx hx2 j _ _ => by rw [m1 x (by omega)]) b7) b5 hz (by omega)
  dsimp only at d1 d2 d3 d4 d5
  subst d1
  have e2' : f_X12_change F P xS0 241 (nI e) (nI k) D1 = some (0, (xup D2.1 258 (8 * e + k) (nI (2000 + 150 * (9 * e + 1 + k) + sz t - 1)), D2.2)) := by
    rw [e_X12_change, E_mev1 (m := E.1) (by rw [m1 241 (by omega)]; exact g2) g0 he, Option.bind_some, if_neg (show ¬ (1 : Int32) = 0 by decide), show f_X12_in F P xS0 (nI k) 0 7 D1 = some (1, D1) from E_in1 (lo := 0) (hi := 7) (by omega) (by omega) (by omega), Option.bind_some, if_neg (show ¬ (1 : Int32) = 0 by decide)]
    dsimp only
    rw [m1 241 (by omega), b6, xgrd_in (by omega) (by omega), nI_clamp (by omega), m1 251 (by omega), hsz, if_pos (show nI (sz t) ≤ 150 from (nI_leI (b := 150) (by omega) (by omega)).mpr hz), show (9 : Int32) = nI 9 from rfl, nI_mul, nI_1, nI_add, show (150 : Int32) = nI 150 from rfl, nI_mul, show (2000 : Int32) = nI 2000 from rfl, nI_add, e2, Option.bind_some, show (8 : Int32) = nI 8 from rfl, nI_mul, nI_add, xgrd_in (by omega) (by omega), nI_clamp (by omega)]
    rfl
  refine ⟨0, D1, _, e1', e2', Iv_ev h (fun x h1 h2 h3 => c1 x (by omega) (by omega)) c2 (ch_i (by simp) (ch_mono d2 (by intro x hx; simp at hx ⊢; omega) (fun _ h => h))) (fun j h13 h25 => ?_) (fun x hx hx2 j hj => ?_) (E' := (E.1, E.2.1, fun e' k' => if e' = e ∧ k' = k then t else E.2.2.1 e' k', E.2.2.2)) ⟨g0, ?_, ?_, fun e' he' => ?_, fun e' he' k' hk' => ?_, fun g hg e' he' => ?_⟩⟩
  · dsimp only
    rw [xup_na _ _ _ _ _ (by omega), d3 j h13]
  · dsimp only
    rw [xup_na _ _ _ _ _ (by omega), d4 x (by omega) j (by omega) (by omega)]
  · dsimp only
    rw [xup_na _ _ _ _ _ (by omega), d2.1 42 (by decide), c1 42 (by omega) (by omega)]; exact g1
  · dsimp only
    rw [xup_na _ _ _ _ _ (by omega), d3 25 (by omega), m1 241 (by omega)]; exact g2
  · obtain ⟨s1, s2⟩ := g3 e' he'
    have he8 : e' < E.1 := he'
    refine ⟨sl_congr (fun x hx hx2 => ?_) s1, ?_⟩
    · dsimp only
      rw [xup_ne _ _ _ _ (by omega), d2.1 x (by simp; omega), c1 x (by omega) (by omega)]
    · dsimp only
      rw [xup_na _ _ _ _ _ (show 257 ≠ 258 by omega), d2.1 257 (by decide), m1 257 (by omega)]
      refine sm_congr (fun a ha hb j hj hj2 => ?_) s2
      dsimp only
      rw [xup_na _ _ _ _ _ (by omega), d4 a (by omega) j (by omega) (by omega), m1 a (by omega)]
  · have he8 : e' < E.1 := he'
    by_cases q : e' = e ∧ k' = k
    · obtain ⟨rfl, rfl⟩ := q
      refine Or.inr ⟨?_, ?_⟩
      · dsimp only
        rw [if_pos ⟨rfl, rfl⟩]
        refine ⟨b1, hz, ?_⟩
        refine fmC_congr (D := D1) ?_ (fun i _ => ?_) c3
        · dsimp only
          rw [xup_na _ _ _ _ _ (by omega), d2.1 _ (by simp; omega)]
        · dsimp only
          rw [xup_na _ _ _ _ _ (by omega), d2.1 _ (by simp; omega)]
      · dsimp only
        rw [if_pos ⟨rfl, rfl⟩, xup_at]
        refine ⟨_, rfl, by omega, ?_⟩
        exact nd_congr (fun a ha hb j _ _ => by dsimp only; rw [xup_na _ _ _ _ _ (by omega)]) d5
    · dsimp only
      rw [if_neg q]
      have hne : 9 * e' + 1 + k' ≠ 9 * e + 1 + k := by omega
      have hidx : 8 * e' + k' ≠ 8 * e + k := by omega
      rw [xup_nk _ _ _ _ _ hidx, d2.1 258 (by decide), m1 258 (by omega)]
      rcases g4 e' he' k' hk' with ⟨s1, s2, s3⟩ | ⟨s1, s2⟩
      · refine Or.inl ⟨s1, ?_, s3⟩
        rw [xup_na _ _ _ _ _ (by omega), d2.1 _ (by simp; omega), c1 _ (by omega) (by omega)]; exact s2
      · refine Or.inr ⟨sl_congr (fun x hx hx2 => ?_) s1, sm_congr (fun a ha hb j hj hj2 => ?_) s2⟩
        · dsimp only
          rw [xup_ne _ _ _ _ (by omega), d2.1 x (by simp; omega), c1 x (by omega) (by omega)]
        · dsimp only
          rw [xup_na _ _ _ _ _ (by omega), d4 a (by omega) j (by omega) (by omega), m1 a (by omega)]
  · obtain ⟨s1, s2, s3, s4⟩ := g5 g hg e' he'
    refine ⟨s1, s2, ?_, ?_⟩
    · dsimp only
      rw [xup_na _ _ _ _ _ (by omega), d2.1 259 (by decide), m1 259 (by omega)]; exact s3
    · dsimp only
      rw [xup_na _ _ _ _ _ (by omega), d2.1 44 (by decide), c1 44 (by omega) (by omega)]; exact s4
