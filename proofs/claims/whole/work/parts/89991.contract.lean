/-! contract -/
noncomputable def r2 (W : Wd) (lk : Nat → Nat) (g w : Nat) : Nat := lst (bt (sN W lk g w)) 64
theorem r2_p {W : Wd} {lk : Nat → Nat} (hW : wOK W) (hg : gk W lk) {g w : Nat} (hw : w < W.1) : r2 W lk g w ≤ lk w ∧ ∃ u, u < W.1 ∧ W.2.2 g u = W.2.2 g w ∧ lk u = r2 W lk g w := by
  have hn := hW.1
  have hl := (hg w hw).1
  have h1 : bt (sN W lk g w) (lk w) = true := (bt_sN _ (by omega)).mpr ⟨w, hw, rfl, rfl⟩
  have h2 : r2 W lk g w ≤ lk w := lst_lej h1 (by omega)
  have h3 := lst_yes (bt (sN W lk g w)) 64 (lst_lt (j := lk w) (by omega) h1)
  exact ⟨h2, (bt_sN _ (by have : r2 W lk g w < 64 := by omega
                          exact this)).mp h3⟩
/-- worlds that are alike see alike -/
theorem st_sN {W : Wd} {lk : Nat → Nat} (hs : ∀ w, w < W.1 → lkS W lk w = lk w) {u v : Nat} (hu : u < W.1) (hv : v < W.1) (h : lk u = lk v) {g : Nat} (hg4 : g < 4) : sN W lk g u = sN W lk g v := by
  have h1 := (lkS_p (lk := lk) hu).2.2 g hg4
  have h2 := (lkS_p (lk := lk) hv).2.2 g hg4
  rw [hs u hu] at h1
  rw [hs v hv] at h2
  rw [← h1, ← h2, h]
theorem r2_ok {W : Wd} {lk : Nat → Nat} (hW : wOK W) (hg : gk W lk) (hs : ∀ w, w < W.1 → lkS W lk w = lk w) : wOK (W.1, W.2.1, r2 W lk) := by
  refine ⟨hW.1, hW.2.1, fun g hg4 w hw => ?_⟩
  have hw2 : w < W.1 := hw
  have hl := (hg w hw2).1
  obtain ⟨h1, u, h2, h3, h4⟩ := r2_p hW hg (g := g) hw2
  dsimp only
  refine ⟨by omega, ?_⟩
  have hm : r2 W lk g w < W.1 := by omega
  have h5 : lk (r2 W lk g w) = lk u := by rw [← h4]; exact (hg u h2).2
  have h6 := st_sN hs hm h2 h5 hg4
  unfold r2
  unfold r2 at h6
  rw [h6, sN_cell h3]
theorem r2_eq {W : Wd} {lk : Nat → Nat} (hW : wOK W) (hg : gk W lk) (hs : ∀ w, w < W.1 → lkS W lk w = lk w) {g a b : Nat} (hg4 : g < 4) (ha : a < W.1) (hb : b < W.1) (hfa : lk a = a) : bt (sN W lk g b) a = true ↔ r2 W lk g a = r2 W lk g b := by
  have hn := hW.1
  rw [bt_sN a (by omega)]
  constructor
  · rintro ⟨u, h1, h2, h3⟩
    have h4 := st_sN hs ha h1 (by rw [h3, hfa]) hg4
    unfold r2
    rw [h4, sN_cell h2]
  · intro h
    obtain ⟨_, x, x1, x2, x3⟩ := r2_p hW hg (g := g) ha
    obtain ⟨_, y, y1, y2, y3⟩ := r2_p hW hg (g := g) hb
    have h4 := st_sN hs x1 y1 (by rw [x3, y3, h]) hg4
    rw [sN_cell x2, sN_cell y2] at h4
    have h5 : bt (sN W lk g a) a = true := (bt_sN a (by omega)).mpr ⟨a, ha, rfl, hfa⟩
    rw [h4] at h5
    exact (bt_sN a (by omega)).mp h5
def fS (W : Wd) (lk : Nat → Nat) : Int64 := mkS (fun w => decide (w < W.1) && decide (lk w = w))
theorem bt_fS {W : Wd} (hn : W.1 ≤ 64) {lk : Nat → Nat} (j : Nat) : bt (fS W lk) j = true ↔ j < W.1 ∧ lk j = j := by
  rw [fS, bt_mkS, Bool.and_eq_true, Bool.and_eq_true, decide_eq_true_iff, decide_eq_true_iff, decide_eq_true_iff]
  constructor
  · rintro ⟨_, h⟩; exact h
  · rintro h; exact ⟨by omega, h⟩
theorem E_firsts {F P : Nat} (hF : 10000 < F) {D : xDt} {W : Wd} {lk : Nat → Nat} (hn : W.1 ≤ 64) (h0 : D.1 1 0 = nI W.1) (hg : gk W lk) (hl : ∀ w, w < W.1 → D.1 213 w = nI (lk w)) : f_X4_firsts F P xS0 212 1 D = some (fS W lk, D) := by
  rw [e_X4_firsts]
  refine lpu (W := fun n i (v : Int64) => f_X4_firsts_5 F P xS0 n 212 1 v (nI i) D = _) (I := fun i v => ∀ j, j < 64 → (bt v j = true ↔ ∃ w, w < i ∧ lk w = j)) W.1 ?_ ?_ W.1 0 _ F (by omega) (by omega) ?_
  · intro n v h
    rw [e_X4_firsts_5, h0, if_pos (Int32.le_refl _)]
    have : v = fS W lk := bt_ext (fun j hj => b_iff (by
      rw [h j hj, bt_fS hn]
      constructor
      · rintro ⟨w, h1, rfl⟩
        have := hg w h1
        exact ⟨by omega, this.2⟩
      · rintro ⟨h1, h2⟩; exact ⟨j, h1, h2⟩))
    rw [this]
  · intro n i v hi h hk
    have hlk := (hg i hi).1
    rw [e_X4_firsts_5, h0, if_neg (by rw [nI_leI (by omega) (by omega)]; omega), xgrd_in (by omega) (by omega), nI_clamp (by omega), hl i hi]
    simp only [xlet, nI_1]
    refine hk _ (fun j hj => ?_)
    rw [bt_or, Bool.or_eq_true, h j hj, sh1b (by omega), decide_eq_true_iff]
    constructor
    · rintro (⟨u, h1, h2⟩ | rfl)
      · exact ⟨u, by omega, h2⟩
      · exact ⟨i, by omega, rfl⟩
    · rintro ⟨u, h1, h2⟩
      by_cases e : u = i
      · subst e; exact Or.inr h2.symm
      · exact Or.inl ⟨u, by omega, h2⟩
  · intro j _
    rw [bt_0]
    constructor
    · intro c; cases c
    · rintro ⟨u, h, _⟩; omega
/-- the reference, from the set of the first ones on -/
theorem E_c23 {F P : Nat} (hF : 10000 < F) {D : xDt} {W : Wd} {lk : Nat → Nat} (hW : wOK W) (hM : wM (D.1 241 1) (D.1 242) (D.1 243) W) (hg : gk W lk) (hl : ∀ w, w < W.1 → D.1 265 w = nI (lk w)) : f_X12_contract_23 F P xS0 F 241 0 0 D = (if (lg_cmp (fS W lk) (aS W)) = 0 then (some (nI W.1, D)) else ((f_X12_keep F P xS0 241 D).bind fun q2 => f_X12_contract_82 F P xS0 F 241 (fS W lk) 1 q2)) := by
  have hn := hW.1
  refine lpu (W := fun n i (v : Int64) => f_X12_contract_23 F P xS0 n 241 v (nI i) D = _) (I := fun i v => v = mkB (fun w => decide (w < W.1) && decide (lk w = w)) i) W.1 ?_ ?_ W.1 0 _ F (by omega) (by omega) rfl
  · rintro n v rfl
    rw [e_X12_contract_23, hM.1, if_pos (Int32.le_refl _), E_mall hM.1 hn, Option.bind_some, mkB_full hn (fun j hj => by simp; omega)]
    dsimp only
    rw [hM.1]
    rfl
  · rintro n i v hi rfl hk
    have hlk := (hg i hi).1
    rw [e_X12_contract_23, hM.1, if_neg (by rw [nI_leI (by omega) (by omega)]; omega), xgrd_in (by omega) (by omega), nI_clamp (by omega), hl i hi]
    simp only [e_X12_contract_53, xlet]
    rw [nI_1]
    by_cases q : lk i = i
    · rw [if_pos (by rw [q])]
      exact hk _ (by rw [mkB]; simp [hi, q])
    · rw [if_neg (by rw [nI_eq (by omega) (by omega)]; exact q)]
      exact hk _ (by rw [mkB]; simp [q])
theorem E_c82 {F P : Nat} (hF : 10000 < F) {D : xDt} {W : Wd} {lk : Nat → Nat} (hW : wOK W) (hM : wM (D.1 241 1) (D.1 242) (D.1 243) W) (hg : gk W lk) (hs : ∀ w, w < W.1 → lkS W lk w = lk w) (hl : ∀ w, w < W.1 → D.1 265 w = nI (lk w)) : oK (f_X12_contract_82 F P xS0 F 241 (fS W lk) 1 D) (fun r => r.1 = nI (cn (bt (fS W lk)) 64) ∧ ch [241, 242, 243, 254, 255, 256] [] D r.2 ∧ (∀ j, j ≠ 1 → r.2.1 241 j = D.1 241 j) ∧ r.2.1 241 1 = nI (cn (bt (fS W lk)) 64) ∧ (∀ i, i < cn (bt (fS W lk)) 64 → r.2.1 242 i = nI (W.2.1 (fm (fS W lk) i))) ∧ (∀ g, g < 4 → ∀ i, i < cn (bt (fS W lk)) 64 → r.2.1 243 (64 * g + i) = nI (lst (fun u => decide (r2 W lk g (fm (fS W lk) u) = r2 W lk g (fm (fS W lk) i))) (cn (bt (fS W lk)) 64)))) := by
  have hn := hW.1
  refine lpu (W := fun n g (D1 : xDt) => oK (f_X12_contract_82 F P xS0 n 241 (fS W lk) (nI (g + 1)) D1) _) (I := fun g D1 => ch [256] [] D D1 ∧ ∀ g', g' < g → ∀ w, w < W.1 → D1.1 256 (64 * g' + w) = nI (r2 W lk g' w)) 4 ?_ ?_ 4 0 _ F (by omega) (by omega) ⟨ch_rfl _ _ _, fun g' h => absurd h (by omega)⟩
  · rintro n D1 ⟨i1, i2⟩
    rw [e_X12_contract_82, if_pos (by decide)]
    refine lpu (W := fun n c (D2 : xDt) => oK (f_X12_contract_141 F P xS0 n 241 (fS W lk) (nI c) D2) _) (I := fun c D2 => D2 = (upP D1.1 243 0 c tt (D1.1 256), D1.2)) 256 ?_ ?_ 256 0 _ F (by omega) (by omega) (by rw [upP_0])
    · rintro n D2 rfl
      rw [e_X12_contract_141, if_pos (by decide)]
      have hok := r2_ok hW hg hs
      have hM2 : wM (((upP D1.1 243 0 256 tt (D1.1 256), D1.2) : xDt).1 241 1) (((upP D1.1 243 0 256 tt (D1.1 256), D1.2) : xDt).1 242) (((upP D1.1 243 0 256 tt (D1.1 256), D1.2) : xDt).1 243) (W.1, W.2.1, r2 W lk) := by
        refine ⟨?_, fun w hw => ?_, fun g hg4 w hw => ?_⟩
        · dsimp only
          rw [upP_na (by omega), i1.1 241 (by decide)]; exact hM.1
        · dsimp only
          rw [upP_na (by omega), i1.1 242 (by decide)]; exact hM.2.1 w hw
        · dsimp only at hw ⊢
          rw [upP_in0 (by omega) rfl]; exact i2 g hg4 w hw
      refine oK_bind (E_shrink hF hok hM2 (X := fS W lk) (fun j hj => ((bt_fS hn j).mp hj).1)) ?_
      rintro D3 ⟨c1, c2, c3, c4, c5⟩
      dsimp only at c4 c5
      refine oK_some ⟨by dsimp only; exact c3, ?_, fun j hj => ?_, by dsimp only; exact c3, fun i hi => by dsimp only; exact c4 i hi, fun g hg4 i hi => by
        dsimp only
        rw [c5 g hg4 i hi]⟩
      · exact ch_trans (ch_ip (D' := D1) (by simp) (ch_mono i1 (by intro x hx; simp at hx ⊢; omega) (fun _ h => h))) c1
      · dsimp only
        rw [c2 j hj]
        dsimp only
        rw [upP_na (by omega), i1.1 241 (by decide)]
    · rintro n c D2 hc rfl hk
      rw [e_X12_contract_141, k256, if_neg (by rw [nI_leI (by omega) (by omega)]; omega), xgrd_in (by omega) (by omega), xgrd_in (by omega) (by omega), nI_clamp (by omega)]
      simp only [xlet, nI_1]
      refine hk _ ?_
      rw [upP_na (by omega), upP_t0 rfl rfl]
  · rintro n g D1 hg4 ⟨i1, i2⟩ hk
    rw [e_X12_contract_82, k4, if_neg (by rw [nI_ltI (by omega) (by omega)]; omega)]
    refine lpu (W := fun n' w (D2 : xDt) => oK (f_X12_contract_91 F P xS0 (f_X12_contract_82 F P xS0 n) n' 241 (fS W lk) (nI (g + 1)) (nI w) D2) _) (I := fun w D2 => ch [256] [] D D2 ∧ (∀ g', g' < g → ∀ w, w < W.1 → D2.1 256 (64 * g' + w) = nI (r2 W lk g' w)) ∧ ∀ w', w' < w → D2.1 256 (64 * g + w') = nI (r2 W lk g w')) W.1 ?_ ?_ W.1 0 _ F (by omega) (by omega) ⟨i1, i2, fun w' h => absurd h (by omega)⟩
    · rintro n' D2 ⟨j1, j2, j3⟩
      rw [e_X12_contract_91, if_pos (by rw [j1.1 241 (by decide), hM.1]; exact Int32.le_refl _)]
      simp only [xlet]
      rw [nI_1]
      refine hk D2 ⟨j1, fun g' hg' w hw => ?_⟩
      by_cases q : g' = g
      · subst q; exact j3 w hw
      · exact j2 g' (by omega) w hw
    · rintro n' w D2 hw ⟨j1, j2, j3⟩ hk2
      rw [e_X12_contract_91, if_neg (by rw [j1.1 241 (by decide), hM.1, nI_leI (by omega) (by omega)]; omega), E_sorts hF hW (by rw [j1.1 241 (by decide), j1.1 242 (by decide), j1.1 243 (by decide)]; exact hM) hg (fun w hw => by rw [j1.1 265 (by decide)]; exact hl w hw) hg4 hw, Option.bind_some, E_least (by omega), Option.bind_some, nI_s1 (by omega), Nat.add_sub_cancel, k64, nI_mul, nI_add, xgrd_in (by omega) (by omega), nI_clamp (by omega)]
      simp only [xlet]
      rw [nI_1]
      refine hk2 _ ⟨ch_i (by simp) j1, fun g' hg' w' hw' => ?_, fun w' hw' => ?_⟩
      · dsimp only
        rw [xup_nk _ _ _ _ _ (by omega)]; exact j2 g' hg' w' hw'
      · dsimp only
        by_cases q : w' = w
        · subst q; rw [xup_at]; rfl
        · rw [xup_nk _ _ _ _ _ (by omega)]; exact j3 w' (by omega)
theorem M_contract {dA : T → Nat → Int32} {F P : Nat} (hF : 10000 < F) {D : xDt} (h : Iv dA D) : Two dA D (f_X11_contract F P xS0 0) (f_X12_contract F P xS0 241) := by
  obtain ⟨W, L, t, E, sg, tx, a1, a2, a3, a4, a5, a6, a7, a8⟩ := id h
  have hn := a1.1.1
  obtain ⟨lk, hg, hs, hc, hmd⟩ := E_set (F := F) (P := P) hF a1.1 100 (lk0 W) 0 (lk0_g W) (by have := fx_le W (lk0 W); omega) (by omega)
  obtain ⟨D1, e1, c1, c2⟩ := E_start (F := F) (P := P) hF a1.1 a1.2.1
  obtain ⟨D2, e2, d1, d2, d3⟩ := hc D1 F (wC_congr (by rw [c1.1 1 (by decide)]) (c1.2 2 (by simp)) (c1.2 3 (by simp)) a1.2.1) c2 (by omega)
  have k2 : ch [213, 215, 216] [214] D D2 := ch_trans (ch_mono c1 (by intro x hx; simp at hx ⊢; omega) (by intro x hx; simp at hx)) (ch_mono d1 (by intro x hx; simp at hx ⊢; omega) (fun _ h => h))
  obtain ⟨⟨r, D3⟩, e3, q1, q2, q3⟩ := E_choose (F := F) (P := P) hF (D := D2) (fS W lk)
  dsimp only at q1 q2 q3
  subst q1
  have k3 : ch [213, 215, 216, 239] [214] D D3 := ch_trans (ch_mono k2 (by intro x hx; simp at hx ⊢; omega) (fun _ h => h)) (ch_mono q2 (by intro x hx; simp at hx ⊢; omega) (by intro x hx; simp at hx))
  have f3 : fr D D3 := fr_ch (by decide) k3
  have b1 := fr_W f3 a1
  have b2 := fr_K f3 a2
  have b3 := fr_T f3 a3
  have b4 := fr_E f3 a4
  have iv3 : Iv dA D3 := Iv_fr h f3 (by rw [k3.1 0 (by decide)]) (k3.2 0 (by decide))
  generalize hX : fS W lk = X at *
  have hXs : ∀ j, bt X j = true → j < W.1 ∧ lk j = j := fun j hj => (bt_fS hn j).mp (by rw [hX]; exact hj)
  have hXsub : sub X (aS W) := fun j hj => by
    have := (hXs j hj).1
    rw [aS, bt_mkS]; simp [this]; omega
  have hk64 := cn_le (bt X) 64
  have e12 : f_X11_contract F P xS0 0 D = (if (D3.1 1 0) ≤ nI (cn (bt X) 64) then (some (nI (cn (bt X) 64), D3)) else ((f_X11_keptWorlds F P xS0 0 D3).bind fun q4 => xgrd (xkb xS0 q4.1 10) ((f_X10_take F P xS0 1 q4.1 214 239 (nI (cn (bt X) 64)) q4.2).bind fun q6 => some (nI (cn (bt X) 64), q6)))) := by
    rw [e_X11_contract, e_X4_settle, e1, Option.bind_some, show f_X4_settle_7 F P xS0 F 212 1 0 D1 = _ from e2, Option.bind_some, E_firsts hF hn (by rw [k2.1 1 (by decide)]; exact a1.2.1.1) hg d2, Option.bind_some, hX, e3, Option.bind_some]
  -- the reference up to the choice
  have mod : ∀ D4 : xDt, wM (D4.1 241 1) (D4.1 242) (D4.1 243) W → ∃ D6, f_X12_contract F P xS0 241 D4 = (if (lg_cmp X (aS W)) = 0 then (some (nI W.1, D6)) else ((f_X12_keep F P xS0 241 D6).bind fun q2 => f_X12_contract_82 F P xS0 F 241 X 1 q2)) ∧ ch [265, 266] [] D4 D6 ∧ ∀ w, w < W.1 → D6.1 265 w = nI (lk w) := by
    intro D4 hM
    obtain ⟨D5, e5, f1, f2⟩ := E_mbegin (F := F) (P := P) hF a1.1 hM
    obtain ⟨D6, e6, g1, g2⟩ := hmd D5 F (by rw [f1.1 241 (by decide), f1.1 242 (by decide), f1.1 243 (by decide)]; exact hM) f2 (by omega)
    refine ⟨D6, ?_, ch_trans (ch_mono f1 (by intro x hx; simp at hx ⊢; omega) (fun _ h => h)) g1, g2⟩
    rw [e_X12_contract, e5, Option.bind_some, show f_X12_contract_6 F P xS0 F 241 1 D5 = _ from e6, E_c23 hF a1.1 (by rw [g1.1 241 (by decide), g1.1 242 (by decide), g1.1 243 (by decide), f1.1 241 (by decide), f1.1 242 (by decide), f1.1 243 (by decide)]; exact hM) hg g2, hX]
  by_cases hall : X = aS W
  · obtain ⟨D6, m1, m2, m3⟩ := mod D3 b1.2.2
    refine ⟨nI W.1, D3, D6, ?_, ?_, Iv_fr iv3 (fr_ch (by decide) m2) (by rw [m2.1 0 (by decide)]) (m2.2 0 (by simp))⟩
    · rw [e12, b1.2.1.1, hall, cn_aS hn, if_pos (Int32.le_refl _)]
    · rw [m1, if_pos (by rw [cmp0]; exact hall)]
  have hlt : cn (bt X) 64 < W.1 := by
    have := cn_grow hXsub hall
    rw [cn_aS hn] at this; exact this
  obtain ⟨hL, p, hp, p1, p2, p3, p4⟩ := id b2
  obtain ⟨D4', D4, u1, u2, u3, u4, u5, u6, u7, u8, u9, u10, u11, u12, u13, u14⟩ := E_ktake (F := F) (P := P) hF (D := D3) (n := cn (bt X) 64) (rc := 214) (v3 := 239) (fr_ := fm X) hp hL p1 p2 hk64 (by omega) (by decide +kernel) (fun w hw => ⟨q3 w hw, (fm_p hw).1⟩) (Or.inr rfl)
  have e1' : f_X11_contract F P xS0 0 D = some (nI (cn (bt X) 64), D4) := by
    rw [e12, b1.2.1.1, if_neg (by rw [nI_leI (by omega) (by omega)]; omega), u1, Option.bind_some, u2, xgrd_t, u3, Option.bind_some]
  have m1 : ∀ x, 42 ≤ x → D4.1 x = D3.1 x := fun x hx => u4.1 x (by simp; omega)
  have hM4 : wM (D4.1 241 1) (D4.1 242) (D4.1 243) W := by
    rw [m1 241 (by omega), m1 242 (by omega), m1 243 (by omega)]; exact b1.2.2
  obtain ⟨D6, n1, n2, n3⟩ := mod D4 hM4
  obtain ⟨D7, k1', k2', k3', k4', k5', k6'⟩ := E_mkeep (F := F) (P := P) hF (D := D6) hL (by rw [n2.1 241 (by decide), m1 241 (by omega)]; exact p3)
  have hM7 : wM (D7.1 241 1) (D7.1 242) (D7.1 243) W := by
    rw [k3' 1 (by omega), k2'.1 242 (by decide), k2'.1 243 (by decide), n2.1 241 (by decide), n2.1 242 (by decide), n2.1 243 (by decide)]; exact hM4
  obtain ⟨⟨r, D8⟩, l1, l2, l3, l4, l5, l6, l7⟩ := E_c82 (F := F) (P := P) hF (D := D7) a1.1 hM7 hg hs (fun w hw => by rw [k2'.1 265 (by decide)]; exact n3 w hw)
  rw [hX] at l1 l2 l5 l6 l7
  dsimp only at l2 l3 l4 l5 l6 l7
  subst l2
  have e2' : f_X12_contract F P xS0 241 D4 = some (nI (cn (bt X) 64), D8) := by
    rw [n1, if_neg (by rw [cmp0]; exact hall), k1', Option.bind_some, l1]
  have low : ∀ x, x < 241 → D8.1 x = D4.1 x := fun x hx => by rw [l3.1 x (by simp; omega), k2'.1 x (by simp; omega), n2.1 x (by simp; omega)]
  have lowL : ∀ x, D8.2 x = D4.2 x := fun x => by rw [l3.2 x (by simp), k2'.2 x (by simp), n2.2 x (by simp)]
  have hA : ∀ w, w < cn (bt X) 64 → W.2.1 (fm X w) < 256 := fun w hw => a1.1.2.1 _ (hXs _ (fm_p hw).2.1).1
  have i6 : ∀ x, x ≠ 265 → x ≠ 266 → D6.1 x = D4.1 x := fun x h1 h2 => n2.1 x (by simp; omega)
  have s214 : ∀ g, g < 4 → ∀ w, w < W.1 → D3.2 214 (g * 64 + w) = sN W lk g w := fun g hg4 w hw => by rw [q2.2 214 (by simp)]; exact d3 g hg4 w hw
  refine ⟨_, D4, D8, e1', e2', Iv_step (D := D3) (W' := wTk (cn (bt X) 64) (fun i => W.2.1 (fm X i)) (fun g i => r2 W lk g (fm X i))) ?_ b3 b4 (fr_S f3 a5) (fr_X f3 a6) (fr_D f3 a8) ⟨wTk_ok hk64 hA, ?_, ⟨l5, l6, l7⟩⟩ (iK_keep (D := D3) (D1 := D4) b1 hp hL p4 ?_ ?_ u9 u10 u11 ?_ ?_ ?_ ?_ ?_ ?_) ?_⟩
  · refine ⟨fun x hx => ?_, fun x hx hx2 j _ => ?_, ?_, fun j hj => ?_, ?_, ?_⟩
    · unfold rd2 at hx
      by_cases c : x < 241
      · rw [low x c, m1 x (by omega)]
      · rw [l3.1 x (by simp; omega), k2'.1 x (by simp; omega), i6 x (by omega) (by omega), m1 x (by omega)]
    · rw [l3.1 x (by simp; omega), k2'.1 x (by simp; omega), i6 x (by omega) (by omega), m1 x (by omega)]
    · rw [low 0 (by omega), u5 14 (by omega)]
    · rw [l4 j (by omega), k3' j (by omega), i6 241 (by omega) (by omega), m1 241 (by omega)]
    · rw [low 192 (by omega), m1 192 (by omega)]
    · rw [low 204 (by omega), m1 204 (by omega)]
  · refine wTk_C hk64 (by rw [low 1 (by omega)]; exact u12) (fun k hk w hw => ?_) (fun g hg4 w hw u hu => ?_)
    · rw [lowL, u13 k hk, bt_mkS]
      have hw64 : w < 64 := by omega
      simp only [hw64, hw, decide_true, Bool.true_and]
      exact b1.2.1.2.1 k hk _ (hXs _ (fm_p hw).2.1).1
    · rw [lowL, u14 g hg4 w hw, bt_mkS, if_pos rfl, s214 g hg4 _ (hXs _ (fm_p hw).2.1).1]
      simp only [hu, decide_true, Bool.true_and, Bool.and_eq_true, decide_eq_true_iff]
      constructor
      · rintro ⟨z1, z2⟩
        exact ⟨z1, (r2_eq a1.1 hg hs hg4 (hXs _ (fm_p z1).2.1).1 (hXs _ (fm_p hw).2.1).1 (hXs _ (fm_p z1).2.1).2).mp z2⟩
      · rintro ⟨z1, z2⟩
        exact ⟨z1, (r2_eq a1.1 hg hs hg4 (hXs _ (fm_p z1).2.1).1 (hXs _ (fm_p hw).2.1).1 (hXs _ (fm_p z1).2.1).2).mpr z2⟩
  · intro x h1 h2 h3
    exact u4.1 x (by simp; omega)
  · intro x h1 h2 h3 h4
    exact u4.2 x (by simp; omega)
  · intro x h1 h2
    exact ⟨low x (by omega), lowL x⟩
  · rw [low 4 (by omega)]; exact u7
  · rw [low 4 (by omega)]; exact u8
  · rw [l4 7 (by omega)]; exact k4'
  · obtain ⟨s1, s2, s3⟩ := k5'
    refine ⟨?_, fun w hw => ?_, fun c hc => ?_⟩
    · rw [l3.1 244 (by decide), s1, i6 241 (by omega) (by omega), m1 241 (by omega)]
    · rw [l3.1 245 (by decide), s2 w hw, i6 242 (by omega) (by omega), m1 242 (by omega)]
    · rw [l3.1 246 (by decide), s3 c hc, i6 243 (by omega) (by omega), m1 243 (by omega)]
  · intro i hi
    obtain ⟨s1, s2, s3⟩ := k6' i hi
    refine ⟨?_, fun w hw => ?_, fun c hc => ?_⟩
    · rw [l3.1 244 (by decide), s1, i6 244 (by omega) (by omega), m1 244 (by omega)]
    · rw [l3.1 245 (by decide), s2 w hw, i6 245 (by omega) (by omega), m1 245 (by omega)]
    · rw [l3.1 246 (by decide), s3 c hc, i6 246 (by omega) (by omega), m1 246 (by omega)]
  · rw [low 0 (by omega)]; exact u6
