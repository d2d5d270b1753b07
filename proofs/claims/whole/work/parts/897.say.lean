/-! a step: the worlds become others, the old ones are kept -/
def rd2 (x : Nat) : Prop := x = 42 ∨ x = 44 ∨ (48 ≤ x ∧ x < 192) ∨ x = 193 ∨ x = 202 ∨ x = 203 ∨ x = 205 ∨ x = 223 ∨ x = 252 ∨ x = 253 ∨ (257 ≤ x ∧ x ≤ 259)
def fk (D D2 : xDt) : Prop := (∀ x, rd2 x → D2.1 x = D.1 x) ∧ (∀ x, 247 ≤ x → x ≤ 251 → ∀ j, j < 12800 → D2.1 x j = D.1 x j) ∧ D2.1 0 14 = D.1 0 14 ∧ (∀ j, j = 14 ∨ j = 16 ∨ j = 21 ∨ j = 25 → D2.1 241 j = D.1 241 j) ∧ D2.1 192 1 = D.1 192 1 ∧ D2.1 204 1 = D.1 204 1
theorem fk_trans {D D' D'' : xDt} (h : fk D D') (h' : fk D' D'') : fk D D'' := ⟨fun x hx => (h'.1 x hx).trans (h.1 x hx), fun x hx hx2 j hj => (h'.2.1 x hx hx2 j hj).trans (h.2.1 x hx hx2 j hj), h'.2.2.1.trans h.2.2.1, fun j hj => (h'.2.2.2.1 j hj).trans (h.2.2.2.1 j hj), h'.2.2.2.2.1.trans h.2.2.2.2.1, h'.2.2.2.2.2.trans h.2.2.2.2.2⟩
theorem fr_fk {D D' : xDt} (h : fr D D') : fk D D' := ⟨fun x hx => h.1 x (by unfold rd2 at hx; unfold rd; omega), h.2.1, h.2.2.1, fun j hj => h.2.2.2.1 j (by omega), h.2.2.2.2.1, h.2.2.2.2.2.1⟩
theorem fk_T {D D2 : xDt} {t : T} (h : fk D D2) (a : iT D t) : iT D2 t := by
  obtain ⟨f1, f2, f3, f4, f5, f6⟩ := h
  exact iT_congr (by rw [f1 202 (by unfold rd2; omega)]) (f1 203 (by unfold rd2; omega)) (f4 14 (by omega)) (fun x hx hx2 j hj => f2 x hx hx2 j (by omega)) a
theorem fk_E {D D2 : xDt} {E : Ev} (h : fk D D2) (a : iE D E) : iE D2 E := by
  obtain ⟨f1, f2, f3, f4, f5, f6⟩ := h
  exact iE_congr (by rw [f1 42 (by unfold rd2; omega)]) (f4 25 (by omega)) (fun x hx => f1 x (by unfold rd2; omega)) (fun x hx hx2 j _ hj => f2 x hx hx2 j hj) a
theorem fk_S {D D2 : xDt} {sg : List Nat} (h : fk D D2) (a : iS D sg) : iS D2 sg := by
  obtain ⟨f1, f2, f3, f4, f5, f6⟩ := h
  exact iS_congr f5 (f1 193 (by unfold rd2; omega)) (f4 16 (by omega)) (f1 252 (by unfold rd2; omega)) a
theorem fk_X {D D2 : xDt} {tx : List Nat} (h : fk D D2) (a : iX D tx) : iX D2 tx := by
  obtain ⟨f1, f2, f3, f4, f5, f6⟩ := h
  exact iX_congr f6 (f1 205 (by unfold rd2; omega)) (f4 21 (by omega)) (f1 253 (by unfold rd2; omega)) a
theorem fk_D {dA : T → Nat → Int32} {D D2 : xDt} {t : T} (h : fk D D2) (a : iD dA D t) : iD dA D2 t := iD_congr h.2.2.1 (h.1 223 (by unfold rd2; omega)) a
theorem Iv_step {dA : T → Nat → Int32} {D D2 : xDt} {W' : Wd} {L' : List Wd} {t : T} {E : Ev} {sg tx : List Nat} (h : fk D D2) (a3 : iT D t) (a4 : iE D E) (a5 : iS D sg) (a6 : iX D tx) (a8 : iD dA D t) (hW : iW D2 W') (hK : iK D2 L') (h0 : D2.1 0 13 = 0) : Iv dA D2 := ⟨W', L', t, E, sg, tx, hW, hK, fk_T h a3, fk_E h a4, fk_S h a5, fk_X h a6, Or.inl h0, fk_D h a8⟩
/-- the class: worlds kept, then some of them, or copies of them, taken -/
theorem E_ktake {F P : Nat} (hF : 10000 < F) {D : xDt} {p k n rc v3 : Nat} {fr_ : Nat → Nat} (hp : p < 12) (hk : k ≤ 12) (h1 : D.1 4 1 = nI p) (h2 : D.1 4 2 = nI k) (hn2 : n ≤ 64) (hv1 : v3 ≠ 0 ∧ v3 ≠ 1 ∧ v3 ≠ 4 ∧ 42 ≤ v3) (hl : xl xS0 v3 = 64) (hv : ∀ w, w < n → D.1 v3 w = nI (fr_ w) ∧ fr_ w < 64) (hrc : rc = 8 + 3 * p ∨ rc = 214) : ∃ D3 D4, f_X11_keptWorlds F P xS0 0 D = some (6 + 3 * p, D3) ∧ xkb xS0 (6 + 3 * p) 10 = true ∧ f_X10_take F P xS0 1 (6 + 3 * p) rc v3 (nI n) D3 = some D4 ∧ ch [0, 1, 4, 6 + 3 * p] [2, 3, 7 + 3 * p, 8 + 3 * p] D D4 ∧ (∀ j, j ≠ 13 → D4.1 0 j = D.1 0 j) ∧ D4.1 0 13 = 0 ∧ D4.1 4 1 = nI ((p + 1) % 12) ∧ D4.1 4 2 = nI (min (k + 1) 12) ∧ D4.1 (6 + 3 * p) 0 = D.1 1 0 ∧ (∀ j, j < 8 → D4.2 (7 + 3 * p) j = D.2 2 j) ∧ (∀ j, j < 256 → D4.2 (8 + 3 * p) j = D.2 3 j) ∧ D4.1 1 0 = nI n ∧ (∀ j, j < 8 → D4.2 2 j = mkS (fun w => decide (w < n) && bt (D.2 2 j) (fr_ w))) ∧ (∀ g, g < 4 → ∀ w, w < n → D4.2 3 (g * 64 + w) = mkS (fun u => decide (u < n) && bt (if rc = 214 then D.2 214 (g * 64 + fr_ w) else D.2 3 (g * 64 + fr_ w)) (fr_ u))) := by
  obtain ⟨D3, e3, c1, c2, c3, c4, c5, c6, c7, c8⟩ := E_kept (F := F) (P := P) hp hk h1 h2
  have ho := rg_o p hp
  have hlr : xl xS0 rc = 256 := by
    rcases hrc with rfl | rfl
    · exact ho.2.2.2
    · decide +kernel
  obtain ⟨D4, e4, d1, d2, d3, d4⟩ := E_take (F := F) (P := P) hF (D := D3) (o := 6 + 3 * p) (to_ := 7 + 3 * p) (rc := rc) (v3 := v3) (n := n) (fr_ := fr_) ho.1 ho.2.2.1 (by omega) (by omega) hlr (by omega) hl hn2 (fun w hw => by rw [c1.1 v3 (by simp; omega)]; exact hv w hw)
  refine ⟨D3, D4, e3, rg_k p hp, e4, ch_trans (ch_mono c1 (by intro x hx; simp at hx ⊢; omega) (by intro x hx; simp at hx ⊢; omega)) (ch_mono d1 (by intro x hx; simp at hx ⊢; omega) (by intro x hx; simp at hx ⊢; omega)), ?_, ?_, ?_, ?_, ?_, ?_, ?_, d2, ?_, ?_⟩
  · intro j hj
    rw [d1.1 0 (by simp)]; exact c2 j hj
  · rw [d1.1 0 (by simp)]; exact c3
  · rw [d1.1 4 (by simp)]; exact c4
  · rw [d1.1 4 (by simp)]; exact c5
  · rw [d1.1 _ (by simp; omega)]; exact c6
  · intro j hj
    rw [d1.2 _ (by simp; omega)]; exact c7 j hj
  · intro j hj
    rw [d1.2 _ (by simp; omega)]; exact c8 j hj
  · intro j hj
    rw [d3 j hj]
    apply mkS_congr
    intro w _
    rw [c7 j hj]
  · intro g hg w hw
    rw [d4 g hg w hw]
    apply mkS_congr
    intro u _
    have hf := (hv w hw).2
    rcases hrc with rfl | rfl
    · rw [if_neg (by omega), c8 _ (by omega)]
    · rw [if_pos rfl, c1.2 214 (by simp; omega)]
theorem cn_aS {W : Wd} (hn : W.1 ≤ 64) : cn (bt (aS W)) 64 = W.1 := by
  rw [cn_congr (q := fun j => decide (j < W.1)) (fun j hj => by rw [aS, bt_mkS]; simp [hj]), cn_lt, Nat.min_eq_left hn]
theorem cn_0 {X : Int64} (h : cn (bt X) 64 = 0) : X = 0 := by
  rw [z_iff]
  intro j hj
  cases hb : bt X j
  · rfl
  · have := cn_lt2 hb (k := 64) hj
    omega
theorem M_say {dA : T → Nat → Int32} {F P : Nat} (hF : 10000 < F) (hP : 2005 < P) {D : xDt} (h : Iv dA D) : Two dA D (f_X11_say F P xS0 0) (f_X12_say F P xS0 241) := by
  obtain ⟨W, L, t, E, sg, tx, a1, a2, a3, a4, a5, a6, a7, a8⟩ := id h
  have hn := a1.1.1
  obtain ⟨D1, e1, g1, j1, x1, x2, x3⟩ := E_truths (P := P) hF a1 a3 a7
  generalize hX : ev W t (aS W) = X at e1
  have hXs : ∀ j, bt X j = true → j < W.1 := fun j hj => aS_lt (ev_sub hn t (aS W) j (by rw [hX]; exact hj))
  have hXsub : sub X (aS W) := fun j hj => by rw [← hX] at hj; exact ev_sub hn t (aS W) j hj
  obtain ⟨⟨r, D2⟩, e2, q1, q2, q3⟩ := E_choose (F := F) (P := P) hF (D := D1) X
  dsimp only at q1 q2 q3
  subst q1
  have g2 : fr D D2 := fr_trans g1 (fr_ch (by decide) q2)
  have b1 := fr_W g2 a1
  have b2 := fr_K g2 a2
  have b3 := fr_T g2 a3
  have hk64 := cn_le (bt X) 64
  have e12 : f_X11_say F P xS0 0 D = (if nI (cn (bt X) 64) ≤ 0 then (some (nI (cn (bt X) 64), D2)) else (if (D2.1 1 0) ≤ nI (cn (bt X) 64) then (some (nI (cn (bt X) 64), D2)) else ((f_X11_keptWorlds F P xS0 0 D2).bind fun q3 => xgrd (xkb xS0 q3.1 10) ((f_X10_take F P xS0 1 q3.1 (xr xS0 q3.1 2) 239 (nI (cn (bt X) 64)) q3.2).bind fun q5 => some (nI (cn (bt X) 64), q5))))) := by
    rw [e_X11_say, e1, Option.bind_some, e2, Option.bind_some]
  have mw : ∀ D', iW D' W → iT D' t → f_X12_say F P xS0 241 D' = (if (lg_cmp X 0) = 0 then (some (0, D')) else (if (lg_cmp X (aS W)) = 0 then (some (nI W.1, D')) else ((f_X12_keep F P xS0 241 D').bind fun q4 => (f_X12_shrink F P xS0 241 X q4).bind fun q5 => some (q5.1 241 1, q5)))) := by
    intro D' w1 w3
    rw [e_X12_say, E_mall w1.2.2.1 hn, Option.bind_some, show f_X12_where F P xS0 P 241 (D'.1 241 14) (mkS fun j => decide (j < W.1)) D' = _ from E_mtruth hF hP w1 w3, Option.bind_some, hX, E_mall w1.2.2.1 hn, Option.bind_some, w1.2.2.1]
    rfl
  have iv2 : Iv dA D2 := by
    refine ⟨W, L, t, E, sg, tx, b1, b2, b3, fr_E g2 a4, fr_S g2 a5, fr_X g2 a6, ?_, fr_D g2 a8⟩
    exact iJ_congr (congrFun (q2.1 0 (by decide)) 13) (q2.2 0 (by simp)) j1
  by_cases h0 : cn (bt X) 64 = 0
  · have hX0 := cn_0 h0
    refine ⟨0, D2, D2, ?_, ?_, iv2⟩
    · rw [e12, h0, if_pos (by decide)]; rfl
    · rw [mw D2 b1 b3, if_pos (by rw [cmp0]; exact hX0)]
  have hXne : ¬ X = 0 := fun c => h0 (by rw [c, cn_congr (q := fun _ => false) (fun j _ => bt_0 j), cn_false])
  by_cases hall : X = aS W
  · refine ⟨nI W.1, D2, D2, ?_, ?_, iv2⟩
    · rw [e12, if_neg (nI_nle (by omega) (by omega)), b1.2.1.1, hall, cn_aS hn, if_pos (Int32.le_refl _)]
    · rw [mw D2 b1 b3, if_neg (by rw [cmp0]; exact hXne), if_pos (by rw [cmp0]; exact hall)]
  have hlt : cn (bt X) 64 < W.1 := by
    have := cn_grow hXsub hall
    rw [cn_aS hn] at this; exact this
  obtain ⟨hL, p, hp, p1, p2, p3, p4⟩ := id b2
  obtain ⟨D3, D4, u1, u2, u3, u4, u5, u6, u7, u8, u9, u10, u11, u12, u13, u14⟩ := E_ktake (F := F) (P := P) hF (D := D2) (n := cn (bt X) 64) (rc := 8 + 3 * p) (v3 := 239) (fr_ := fm X) hp hL p1 p2 hk64 (by omega) (by decide +kernel) (fun w hw => ⟨q3 w hw, (fm_p hw).1⟩) (Or.inl rfl)
  have ho := rg_o p hp
  have e1' : f_X11_say F P xS0 0 D = some (nI (cn (bt X) 64), D4) := by
    rw [e12, if_neg (nI_nle (by omega) (by omega)), b1.2.1.1, if_neg (by rw [nI_leI (by omega) (by omega)]; omega), u1, Option.bind_some, u2, xgrd_t, ho.2.1, u3, Option.bind_some]
  -- the reference
  have m1 : ∀ x, 42 ≤ x → D4.1 x = D2.1 x := fun x hx => u4.1 x (by simp; omega)
  have w4 : iW D4 W → True := fun _ => trivial
  have hM4 : wM (D4.1 241 1) (D4.1 242) (D4.1 243) W := by
    rw [m1 241 (by omega), m1 242 (by omega), m1 243 (by omega)]; exact b1.2.2
  have say4 : f_X12_say F P xS0 241 D4 = ((f_X12_keep F P xS0 241 D4).bind fun q4 => (f_X12_shrink F P xS0 241 X q4).bind fun q5 => some (q5.1 241 1, q5)) := by
    obtain ⟨c1, c2, c3, c4, i, c5, c6, c7⟩ := id b3
    have hw := E_mwhere (F := F) (P := P) (by omega) a1.1 hM4 t i P (aS W) c1 (nd_congr (fun x hx hx2 j _ _ => by rw [m1 x (by omega)]) c7) (by omega) (fun j => aS_lt)
    rw [hX] at hw
    rw [e_X12_say, E_mall hM4.1 hn, Option.bind_some]
    dsimp only
    rw [show D4.1 241 14 = nI i by rw [m1 241 (by omega)]; exact c6, show f_X12_where F P xS0 P 241 (nI i) (mkS fun j => decide (j < W.1)) D4 = _ from hw, Option.bind_some, if_neg (show ¬ lg_cmp X 0 = 0 from by rw [cmp0]; exact hXne), E_mall hM4.1 hn, Option.bind_some, if_neg (show ¬ lg_cmp X (mkS fun j => decide (j < W.1)) = 0 from by rw [cmp0]; exact hall)]
  obtain ⟨D5, k1, k2, k3, k4, k5, k6⟩ := E_mkeep (F := F) (P := P) hF (D := D4) hL (by rw [m1 241 (by omega)]; exact p3)
  have hM5 : wM (D5.1 241 1) (D5.1 242) (D5.1 243) W := by
    rw [k3 1 (by omega), k2.1 242 (by decide), k2.1 243 (by decide)]; exact hM4
  obtain ⟨D6, l1, l2, l3, l4, l5, l6⟩ := E_shrink (F := F) (P := P) hF a1.1 hM5 hXs
  have e2' : f_X12_say F P xS0 241 D4 = some (nI (cn (bt X) 64), D6) := by
    rw [say4, k1, Option.bind_some, l1, Option.bind_some, l4]
  have low : ∀ x, x < 241 → D6.1 x = D4.1 x := fun x hx => by rw [l2.1 x (by simp; omega), k2.1 x (by simp; omega)]
  have lowL : ∀ x, D6.2 x = D4.2 x := fun x => by rw [l2.2 x (by simp), k2.2 x (by simp)]
  have hA : ∀ w, w < cn (bt X) 64 → W.2.1 (fm X w) < 256 := fun w hw => a1.1.2.1 _ (hXs _ (fm_p hw).2.1)
  refine ⟨_, D4, D6, e1', e2', Iv_step (D := D2) (W' := wTk (cn (bt X) 64) (fun i => W.2.1 (fm X i)) (fun g i => W.2.2 g (fm X i))) ?_ b3 (fr_E g2 a4) (fr_S g2 a5) (fr_X g2 a6) (fr_D g2 a8) ⟨wTk_ok hk64 hA, ?_, ?_⟩ (iK_keep (D := D2) (D1 := D4) b1 hp hL p4 ?_ ?_ u9 u10 u11 ?_ ?_ ?_ ?_ ?_ ?_) ?_⟩
  · refine ⟨fun x hx => ?_, fun x hx hx2 j _ => ?_, ?_, fun j hj => ?_, ?_, ?_⟩
    · unfold rd2 at hx
      by_cases c : x < 241
      · rw [low x c, m1 x (by omega)]
      · rw [l2.1 x (by simp; omega), k2.1 x (by simp; omega), m1 x (by omega)]
    · rw [l2.1 x (by simp; omega), k2.1 x (by simp; omega), m1 x (by omega)]
    · rw [low 0 (by omega), u5 14 (by omega)]
    · rw [l3 j (by omega), k3 j (by omega), m1 241 (by omega)]
    · rw [low 192 (by omega), m1 192 (by omega)]
    · rw [low 204 (by omega), m1 204 (by omega)]
  · refine wTk_C hk64 (by rw [low 1 (by omega)]; exact u12) (fun k hk w hw => ?_) (fun g hg w hw u hu => ?_)
    · rw [lowL, u13 k hk, bt_mkS]
      have hw64 : w < 64 := by omega
      simp only [hw64, hw, decide_true, Bool.true_and]
      exact b1.2.1.2.1 k hk _ (hXs _ (fm_p hw).2.1)
    · rw [lowL, u14 g hg w hw, bt_mkS, if_neg (by omega), b1.2.1.2.2 g hg _ (hXs _ (fm_p hw).2.1), bt_cs _ hn]
      simp only [hu, decide_true, Bool.true_and, Bool.and_eq_true, decide_eq_true_iff]
      constructor
      · rintro ⟨c1, c2, c3⟩; exact ⟨c1, c3⟩
      · rintro ⟨c1, c2⟩; exact ⟨c1, hXs _ (fm_p c1).2.1, c2⟩
  · exact ⟨l4, l5, l6⟩
  · intro x h1 h2 h3
    exact u4.1 x (by simp; omega)
  · intro x h1 h2 h3 h4
    exact u4.2 x (by simp; omega)
  · intro x h1 h2
    exact ⟨low x (by omega), lowL x⟩
  · rw [low 4 (by omega)]; exact u7
  · rw [low 4 (by omega)]; exact u8
  · rw [l3 7 (by omega)]; exact k4
  · obtain ⟨s1, s2, s3⟩ := k5
    rw [m1 241 (by omega), m1 242 (by omega), m1 243 (by omega)] at *
    exact ⟨by rw [l2.1 244 (by decide)]; exact s1, fun w hw => by rw [l2.1 245 (by decide)]; exact s2 w hw, fun c hc => by rw [l2.1 246 (by decide)]; exact s3 c hc⟩
  · intro i hi
    obtain ⟨s1, s2, s3⟩ := k6 i hi
    rw [m1 244 (by omega)] at s1
    refine ⟨by rw [l2.1 244 (by decide)]; exact s1, fun w hw => ?_, fun c hc => ?_⟩
    · rw [l2.1 245 (by decide), s2 w hw, m1 245 (by omega)]
    · rw [l2.1 246 (by decide), s3 c hc, m1 246 (by omega)]
  · rw [low 0 (by omega)]; exact u6
