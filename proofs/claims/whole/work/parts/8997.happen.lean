/-! happen -/
theorem pa_lt (W : Wd) (E : Ev) (u : Nat) : pa W E u < 256 := bm_lt _ 8
theorem M_happen {dA : T → Nat → Int32} {F P : Nat} (hF : 10000 < F) (hP : 2005 < P) {D : xDt} (h : Iv dA D) : Two dA D (f_X11_happen F P xS0 0) (f_X12_happen F P xS0 241) := by
  obtain ⟨W, L, t, E, sg, tx, a1, a2, a3, a4, a5, a6, a7, a8⟩ := id h
  have hn := a1.1.1
  have g0 := a4.1
  obtain ⟨⟨r, D1⟩, e1, q1, q2, q3⟩ := E_pair (F := F) (P := P) hF a1 a4
  dsimp only at q1 q2 q3
  subst q1
  have f1 : fr D D1 := fr_ch (by decide) q2
  have b1 := fr_W f1 a1
  have b2 := fr_K f1 a2
  have b3 := fr_T f1 a3
  have b4 := fr_E f1 a4
  have iv1 : Iv dA D1 := Iv_fr h f1 (by rw [q2.1 0 (by decide)]) (q2.2 0 (by decide))
  have h512 := cn_le (pp W E) 512
  generalize hN : cn (pp W E) 512 = N at *
  have e12 : f_X11_happen F P xS0 0 D = (if nI N ≤ 64 then (if nI N ≤ 0 then (some (nI N, D1)) else ((f_X11_keptWorlds F P xS0 0 D1).bind fun q2 => xgrd (xkb xS0 q2.1 10) ((f_X10_take F P xS0 1 q2.1 (xr xS0 q2.1 2) 46 (nI N) q2.2).bind fun q4 => (f_X1_narrowCells F P xS0 42 1 q4).bind fun q5 => (f_X1_changeAtoms F P xS0 42 1 q2.1 207 q5).bind fun q6 => some (nI N, q6)))) else (some ((-3), D1))) := by
    rw [e_X11_happen, e1, Option.bind_some]
  by_cases h64 : N ≤ 64
  rotate_left
  · obtain ⟨D6, m1, m2, m3, m4⟩ := E_mh1 (F := F) (P := P) hF hP b1.1 b1.2.2 b4
    rw [hN] at m1
    refine ⟨-3, D1, D6, ?_, ?_, Iv_fr iv1 (fr_ch (by decide) m2) (by rw [m2.1 0 (by simp)]) (m2.2 0 (by decide))⟩
    · rw [e12, if_neg (show ¬ nI N ≤ 64 from fun c => h64 ((nI_leI (b := 64) (by omega) (by omega)).mp c))]
    · rw [m1, if_neg (nI_ne0 (by omega) (by omega)), if_neg (show ¬ nI N ≤ 64 from fun c => h64 ((nI_leI (b := 64) (by omega) (by omega)).mp c))]
      unfold f_X12_happen_126
      rw [if_neg (nI_ne0 (by omega) (by omega))]
  have hle : nI N ≤ 64 := (nI_leI (b := 64) (by omega) (by omega)).mpr h64
  by_cases h0 : N = 0
  · obtain ⟨D6, m1, m2, m3, m4⟩ := E_mh1 (F := F) (P := P) hF hP b1.1 b1.2.2 b4
    rw [hN] at m1
    refine ⟨0, D1, D6, ?_, ?_, Iv_fr iv1 (fr_ch (by decide) m2) (by rw [m2.1 0 (by simp)]) (m2.2 0 (by decide))⟩
    · rw [e12, if_pos hle, h0, if_pos (by decide)]; rfl
    · rw [m1, h0, if_pos (show nI 0 = 0 from rfl)]; rfl
  -- the pairs
  have hpr : ∀ i, i < N → pr W E i / 8 < W.1 ∧ pr W E i % 8 < E.1 := fun i hi => by
    have := pr_p (W := W) (E := E) (i := i) (by rw [hN]; exact hi)
    exact ⟨nE_lt hn this.2.2.1, this.2.1⟩
  obtain ⟨hL, p, hp, p1, p2, p3, p4⟩ := id b2
  obtain ⟨D2, K, u1, u2, u3, u4, u5, u6, u7, u8, u9, u10, u11, u12, u13, u14⟩ := E_ktake (F := F) (P := P) hF (D := D1) (n := N) (rc := 8 + 3 * p) (v3 := 46) (fr_ := fun i => pr W E i / 8) hp hL p1 p2 h64 (by omega) (by decide +kernel) (fun w hw => ⟨(q3 w hw (by omega)).1, by have := (hpr w hw).1; omega⟩) (Or.inl rfl)
  have ho := rg_o p hp
  have mK : ∀ x, 42 ≤ x → K.1 x = D1.1 x := fun x hx => u4.1 x (by simp; omega)
  obtain ⟨c0, c1, c2, c3, c4, c5⟩ := id b4
  obtain ⟨Nn, v1, v2, v3, v4⟩ := E_narrow (F := F) (P := P) hF (D := K) (n := N) (ee := fun i => pr W E i % 8) (mk := fun g e => bm (fun f => decide (f < E.1) && decide (E.2.2.2 g f = E.2.2.2 g e)) 8) u12 h64 (fun i hi => ⟨by rw [mK 47 (by omega)]; exact (q3 i hi (by omega)).2, by have := (hpr i hi).2; omega⟩) (fun g hg i hi => ⟨by rw [mK 44 (by omega)]; exact (c5 g hg _ (hpr i hi).2).2.2.2, bm_lt _ 8⟩)
  have hCN : wC Nn (6 + 3 * p) (7 + 3 * p) (8 + 3 * p) W := wC_copy (D := D1) hn (by rw [v2]; exact u9) (fun j hj => by rw [v3 _ (by omega)]; exact u10 j hj) (fun j hj => by rw [v3 _ (by omega)]; exact u11 j hj) b1.2.1
  have hEN : iE Nn E := iE_congr (by rw [v2, mK 42 (by omega)]) (by rw [v2, mK 241 (by omega)]) (fun x hx => by rw [v2, mK x (by omega)]) (fun x hx hx2 j _ _ => by rw [v2, mK x (by omega)]) b4
  obtain ⟨C, w1, w2, w3⟩ := E_chAtoms (F := F) (P := P) hF (D := Nn) (W := W) (E := E) (n := N) (p := p) (ee := fun i => pr W E i % 8) (ww := fun i => pr W E i / 8) hp b1.1 hCN hEN h64 (by rw [v2]; exact u12) (fun i hi => ⟨by rw [v2, mK 47 (by omega)]; exact (q3 i hi (by omega)).2, (hpr i hi).2⟩) (fun i hi => ⟨by rw [v2, mK 46 (by omega)]; exact (q3 i hi (by omega)).1, (hpr i hi).1⟩) (fun k hk x hx => by
    have hx64 : x < 64 := by omega
    rw [v3 2 (by omega), u13 k hk, bt_mkS]
    simp only [hx64, hx, decide_true, Bool.true_and]
    exact b1.2.1.2.1 k hk _ (hpr x hx).1)
  have e1' : f_X11_happen F P xS0 0 D = some (nI N, C) := by
    rw [e12, if_pos hle, if_neg (nI_nle (by omega) (by omega)), u1, Option.bind_some, u2, xgrd_t, ho.2.1, u3, Option.bind_some, v1, Option.bind_some, w1, Option.bind_some]
  have mC : ∀ x, 42 ≤ x → x ≠ 207 → x ≠ 208 → x ≠ 209 → C.1 x = D1.1 x := fun x h1 h2 h3 h4 => by rw [w2.1 x (by simp; omega), v2, mK x h1]
  have lC : ∀ x, x < 42 → C.1 x = K.1 x := fun x hx => by rw [w2.1 x (by simp; omega), v2]
  have hM : wM (C.1 241 1) (C.1 242) (C.1 243) W := by
    rw [mC 241 (by omega) (by omega) (by omega) (by omega), mC 242 (by omega) (by omega) (by omega) (by omega), mC 243 (by omega) (by omega) (by omega) (by omega)]; exact b1.2.2
  have hEC : iE C E := iE_congr (by rw [mC 42 (by omega) (by omega) (by omega) (by omega)]) (by rw [mC 241 (by omega) (by omega) (by omega) (by omega)]) (fun x hx => mC x (by omega) (by omega) (by omega) (by omega)) (fun x hx hx2 j _ _ => by rw [mC x (by omega) (by omega) (by omega) (by omega)]) b4
  obtain ⟨D6, m1, m2, m3, m4⟩ := E_mh1 (F := F) (P := P) hF hP b1.1 hM hEC
  rw [hN] at m1
  have i6 : ∀ x, D6.1 x = C.1 x := fun x => m2.1 x (by simp)
  obtain ⟨D7, k1, k2, k3, k4, k5, k6⟩ := E_mkeep (F := F) (P := P) hF (D := D6) hL (by rw [i6, mC 241 (by omega) (by omega) (by omega) (by omega)]; exact p3)
  have hM7 : wM (D7.1 241 1) (D7.1 242) (D7.1 243) W := by
    rw [k3 1 (by omega), k2.1 242 (by decide), k2.1 243 (by decide), i6, i6, i6]; exact hM
  obtain ⟨⟨r, D8⟩, l1, l2, l3, l4, l5, l6, l7⟩ := E_mh2 (F := F) (P := P) hF (D := D7) b1.1 hM7 c0 (by rw [k3 25 (by omega), i6]; exact hEC.2.2.1) (fun g hg e he => ⟨(c5 g hg e he).1, by rw [k2.1 259 (by decide), i6]; exact (hEC.2.2.2.2.2 g hg e he).2.2.1⟩) (by rw [hN]; exact h64) (fun e he => by rw [k2.2 260 (by simp)]; exact m3 e he) (fun e he k hk => by rw [k2.2 261 (by simp)]; exact m4 e he k hk)
  rw [hN] at l1 l2 l5 l6 l7
  dsimp only at l2 l3 l4 l5 l6 l7
  subst l2
  have e2' : f_X12_happen F P xS0 241 C = some (nI N, D8) := by
    rw [m1, if_neg (nI_ne0 (by omega) (by omega)), if_pos hle, k1, Option.bind_some, l1]
  have low : ∀ x, x < 241 → D8.1 x = C.1 x := fun x hx => by rw [l3.1 x (by simp; omega), k2.1 x (by simp; omega), i6]
  have lowL : ∀ x, x ≠ 260 → x ≠ 261 → D8.2 x = C.2 x := fun x h1 h2 => by rw [l3.2 x (by simp), k2.2 x (by simp), m2.2 x (by simp; omega)]
  have hlabel : ∀ g, g < 4 → ∀ u w, u < N → w < N → (lb W E g u = lb W E g w ↔ W.2.2 g (pr W E u / 8) = W.2.2 g (pr W E w / 8) ∧ E.2.2.2 g (pr W E u % 8) = E.2.2.2 g (pr W E w % 8)) := by
    intro g hg u w hu hw
    have z1 := (c5 g hg _ (hpr u hu).2).1
    have z2 := (c5 g hg _ (hpr w hw).2).1
    have z3 := (hpr u hu).2
    have z4 := (hpr w hw).2
    unfold lb
    omega
  refine ⟨_, C, D8, e1', e2', Iv_step (D := D1) (W' := wTk N (pa W E) (lb W E)) ?_ b3 b4 (fr_S f1 a5) (fr_X f1 a6) (fr_D f1 a8) ⟨wTk_ok h64 (fun w _ => pa_lt W E w), ?_, ⟨l5, l6, l7⟩⟩ (iK_keep (D := D1) (D1 := C) b1 hp hL p4 ?_ ?_ ?_ ?_ ?_ ?_ ?_ ?_ ?_ ?_ ?_) ?_⟩
  · refine ⟨fun x hx => ?_, fun x hx hx2 j _ => ?_, ?_, fun j hj => ?_, ?_, ?_⟩
    · unfold rd2 at hx
      by_cases q : x < 241
      · rw [low x q, mC x (by omega) (by omega) (by omega) (by omega)]
      · rw [l3.1 x (by simp; omega), k2.1 x (by simp; omega), i6, mC x (by omega) (by omega) (by omega) (by omega)]
    · rw [l3.1 x (by simp; omega), k2.1 x (by simp; omega), i6, mC x (by omega) (by omega) (by omega) (by omega)]
    · rw [low 0 (by omega), lC 0 (by omega), u5 14 (by omega)]
    · rw [l4 j (by omega), k3 j (by omega), i6, mC 241 (by omega) (by omega) (by omega) (by omega)]
    · rw [low 192 (by omega), mC 192 (by omega) (by omega) (by omega) (by omega)]
    · rw [low 204 (by omega), mC 204 (by omega) (by omega) (by omega) (by omega)]
  · refine wTk_C h64 (by rw [low 1 (by omega), lC 1 (by omega)]; exact u12) (fun k hk w hw => ?_) (fun g hg w hw u hu => ?_)
    · rw [lowL 2 (by omega) (by omega), w3 k hk w hw]
      unfold pa
      rw [bm_bit]; simp [hk]
    · rw [lowL 3 (by omega) (by omega), w2.2 3 (by decide), v4 g hg w hw, u14 g hg w hw, bt_and, bt_mkS, bt_mkS, if_neg (by omega), b1.2.1.2.2 g hg _ (hpr w hw).1, bt_cs _ hn]
      simp only [hu, decide_true, Bool.true_and, Bool.and_eq_true, decide_eq_true_iff]
      constructor
      · rintro ⟨⟨z1, z2, z3⟩, z4, z5⟩
        refine ⟨z1, (hlabel g hg u w z1 hw).mpr ⟨z3, ?_⟩⟩
        rw [bm_bit, Bool.and_eq_true, Bool.and_eq_true, decide_eq_true_iff, decide_eq_true_iff, decide_eq_true_iff] at z5
        exact z5.2.2
      · rintro ⟨z1, z2⟩
        have z3 := (hlabel g hg u w z1 hw).mp z2
        refine ⟨⟨z1, (hpr u z1).1, z3.1⟩, z1, ?_⟩
        have z4 := (hpr u z1).2
        rw [bm_bit, Bool.and_eq_true, Bool.and_eq_true, decide_eq_true_iff, decide_eq_true_iff, decide_eq_true_iff]
        exact ⟨by omega, z4, z3.2⟩
  · intro x h1 h2 h3
    rw [lC x (by omega)]; exact u4.1 x (by simp; omega)
  · intro x h1 h2 h3 h4
    rw [w2.2 x (by simp; omega), v3 x (by omega)]; exact u4.2 x (by simp; omega)
  · rw [lC _ (by omega)]; exact u9
  · intro j hj
    rw [w2.2 _ (by simp; omega), v3 _ (by omega)]; exact u10 j hj
  · intro j hj
    rw [w2.2 _ (by simp; omega), v3 _ (by omega)]; exact u11 j hj
  · intro x h1 h2
    exact ⟨low x (by omega), lowL x (by omega) (by omega)⟩
  · rw [low 4 (by omega), lC 4 (by omega)]; exact u7
  · rw [low 4 (by omega), lC 4 (by omega)]; exact u8
  · rw [l4 7 (by omega)]; exact k4
  · obtain ⟨s1, s2, s3⟩ := k5
    refine ⟨?_, fun w hw => ?_, fun c hc => ?_⟩
    · rw [l3.1 244 (by decide), s1, i6, mC 241 (by omega) (by omega) (by omega) (by omega)]
    · rw [l3.1 245 (by decide), s2 w hw, i6, mC 242 (by omega) (by omega) (by omega) (by omega)]
    · rw [l3.1 246 (by decide), s3 c hc, i6, mC 243 (by omega) (by omega) (by omega) (by omega)]
  · intro i hi
    obtain ⟨s1, s2, s3⟩ := k6 i hi
    refine ⟨?_, fun w hw => ?_, fun c hc => ?_⟩
    · rw [l3.1 244 (by decide), s1, i6, mC 244 (by omega) (by omega) (by omega) (by omega)]
    · rw [l3.1 245 (by decide), s2 w hw, i6, mC 245 (by omega) (by omega) (by omega) (by omega)]
    · rw [l3.1 246 (by decide), s3 c hc, i6, mC 246 (by omega) (by omega) (by omega) (by omega)]
  · rw [low 0 (by omega), lC 0 (by omega)]; exact u6
