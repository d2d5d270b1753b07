/-! event, tieEvents -/
theorem sh1_8 : ∀ m, m < 8 → jishl 1 (nI m) = nI (2 ^ m) := by decide +kernel
theorem E_eadd {F P : Nat} (hF : 10000 < F) {D : xDt} {m : Nat} {t : T} (hm : m < 8) (h0 : D.1 42 0 = nI m) (hf : fmC D 202 203 t) (hz : sz t ≤ 150) : oK (f_X1_add F P xS0 42 202 D) (fun r => r.1 = nI m ∧ r.2.2 = D.2 ∧ (∀ x, x ≠ 42 → x ≠ 44 → (x < 48 + 18 * m ∨ 66 + 18 * m ≤ x) → r.2.1 x = D.1 x) ∧ r.2.1 42 0 = nI (m + 1) ∧ fmC r.2 (48 + 18 * m) (49 + 18 * m) t ∧ (∀ k, k < 8 → r.2.1 (48 + 2 * (9 * m + 1 + k)) 1 = 0) ∧ (∀ g, g < 4 → ∀ e, e < 8 → r.2.1 44 (g * 8 + e) = if e = m then nI (2 ^ m) else D.1 44 (g * 8 + e))) := by
  rw [e_X1_add, h0, if_neg (show ¬ 8 ≤ nI m from fun c => by have := (nI_leI (a := 8) (by omega) (by omega)).mp c; omega), hf.1, if_pos (show nI (sz t) ≤ 150 from (nI_leI (b := 150) (by omega) (by omega)).mpr hz)]
  simp only [xlet]
  rw [nI_1, show (9 : Int32) = nI 9 from rfl, nI_mul, xgrd_in (by omega) (by omega), nI_clamp (by omega), rw_r _ (by omega)]
  obtain ⟨D1, e1, c1, c2, c3⟩ := E_row (F := F) (P := P) (D := (xup D.1 42 0 (nI (m + 1)), D.2)) (r := m * 9) (t := t) (by omega) (fmC_congr (by dsimp only; rw [xup_na _ _ _ _ _ (by omega)]) (fun i _ => by dsimp only; rw [xup_na _ _ _ _ _ (by omega)]) hf) hz
  dsimp only at c1 c2
  rw [e1, Option.bind_some]
  have e18 : 2 * (m * 9) = 18 * m := by omega
  rw [e18] at c1 c3
  have d42 : D1.1 42 0 = nI (m + 1) := by rw [c1 42 (by omega) (by omega), xup_at]
  refine lpu (W := fun n k (D2 : xDt) => oK (f_X1_add_48 F P xS0 n 42 (nI m) (nI k) D2) _) (I := fun k D2 => D2.2 = D.2 ∧ (∀ x, (x < 50 + 18 * m ∨ 66 + 18 * m ≤ x ∨ x % 2 = 1) → D2.1 x = D1.1 x) ∧ ∀ k', k' < k → D2.1 (48 + 2 * (9 * m + 1 + k')) 1 = 0) 8 ?_ ?_ 8 0 _ F (by omega) (by omega) ⟨c2, fun _ _ => rfl, fun k' hk' => absurd hk' (by omega)⟩
  · rintro n D2 ⟨i1, i2, i3⟩
    rw [e_X1_add_48, if_pos (by decide)]
    refine lpu (W := fun n g (D3 : xDt) => oK (f_X1_add_79 F P xS0 n 42 (nI m) (nI g) D3) _) (I := fun g D3 => D3.2 = D.2 ∧ (∀ x, x ≠ 44 → D3.1 x = D2.1 x) ∧ ∀ g', g' < 4 → ∀ e, e < 8 → D3.1 44 (g' * 8 + e) = if e = m ∧ g' < g then nI (2 ^ m) else D2.1 44 (g' * 8 + e)) 4 ?_ ?_ 4 0 _ F (by omega) (by omega) ⟨i1, fun _ _ => rfl, fun g' _ e _ => by simp⟩
    · rintro n D3 ⟨j1, j2, j3⟩
      rw [e_X1_add_79, if_pos (by decide)]
      refine oK_some ⟨rfl, j1, fun x h42 h44 hx => ?_, ?_, ?_, fun k hk => ?_, fun g hg e he => ?_⟩
      · dsimp only
        rw [j2 x h44, i2 x (by omega), c1 x (by omega) (by omega), xup_ne _ _ _ _ h42]
      · dsimp only
        rw [j2 42 (by omega), i2 42 (by omega)]; exact d42
      · refine fmC_congr (D := D1) ?_ (fun i _ => ?_) c3
        · dsimp only
          rw [j2 _ (by omega), i2 _ (by omega)]
        · dsimp only
          rw [j2 _ (by omega), i2 _ (by omega)]
      · dsimp only
        rw [j2 _ (by omega)]; exact i3 k hk
      · dsimp only
        rw [j3 g hg e he]
        have h44 : D2.1 44 (g * 8 + e) = D.1 44 (g * 8 + e) := by rw [i2 44 (by omega), c1 44 (by omega) (by omega), xup_na _ _ _ _ _ (by omega)]
        by_cases q : e = m
        · simp [q, hg]
        · simp [q, h44]
    · rintro n g D3 hg ⟨j1, j2, j3⟩ hk
      rw [e_X1_add_79, k4, if_neg (by rw [nI_leI (by omega) (by omega)]; omega), k8, nI_mul, nI_add, xgrd_in (by omega) (by omega), nI_clamp (by omega), sh1_8 m hm]
      simp only [xlet, nI_1]
      refine hk _ ⟨j1, fun x hx => ?_, fun g' hg' e he => ?_⟩
      · dsimp only
        rw [xup_ne _ _ _ _ hx]; exact j2 x hx
      · dsimp only
        by_cases q : g' * 8 + e = g * 8 + m
        · have q1 : g' = g := by omega
          have q2 : e = m := by omega
          subst q1; subst q2
          rw [xup_at]; simp
        · rw [xup_nk _ _ _ _ _ q, j3 g' hg' e he]
          by_cases q2 : e = m
          · have : g' < g + 1 ↔ g' < g := by omega
            simp [q2, this]
          · simp [q2]
  · rintro n k D2 hk8 ⟨i1, i2, i3⟩ hk
    rw [e_X1_add_48, k8, if_neg (by rw [nI_leI (by omega) (by omega)]; omega), show (9 : Int32) = nI 9 from rfl, nI_mul, nI_1, nI_add, xgrd_in (by omega) (by omega), nI_clamp (by omega), rw_r _ (by omega)]
    simp only [xlet, nI_1]
    refine hk _ ⟨i1, fun x hx => ?_, fun k' hk' => ?_⟩
    · dsimp only
      rw [xup_ne _ _ _ _ (by omega)]; exact i2 x hx
    · dsimp only
      by_cases q : k' = k
      · subst q
        rw [show 48 + 2 * (9 * m + 1 + k') = 48 + 2 * (m * 9 + 1 + k') by omega, xup_at]
      · rw [xup_na _ _ _ _ _ (by omega)]; exact i3 k' (by omega)
theorem M_event {dA : T → Nat → Int32} {F P : Nat} (hF : 10000 < F) (hP : 2005 < P) {D : xDt} (h : Iv dA D) : Two dA D (f_X11_event F P xS0 0) (f_X12_event F P xS0 241) := by
  obtain ⟨W, L, t, E, sg, tx, a1, a2, a3, a4, a5, a6, a7, a8⟩ := id h
  obtain ⟨g0, g1, g2, g3, g4, g5⟩ := id a4
  obtain ⟨b1, b2, b3, b4, i, b5, b6, b7⟩ := id a3
  have hsz : D.1 251 i = nI (sz t) := nd_sz b7
  by_cases h8 : E.1 = 8
  · refine Iv_same (r := -1) h ?_ ?_
    · rw [e_X11_event, e_X1_add, g1, h8, if_pos (by decide)]; rfl
    · rw [e_X12_event, g2, h8, if_pos (by rfl)]
  have hm : E.1 < 8 := by omega
  by_cases hz : sz t ≤ 150
  rotate_left
  · refine Iv_same (r := -1) h ?_ ?_
    · rw [e_X11_event, e_X1_add, g1, if_neg (show ¬ 8 ≤ nI E.1 from fun c => by have := (nI_leI (a := 8) (by omega) (by omega)).mp c; omega), b4.1, if_neg (show ¬ nI (sz t) ≤ 150 from fun c => hz ((nI_leI (b := 150) (by omega) (by omega)).mp c))]; rfl
    · rw [e_X12_event, g2, if_neg (show ¬ nI E.1 = 8 from fun c => h8 ((nI_eq (b := 8) (by omega) (by omega)).mp c)), b6, xgrd_in (by omega) (by omega), nI_clamp (by omega), hsz, if_neg (show ¬ nI (sz t) ≤ 150 from fun c => hz ((nI_leI (b := 150) (by omega) (by omega)).mp c))]
  obtain ⟨⟨r, D1⟩, e1, c0, c1, c2, c3, c4, c5, c6⟩ := E_eadd (F := F) (P := P) hF hm g1 b4 hz
  dsimp only at c0 c1 c2 c3 c4 c5 c6
  subst c0
  have m1 : ∀ x, 192 ≤ x → D1.1 x = D.1 x := fun x hx => c2 x (by omega) (by omega) (by omega)
  obtain ⟨⟨r, D2⟩, e2, d1, d2, d3, d4, d5⟩ := E_laid (F := F) (P := P) hF hP (D := D1) (t := t) (i := i) (p := 2000 + 1350 * E.1) b1 (nd_congr (fun x hx hx2 j _ _ => by rw [m1 x (by omega)]) b7) b5 hz (by omega)
  dsimp only at d1 d2 d3 d4 d5
  subst d1
  -- the reference's rows
  have e3 : oK (f_X12_event F P xS0 241 D1) (fun q => q.1 = nI E.1 ∧ ch [241, 257, 258, 259] [] D2 q.2 ∧ (∀ j, j ≠ 25 → q.2.1 241 j = D2.1 241 j) ∧ q.2.1 241 25 = nI (E.1 + 1) ∧ (∀ j, q.2.1 257 j = if j = E.1 then nI (2000 + 1350 * E.1 + sz t - 1) else D2.1 257 j) ∧ (∀ e, e < 8 → ∀ k, k < 8 → q.2.1 258 (8 * e + k) = if e = E.1 then -2 else D2.1 258 (8 * e + k)) ∧ (∀ g, g < 4 → ∀ e, e < 8 → q.2.1 259 (8 * g + e) = if e = E.1 then nI E.1 else D2.1 259 (8 * g + e))) := by
    rw [e_X12_event, m1 241 (by omega), g2, if_neg (show ¬ nI E.1 = 8 from fun c => h8 ((nI_eq (b := 8) (by omega) (by omega)).mp c)), b6, xgrd_in (by omega) (by omega), nI_clamp (by omega), m1 251 (by omega), hsz, if_pos (show nI (sz t) ≤ 150 from (nI_leI (b := 150) (by omega) (by omega)).mpr hz), show (1350 : Int32) = nI 1350 from rfl, nI_mul, show (2000 : Int32) = nI 2000 from rfl, nI_add, e2, Option.bind_some, xgrd_in (by omega) (by omega), nI_clamp (by omega)]
    simp only [xlet]
    have d25 : D2.1 241 25 = nI E.1 := by rw [d3 25 (by omega), m1 241 (by omega)]; exact g2
    refine lpu (W := fun n k (D3 : xDt) => oK (f_X12_event_57 F P xS0 n 241 (nI k) D3) _) (I := fun k D3 => ch [257, 258] [] D2 D3 ∧ (∀ j, D3.1 257 j = if j = E.1 then nI (2000 + 1350 * E.1 + sz t - 1) else D2.1 257 j) ∧ (∀ e, e < 8 → ∀ k', k' < 8 → D3.1 258 (8 * e + k') = if e = E.1 ∧ k' < k then -2 else D2.1 258 (8 * e + k'))) 8 ?_ ?_ 8 0 _ F (by omega) (by omega) ?_
    · rintro n D3 ⟨i1, i2, i3⟩
      rw [e_X12_event_57, if_pos (by decide)]
      refine lpu (W := fun n g (D4 : xDt) => oK (f_X12_event_87 F P xS0 n 241 (nI g) D4) _) (I := fun g D4 => ch [257, 258, 259] [] D2 D4 ∧ D4.1 257 = D3.1 257 ∧ D4.1 258 = D3.1 258 ∧ (∀ g', g' < 4 → ∀ e, e < 8 → D4.1 259 (8 * g' + e) = if e = E.1 ∧ g' < g then nI E.1 else D2.1 259 (8 * g' + e))) 4 ?_ ?_ 4 0 _ F (by omega) (by omega) ⟨ch_mono i1 (by intro x hx; simp at hx ⊢; omega) (fun _ h => h), rfl, rfl, fun g' _ e _ => by rw [i1.1 259 (by decide)]; simp⟩
      · rintro n D4 ⟨j1, j2, j3, j4⟩
        rw [e_X12_event_87, if_pos (by decide)]
        simp only [xlet]
        rw [xup_at, j1.1 241 (by decide), d25, nI_1, nI_s1 (by omega), Nat.add_sub_cancel]
        refine oK_some ⟨rfl, ch_i (by simp) (ch_mono j1 (by intro x hx; simp at hx ⊢; omega) (fun _ h => h)), fun j hj => ?_, ?_, fun j => ?_, fun e he k hk => ?_, fun g hg e he => ?_⟩
        · dsimp only
          rw [xup_nk _ _ _ _ _ hj, j1.1 241 (by decide)]
        · dsimp only
          rw [xup_at]
        · dsimp only
          rw [xup_na _ _ _ _ _ (by omega), j2, i2]
        · dsimp only
          rw [xup_na _ _ _ _ _ (by omega), j3, i3 e he k hk]
          by_cases q : e = E.1
          · simp [q, hk]
          · simp [q]
        · dsimp only
          rw [xup_na _ _ _ _ _ (by omega), j4 g hg e he]
          by_cases q : e = E.1
          · simp [q, hg]
          · simp [q]
      · rintro n g D4 hg ⟨j1, j2, j3, j4⟩ hk
        rw [e_X12_event_87, j1.1 241 (by decide), d25, k4, if_neg (by rw [nI_leI (by omega) (by omega)]; omega), k8, nI_mul, nI_add, xgrd_in (by omega) (by omega), nI_clamp (by omega)]
        simp only [xlet, nI_1]
        refine hk _ ⟨ch_i (by simp) j1, ?_, ?_, fun g' hg' e he => ?_⟩
        · dsimp only
          rw [xup_ne _ _ _ _ (by omega)]; exact j2
        · dsimp only
          rw [xup_ne _ _ _ _ (by omega)]; exact j3
        · dsimp only
          by_cases q : 8 * g' + e = 8 * g + E.1
          · have q1 : g' = g := by omega
            have q2 : e = E.1 := by omega
            subst q1; subst q2
            rw [xup_at]; simp
          · rw [xup_nk _ _ _ _ _ q, j4 g' hg' e he]
            by_cases q2 : e = E.1
            · have : g' < g + 1 ↔ g' < g := by omega
              simp [q2, this]
            · simp [q2]
    · rintro n k D3 hk8 ⟨i1, i2, i3⟩ hk
      rw [e_X12_event_57, i1.1 241 (by decide), d25, k8, if_neg (by rw [nI_leI (by omega) (by omega)]; omega), nI_mul, nI_add, xgrd_in (by omega) (by omega), nI_clamp (by omega)]
      simp only [xlet, nI_1]
      refine hk _ ⟨ch_i (by simp) i1, fun j => ?_, fun e he k' hk' => ?_⟩
      · dsimp only
        rw [xup_na _ _ _ _ _ (by omega)]; exact i2 j
      · dsimp only
        by_cases q : 8 * e + k' = 8 * E.1 + k
        · have q1 : e = E.1 := by omega
          have q2 : k' = k := by omega
          subst q1; subst q2
          rw [xup_at]; simp
        · rw [xup_nk _ _ _ _ _ q, i3 e he k' hk']
          by_cases q2 : e = E.1
          · have : k' < k + 1 ↔ k' < k := by omega
            simp [q2, this]
          · simp [q2]
    · refine ⟨ch_i (by simp) (ch_rfl _ _ _), fun j => ?_, fun e he k' hk' => ?_⟩
      · dsimp only
        by_cases q : j = E.1
        · subst q; rw [xup_at]; simp
        · rw [xup_nk _ _ _ _ _ q]; simp [q]
      · dsimp only
        rw [xup_na _ _ _ _ _ (by omega)]; simp
  obtain ⟨⟨r, D3⟩, e4, f0, f1, f2, f3, f4, f5, f6⟩ := e3
  dsimp only at f0 f1 f2 f3 f4 f5 f6
  subst f0
  have z1 : ∀ x, x ≠ 241 → (x < 247 ∨ 251 < x) → (x < 257 ∨ 259 < x) → D3.1 x = D1.1 x := fun x h1 h2 h3 => by rw [f1.1 x (by simp; omega), d2.1 x (by simp; omega)]
  have z2 : ∀ x, 247 ≤ x → x ≤ 251 → D3.1 x = D2.1 x := fun x h1 h2 => f1.1 x (by simp; omega)
  have z3 : ∀ x, 257 ≤ x → x ≤ 259 → D2.1 x = D.1 x := fun x h1 h2 => by rw [d2.1 x (by simp; omega), m1 x (by omega)]
  refine ⟨_, D1, D3, by rw [e_X11_event, e1]; rfl, e4, Iv_ev h (fun x h1 h2 h3 => c2 x h1 h2 (by omega)) c1 (ch_trans (ch_mono d2 (by intro x hx; simp at hx ⊢; omega) (fun _ h => h)) (ch_mono f1 (by intro x hx; simp at hx ⊢; omega) (fun _ h => h))) (fun j h13 h25 => by rw [f2 j h25, d3 j h13]) (fun x hx hx2 j hj => by rw [z2 x hx hx2, d4 x (by omega) j (by omega) (by omega)]) (E' := (E.1 + 1, fun e => if e = E.1 then t else E.2.1 e, fun e k => if e = E.1 then nil else E.2.2.1 e k, fun g e => if e = E.1 then E.1 else E.2.2.2 g e)) ⟨hm, ?_, f3, fun e he => ?_, fun e he k hk => ?_, fun g hg e he => ?_⟩⟩
  · rw [z1 42 (by omega) (by omega) (by omega)]; exact c3
  · have he9 : e < E.1 + 1 := he
    by_cases q : e = E.1
    · subst q
      dsimp only
      rw [if_pos rfl, f4, if_pos rfl]
      refine ⟨⟨b1, hz, ?_⟩, ⟨_, rfl, by omega, ?_⟩⟩
      · have e18 : 2 * (9 * E.1) = 18 * E.1 := by omega
        rw [e18]
        exact fmC_congr (D := D1) (by rw [z1 _ (by omega) (by omega) (by omega)]) (fun i _ => by rw [z1 _ (by omega) (by omega) (by omega)]) c4
      · have e13 : 2000 + 150 * (9 * E.1) = 2000 + 1350 * E.1 := by omega
        rw [e13]
        exact nd_congr (fun a ha hb j _ _ => by rw [z2 a ha hb]) d5
    · dsimp only
      rw [if_neg q, f4, if_neg q, z3 257 (by omega) (by omega)]
      obtain ⟨s1, s2⟩ := g3 e (by omega)
      exact ⟨sl_congr (fun x hx hx2 => by rw [z1 x (by omega) (by omega) (by omega), c2 x (by omega) (by omega) (by omega)]) s1, sm_congr (fun a ha hb j hj hj2 => by rw [z2 a ha hb, d4 a (by omega) j (by omega) (by omega), m1 a (by omega)]) s2⟩
  · have he9 : e < E.1 + 1 := he
    by_cases q : e = E.1
    · subst q
      refine Or.inl ⟨by simp, ?_, ?_⟩
      · rw [z1 _ (by omega) (by omega) (by omega)]; exact c5 k hk
      · rw [f5 _ (by omega) k hk, if_pos rfl]
    · dsimp only
      rw [if_neg q, f5 e (by omega) k hk, if_neg q, z3 258 (by omega) (by omega)]
      rcases g4 e (by omega) k hk with ⟨s1, s2, s3⟩ | ⟨s1, s2⟩
      · exact Or.inl ⟨s1, by rw [z1 _ (by omega) (by omega) (by omega), c2 _ (by omega) (by omega) (by omega)]; exact s2, s3⟩
      · exact Or.inr ⟨sl_congr (fun x hx hx2 => by rw [z1 x (by omega) (by omega) (by omega), c2 x (by omega) (by omega) (by omega)]) s1, sm_congr (fun a ha hb j hj hj2 => by rw [z2 a ha hb, d4 a (by omega) j (by omega) (by omega), m1 a (by omega)]) s2⟩
  · have he9 : e < E.1 + 1 := he
    dsimp only
    rw [f6 g hg e (by omega), z1 44 (by omega) (by omega) (by omega), c6 g hg e (by omega), z3 259 (by omega) (by omega)]
    by_cases q : e = E.1
    · subst q
      simp only [if_true]
      refine ⟨Nat.le_refl _, trivial, trivial, ?_⟩
      congr 1
      refine bm_eq (Nat.pow_lt_pow_right (by omega) hm) (fun j hj => ?_)
      rw [Nat.testBit_two_pow]
      by_cases q2 : j = E.1
      · subst q2; simp
      · have q3 : ¬ E.1 = j := fun c => q2 c.symm
        by_cases q4 : j < E.1
        · have := (g5 g hg j q4).1
          have q5 : ¬ E.2.2.2 g j = E.1 := by omega
          simp [q2, q3, q5]
        · have q5 : ¬ j < E.1 + 1 := by omega
          simp [q3, q5]
    · obtain ⟨s1, s2, s3, s4⟩ := g5 g hg e (by omega)
      have q2 : ¬ E.2.2.2 g e = E.1 := by omega
      simp only [q, q2, if_false]
      refine ⟨s1, s2, s3, ?_⟩
      rw [s4]
      congr 1
      apply bm_congr
      intro j hj
      by_cases q3 : j = E.1
      · have q4 : ¬ E.1 = E.2.2.2 g e := fun c => q2 c.symm
        simp [q3, q4]
      · have : j < E.1 + 1 ↔ j < E.1 := by omega
        simp [q3, this]
