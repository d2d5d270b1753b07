/-! decide: the class's answer -/
theorem E_54 {F P : Nat} (hF : 100000 < F) {N B : List T} {bx : T → Prop} {L : Nat → Bool} {j : Nat} {x : T} {D : xDt} {g : Bool} {v2 : Int32} {r4 : Nat → Int32 → Int32 → xDt → Option xDt} {r19 : Nat → Int32 → Int32 → Int32 → xDt → Option xDt} (hB : ∀ x, x ∈ B ↔ bx x) (hx : B[j]? = some x) (h58 : tsr x = 5 ∨ tsr x = 8) (hL : ∀ u, L u = true → u < 2 ^ B.length) (h4 : sCd D N B) (h5 : rS D 235 (wdn B.length) L) : ∃ D' L' r, f_X0_sift_54 F P xS0 r4 r19 222 (bI g) v2 (nI j) D = r19 222 (bI (g || r)) v2 (nI (j + 1)) D' ∧ rS D' 235 (wdn B.length) L' ∧ (∀ u, L' u = true → L u = true) ∧ nsf bx B j x L L' ∧ (r = true ↔ ∃ u, L u = true ∧ L' u = false) ∧ chL [235, 236, 237] D D' := by
  have h13 := h4.1.1.2.2.2.2.2.1
  obtain ⟨w1, w2, w3, w4⟩ := wdn_le h13
  have hjl := lt_of_at hx
  obtain ⟨D1, e1, a1, a2⟩ := E_sd (F := F) (P := P) (N := N) (L := L) hx (by omega) (wdn B.length) 0 F D (by omega) (by omega) h4 h5 (fun v hv => absurd hv (by omega))
  have s1 : sCd D1 N B := sCd_L h4 a2.1 (a2.2 233 (by decide))
  have hI : cI bx B x L (fun u => L u && !evt (val B u) (lft x)) := by
    have k : ∀ u, (L u && !evt (val B u) (lft x)) = true ↔ L u = true ∧ evt (val B u) (lft x) = false := fun u => by
      cases L u <;> cases evt (val B u) (lft x) <;> simp
    refine ⟨fun u q => ⟨hL u ((k u).mp q).1, ((k u).mp q).1⟩, fun u _ q1 q2 => (k u).mpr ⟨q1, q2⟩, fun u q Y hY => ?_⟩
    obtain ⟨q1, q2⟩ := (k u).mp q
    exact hY.1 u (hL u q1) q1 q2
  obtain ⟨D2, C, e2, b1, b2, b3⟩ := E_spread (F := F) (P := P) hF hB hx h58 hL s1 (fun w hw b hb => by rw [a2.2 235 (by decide)]; exact h5 w hw b hb) a1 hI
  have s2 : sCd D2 N B := sCd_L s1 b3.1 (b3.2 233 (by decide))
  obtain ⟨D3, r, e3, c1, c2, c3⟩ := E_drop (F := F) (P := P) (j := j) (L := L) (C := C) w2 (by omega) (wdn B.length) 0 F D2 false (by omega) (by omega) s2.2.1 b1 (fun v hv => absurd hv (by omega)) (fun v _ hv b hb => by rw [b3.2 235 (by decide), a2.2 235 (by decide)]; exact h5 v hv b hb)
  refine ⟨D3, _, r, ?_, c1, fun u q => ?_, fun t ht => ?_, ?_, ?_⟩
  · rw [e_X0_sift_54, e_X0_startDoubt, show f_X0_startDoubt_2 F P xS0 F 222 (nI j) 0 D = _ from e1, Option.bind_some, e2, Option.bind_some, e_X0_drop, show f_X0_drop_4 F P xS0 F 222 (nI j) 0 0 D2 = _ from e3, Option.bind_some, xlet_q, bI_or, e_X0_sift_72, xlet_q, nI_1]
  · simp only [Bool.and_eq_true] at q; exact q.1
  · simp only [Bool.and_eq_true, Bool.or_eq_true]
    exact and_congr_right fun lt => or_congr_right (b2 t ht lt)
  · rw [c2]
    constructor
    · rintro (q | ⟨u, _, _, q1, q2, q3⟩)
      · cases q
      · exact ⟨u, q1, by simp [q1, q2, q3]⟩
    · rintro ⟨u, q1, q2⟩
      refine Or.inr ⟨u, by omega, by have := hL u q1; omega, q1, ?_⟩
      simpa [q1] using q2
  · exact chL_trans (chL_mono a2 (fun x hx => by simp at hx ⊢; omega)) (chL_trans (chL_mono b3 (fun x hx => by simp at hx ⊢; omega)) (chL_mono c3 (fun x hx => by simp at hx ⊢; omega)))
theorem E_s19 {F P : Nat} (hF : 100000 < F) {N B : List T} {bx : T → Prop} {rd : Nat} {r4 : Nat → Int32 → Int32 → xDt → Option xDt} (hB : ∀ x, x ∈ B ↔ bx x) : ∀ (d j n : Nat) (D : xDt) (L : Nat → Bool) (g : Bool), j + d = B.length → d < n → (∀ u, L u = true → u < 2 ^ B.length) → sCd D N B → rS D 235 (wdn B.length) L → ∃ D' L' g', f_X0_sift_19 F P xS0 r4 n 222 (bI g) (nI rd) (nI j) D = r4 222 (bI g') (nI (rd + 1)) D' ∧ rS D' 235 (wdn B.length) L' ∧ (∀ u, L' u = true → L u = true) ∧ ((∀ t, t < 2 ^ B.length → Gst bx (val B t) → L t = true) → ∀ t, t < 2 ^ B.length → Gst bx (val B t) → L' t = true) ∧ (g' = false → g = false ∧ L' = L ∧ ∀ k x, j ≤ k → B[k]? = some x → tsr x ≠ 1 → nsf bx B k x L L) ∧ (g' = true → g = true ∨ ∃ u, L u = true ∧ L' u = false) ∧ chL [235, 236, 237] D D'
  | _, _, 0, _, _, _, _, h, _, _, _ => absurd h (by omega)
  | 0, j, n + 1, D, L, g, h1, _, hL, h4, h5 => by
    have h13 := h4.1.1.2.2.2.2.2.1
    refine ⟨D, L, g, ?_, h5, fun _ q => q, fun q => q, fun q => ⟨q, rfl, fun k x hk hx => absurd (lt_of_at hx) (by omega)⟩, fun q => Or.inl q, chL_rfl _ _⟩
    rw [e_X0_sift_19, h4.1.1.2.2.2.2.2.2.1, if_pos (by rw [nI_leI (by omega) (by omega)]; omega), xlet_q, nI_1]
  | d + 1, j, n + 1, D, L, g, h1, h2, hL, h4, h5 => by
    have h13 := h4.1.1.2.2.2.2.2.1
    have hj : j < B.length := by omega
    obtain ⟨x, hx⟩ : ∃ x, B[j]? = some x := ⟨B[j], List.getElem?_eq_getElem hj⟩
    obtain ⟨t1, t2⟩ := cst_b h4.1 hx
    obtain ⟨g1, g2, g3⟩ := tmw_b t1
    obtain ⟨_, _, _, _, _, _, s75, s67⟩ := sgc' g1 (by omega) g3
    have hn := h4.1.1.2.2.2.2.1
    have ih := fun D L g => E_s19 (F := F) (P := P) hF (N := N) (B := B) (bx := bx) (rd := rd) (r4 := r4) hB d (j + 1) n D L g (by omega) (by omega)
    rw [e_X0_sift_19, h4.1.1.2.2.2.2.2.2.1, if_neg (by rw [nI_leI (by omega) (by omega)]; omega), E_tok h4.1 hx, Option.bind_some]
    dsimp only
    rw [E_signOf (by omega) (m16 g3), Option.bind_some]
    dsimp only
    by_cases c1 : tsr x = 1
    · rw [if_neg (fun q => by have := s75.mp q; omega), if_neg (fun q => by have := s67.mp q; omega), e_X0_sift_72, xlet_q, nI_1]
      obtain ⟨D', L', g', e', a1, a2, a3, a4, a5, a6⟩ := ih D L g hL h4 h5
      refine ⟨D', L', g', e', a1, a2, a3, fun q => ?_, a5, a6⟩
      obtain ⟨q1, q2, q3⟩ := a4 q
      refine ⟨q1, q2, fun k y hk hy hs => ?_⟩
      by_cases c : k = j
      · subst c; rw [hx] at hy; injection hy with hy; subst hy; exact absurd c1 hs
      · exact q3 k y (by omega) hy hs
    · have h58 : tsr x = 5 ∨ tsr x = 8 := by
        unfold isB at t2
        simp only [Bool.or_eq_true, decide_eq_true_eq] at t2
        omega
      obtain ⟨D1, L1, r, e1, b1, b2, b3, b4, b5⟩ := E_54 (F := F) (P := P) hF (g := g) (v2 := nI rd) (r4 := r4) (r19 := f_X0_sift_19 F P xS0 r4 n) hB hx h58 hL h4 h5
      have e54 : (if nI (sgn (tsr x) (mrk x)) = 75 then (f_X0_sift_54 F P xS0 r4 (f_X0_sift_19 F P xS0 r4 n) 222 (bI g) (nI rd) (nI j) D) else (if nI (sgn (tsr x) (mrk x)) = 67 then (f_X0_sift_54 F P xS0 r4 (f_X0_sift_19 F P xS0 r4 n) 222 (bI g) (nI rd) (nI j) D) else (f_X0_sift_72 F P xS0 r4 (f_X0_sift_19 F P xS0 r4 n) 222 (bI g) (nI rd) (nI j) D))) = f_X0_sift_54 F P xS0 r4 (f_X0_sift_19 F P xS0 r4 n) 222 (bI g) (nI rd) (nI j) D := by
        rcases h58 with q | q
        · rw [if_pos (s75.mpr q)]
        · rw [if_neg (fun q' => by have := s75.mp q'; omega), if_pos (s67.mpr q)]
      rw [e54, e1]
      have s1 : sCd D1 N B := sCd_L h4 b5.1 (b5.2 233 (by decide))
      obtain ⟨D', L', g', e', a1, a2, a3, a4, a5, a6⟩ := ih D1 L1 (g || r) (fun u q => hL u (b2 u q)) s1 b1
      have same : r = false → L1 = L := by
        intro hr
        funext u
        apply Bool.eq_iff_iff.mpr
        refine ⟨b2 u, fun q => ?_⟩
        rcases h : L1 u with _ | _
        · have := b4.mpr ⟨u, q, h⟩
          rw [hr] at this; cases this
        · rfl
      refine ⟨D', L', g', e', a1, fun u q => b2 u (a2 u q), fun q => a3 (fun t ht hg => keepG hn hB hx c1 q b3 t ht hg), fun q => ?_, fun q => ?_, chL_trans b5 a6⟩
      · obtain ⟨q1, q2, q3⟩ := a4 q
        rw [Bool.or_eq_false_iff] at q1
        have hs := same q1.2
        rw [hs] at q2 q3 b3
        refine ⟨q1.1, q2, fun k y hk hy hs => ?_⟩
        by_cases c : k = j
        · subst c; rw [hx] at hy; injection hy with hy; subst hy; exact b3
        · exact q3 k y (by omega) hy hs
      · rcases a5 q with q1 | ⟨u, q1, q2⟩
        · rw [Bool.or_eq_true] at q1
          rcases q1 with q1 | q1
          · exact Or.inl q1
          · obtain ⟨u, u1, u2⟩ := b4.mp q1
            refine Or.inr ⟨u, u1, ?_⟩
            rcases h : L' u with _ | _
            · rfl
            · have := a2 u h; rw [u2] at this; cases this
        · exact Or.inr ⟨u, b2 u q1, q2⟩
theorem E_s4 {F P : Nat} (hF : 100000 < F) {N B : List T} {bx : T → Prop} (hB : ∀ x, x ∈ B ↔ bx x) : ∀ (e rd n : Nat) (D : xDt) (L : Nat → Bool), cn L (2 ^ B.length) ≤ e → rd + e ≤ 8192 → e + 1 < n → (∀ u, L u = true → u < 2 ^ B.length) → sCd D N B → rS D 235 (wdn B.length) L → (∀ t, t < 2 ^ B.length → L t = true → isTy bx (val B t)) → (∀ t, t < 2 ^ B.length → Gst bx (val B t) → L t = true) → ∃ D' L', f_X0_sift_4 F P xS0 n 222 1 (nI rd) D = some D' ∧ rS D' 235 (wdn B.length) L' ∧ (∀ u, L' u = true → u < 2 ^ B.length) ∧ (∀ t, t < 2 ^ B.length → (L' t = true ↔ Gst bx (val B t))) ∧ chL [235, 236, 237] D D'
  | _, _, 0, _, _, _, _, h, _, _, _, _, _ => absurd h (by omega)
  | e, rd, n + 1, D, L, h1, h2, h3, hL, h4, h5, h6, h7 => by
    have h13 := h4.1.1.2.2.2.2.2.1
    have hn := h4.1.1.2.2.2.2.1
    obtain ⟨D', L', g', e', a1, a2, a3, a4, a5, a6⟩ := E_s19 (F := F) (P := P) hF (N := N) (B := B) (bx := bx) (rd := rd) (r4 := f_X0_sift_4 F P xS0 n) hB B.length 0 F D L false (by omega) (by omega) hL h4 h5
    rw [e_X0_sift_4, if_neg (show ¬ (8192 : Int32) < nI rd from fun q => by have := (nI_ltI (a := 8192) (by omega) (by omega)).mp q; omega), if_neg (show ¬ (1 : Int32) = 0 by decide), show f_X0_sift_19 F P xS0 (f_X0_sift_4 F P xS0 n) F 222 0 (nI rd) 0 D = _ from e']
    cases g'
    · obtain ⟨n', rfl⟩ : ∃ n', n = n' + 1 := ⟨n - 1, by omega⟩
      obtain ⟨_, q2, q3⟩ := a4 rfl
      refine ⟨D', L', ?_, a1, fun u q => hL u (a2 u q), fun t ht => ⟨fun q => ?_, a3 h7 t ht⟩, a6⟩
      · rw [e_X0_sift_4]
        by_cases c : (8192 : Int32) < nI (rd + 1)
        · rw [if_pos c]
        · rw [if_neg c, if_pos (show bI false = 0 from rfl)]
      · rw [q2] at q
        exact finG hn hB h6 (fun k x hk hs => q3 k x (by omega) hk hs) t ht q
    · obtain ⟨u, u1, u2⟩ := (a5 rfl).resolve_left (fun q => by cases q)
      have hlt : cn L' (2 ^ B.length) < cn L (2 ^ B.length) := cn_str (fun u _ q => a2 u q) ⟨u, hL u u1, u1, u2⟩
      obtain ⟨e2, rfl⟩ : ∃ e2, e = e2 + 1 := ⟨e - 1, by omega⟩
      obtain ⟨D2, L2, f1, f2, f3, f4, f5⟩ := E_s4 (P := P) hF hB e2 (rd + 1) n D' L' (by omega) (by omega) (by omega) (fun u q => hL u (a2 u q)) (sCd_L h4 a6.1 (a6.2 233 (by decide))) a1 (fun t ht q => h6 t ht (a2 t q)) (a3 h7)
      exact ⟨D2, L2, f1, f2, f3, f4, chL_trans a6 f5⟩
theorem dd_ex : ∀ L : List T, ∃ M : List T, M.Nodup ∧ ∀ x, x ∈ M ↔ x ∈ L
  | [] => ⟨[], by simp, fun x => Iff.rfl⟩
  | y :: L => by
    obtain ⟨M, h1, h2⟩ := dd_ex L
    by_cases c : y ∈ M
    · refine ⟨M, h1, fun x => ?_⟩
      rw [List.mem_cons, h2]
      exact ⟨Or.inr, fun q => q.elim (fun q => by rw [q]; exact (h2 y).mp c) (fun q => q)⟩
    · exact ⟨y :: M, List.nodup_cons.mpr ⟨c, h1⟩, fun x => by rw [List.mem_cons, List.mem_cons, h2]⟩
def frW (D D' : xDt) : Prop := (∀ x, x < 222 ∨ 238 < x → D'.1 x = D.1 x) ∧ ∀ x, x < 232 ∨ 237 < x → D'.2 x = D.2 x
theorem frW_trans {D D' D'' : xDt} (h : frW D D') (h' : frW D' D'') : frW D D'' := ⟨fun x hx => (h'.1 x hx).trans (h.1 x hx), fun x hx => (h'.2 x hx).trans (h.2 x hx)⟩
