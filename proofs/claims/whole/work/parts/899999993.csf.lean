/-! decide: the class sifts -/
theorem bI_or (a b : Bool) : bI a ||| bI b = bI (a || b) := by cases a <;> cases b <;> decide
theorem E_s20 {F P : Nat} (hF : 100000 < F) {N B : List T} {bx : T → Prop} {L : Nat → Bool} {j rd : Nat} {x : T} {rec : Nat → Int32 → Int32 → Int32 → xDt → Option xDt} (hB : ∀ x, x ∈ B ↔ bx x) (hx : B[j]? = some x) (h58 : tsr x = 5 ∨ tsr x = 8) (hL : ∀ u, L u = true → u < 2 ^ B.length) : ∀ (d a n : Nat) (D : xDt) (C : Nat → Bool) (g : Bool), a + d = 4 → d < n → sCd D N B → rS D 235 (wdn B.length) L → rS D 237 (wdn B.length) C → cI bx B x L C → ∃ D' C' g', f_X0_spread_20 F P xS0 rec n 222 (nI j) (bI g) (nI rd) (nI a) D = rec 222 (nI j) (bI (g' && decide (tsr x = 8))) (nI rd + 1) D' ∧ rS D' 237 (wdn B.length) C' ∧ cI bx B x L C' ∧ (∀ u, C u = true → C' u = true) ∧ (g' = false → g = false ∧ C' = C ∧ ∀ b, a ≤ b → b < 4 → (mrk x).testBit b = true → clA bx B b L C) ∧ (g' = true → g = true ∨ ∃ u, C' u = true ∧ C u = false) ∧ ((∀ b, a ≤ b → b < 4 → (mrk x).testBit b = false) → C' = C) ∧ (∀ b, a ≤ b → b < 4 → mrk x = 2 ^ b → clA bx B b L C') ∧ chL [236, 237] D D'
  | _, _, 0, _, _, _, _, h, _, _, _, _ => absurd h (by omega)
  | 0, a, n + 1, D, C, g, h1, _, h3, h4, h5, h6 => by
    obtain ⟨t1, t2⟩ := cst_b h3.1 hx
    obtain ⟨g1, g2, g3⟩ := tmw_b t1
    have s67 := (sgc' g1 (by omega) g3).2.2.2.2.2.2.2
    refine ⟨D, C, g, ?_, h5, h6, fun _ q => q, fun q => ⟨q, rfl, fun b q1 q2 => absurd q2 (by omega)⟩, fun q => Or.inl q, fun _ => rfl, fun b q1 q2 => absurd q2 (by omega), chL_rfl _ _⟩
    rw [e_X0_spread_20, if_pos (show (4 : Int32) ≤ nI a from (nI_leI (a := 4) (by omega) (by omega)).mpr (by omega))]
    cases g
    · rw [if_pos (show bI false = 0 from rfl), e_X0_spread_80, e_X0_spread_81, xlet_q]
      rfl
    · rw [if_neg (show ¬ bI true = 0 by decide), E_tok h3.1 hx, Option.bind_some]
      dsimp only
      rw [E_signOf (by omega) (m16 g3), Option.bind_some]
      dsimp only
      by_cases c : tsr x = 8
      · rw [if_pos (s67.mpr c), e_X0_spread_81, xlet_q, decide_eq_true c]
        rfl
      · rw [if_neg (fun q => c (s67.mp q)), e_X0_spread_80, e_X0_spread_81, xlet_q, decide_eq_false c]
        rfl
  | d + 1, a, n + 1, D, C, g, h1, h2, h3, h4, h5, h6 => by
    have ha : a < 4 := by omega
    obtain ⟨t1, t2⟩ := cst_b h3.1 hx
    obtain ⟨g1, g2, g3⟩ := tmw_b t1
    have hn := h3.1.1.2.2.2.2.1
    have ih := fun D C g => E_s20 (F := F) (P := P) hF (N := N) (B := B) (bx := bx) (L := L) (rd := rd) (rec := rec) hB hx h58 hL d (a + 1) n D C g (by omega) (by omega)
    rw [e_X0_spread_20, if_neg (show ¬ (4 : Int32) ≤ nI a from fun q => by have := (nI_leI (a := 4) (by omega) (by omega)).mp q; omega), E_tok h3.1 hx, Option.bind_some]
    dsimp only
    rw [E_hasA (by omega) (by omega) (m16 g3) ha, Option.bind_some]
    dsimp only
    cases hb : (mrk x).testBit a
    · rw [if_pos (show bI false = 0 from rfl), e_X0_spread_53, xlet_q, nI_1]
      obtain ⟨D', C', g', e', a1, a2, a3, a4, a5, a6, a7, a8⟩ := ih D C g h3 h4 h5 h6
      refine ⟨D', C', g', e', a1, a2, a3, fun q => ?_, a5, fun q => a6 (fun b q1 q2 => q b (by omega) q2), fun b q1 q2 q3 => ?_, a8⟩
      · obtain ⟨q1, q2, q3⟩ := a4 q
        refine ⟨q1, q2, fun b q4 q5 q6 => ?_⟩
        by_cases c : b = a
        · subst c; rw [hb] at q6; cases q6
        · exact q3 b (by omega) q5 q6
      · by_cases c : b = a
        · subst c; rw [q3, tb_self] at hb; cases hb
        · exact a7 b (by omega) q2 q3
    · rw [if_neg (show ¬ bI true = 0 by decide), xgrd_in ha (by omega), nI_clamp (by omega)]
      obtain ⟨s, s1, s2, s3⟩ := h3.2.2.1 a ha
      rw [s1]
      obtain ⟨D1, r, e1, b1, b2, b3⟩ := E_spb (F := F) (P := P) hF (s := s) h3 h4 h5
      rw [e1, Option.bind_some, xlet_q, bI_or, e_X0_spread_53, xlet_q, nI_1]
      obtain ⟨c1, c2⟩ := cI_step hn hB ha hb s3 hL h6
      have hs1 : sCd D1 N B := sCd_L h3 b3.1 (b3.2 233 (by decide))
      obtain ⟨D', C', g', e', a1, a2, a3, a4, a5, a6, a7, a8⟩ := ih D1 _ (g || r) hs1 (fun w hw b hb2 => by rw [b3.2 235 (by decide)]; exact h4 w hw b hb2) b1 c1
      have hW := (wdn_le h3.1.1.2.2.2.2.2.1).2.2.1
      have same : r = false → (fun u => C u || (fnd s C B.length u && L u)) = C := by
        intro hr
        funext u
        rcases hc : C u with _ | _
        · rcases hf : fnd s C B.length u with _ | _
          · rfl
          · rcases hl : L u with _ | _
            · rfl
            · have := b2.mpr ⟨u, by have := hL u hl; omega, hc, hf, hl⟩
              rw [hr] at this; cases this
        · rfl
      refine ⟨D', C', g', e', a1, a2, fun u q => a3 u (by rw [q]; rfl), fun q => ?_, fun q => ?_, fun q => ?_, fun b q1 q2 q3 => ?_, chL_trans b3 a8⟩
      · obtain ⟨q1, q2, q3⟩ := a4 q
        rw [Bool.or_eq_false_iff] at q1
        have hsm := same q1.2
        rw [hsm] at q2 q3 c2
        refine ⟨q1.1, q2, fun b q4 q5 q6 => ?_⟩
        by_cases c : b = a
        · subst c; exact c2
        · exact q3 b (by omega) q5 q6
      · rcases a5 q with q1 | ⟨u, q1, q2⟩
        · rw [Bool.or_eq_true] at q1
          rcases q1 with q1 | q1
          · exact Or.inl q1
          · obtain ⟨u, u1, u2, u3, u4⟩ := b2.mp q1
            exact Or.inr ⟨u, a3 u (by rw [u3, u4]; simp), u2⟩
        · refine Or.inr ⟨u, q1, ?_⟩
          try dsimp only at q2
          rw [Bool.or_eq_false_iff] at q2
          exact q2.1
      · have := q a (Nat.le_refl _) ha
        rw [hb] at this; cases this
      · by_cases c : b = a
        · subst c
          have := a6 (fun b' q4 q5 => by
            rw [q3, Nat.testBit_two_pow]
            have : ¬ b = b' := by omega
            simp [this])
          rw [this]; exact c2
        · exfalso
          rw [q3, Nat.testBit_two_pow] at hb
          exact c (by simpa using hb)
theorem cn_more' {p : Nat → Bool} {m n : Nat} (h : m ≤ n) (hp : ∀ j, m ≤ j → p j = false) : cn p n = cn p m := by
  have := cn_more p m hp (n - m)
  rw [Nat.add_sub_cancel' h] at this
  exact this
/-- rounds, for what is common -/
theorem E_s4C {F P : Nat} (hF : 100000 < F) {N B : List T} {bx : T → Prop} {L : Nat → Bool} {j : Nat} {x : T} (hB : ∀ x, x ∈ B ↔ bx x) (hx : B[j]? = some x) (h8 : tsr x = 8) (hL : ∀ u, L u = true → u < 2 ^ B.length) : ∀ (e rd n : Nat) (D : xDt) (C : Nat → Bool), 2 ^ B.length ≤ cn C (2 ^ B.length) + e → rd + e ≤ 8192 → e + 1 < n → sCd D N B → rS D 235 (wdn B.length) L → rS D 237 (wdn B.length) C → cI bx B x L C → ∃ D' C', f_X0_spread_4 F P xS0 n 222 (nI j) 1 (nI rd) D = some D' ∧ rS D' 237 (wdn B.length) C' ∧ cI bx B x L C' ∧ (∀ b, b < 4 → (mrk x).testBit b = true → clA bx B b L C') ∧ chL [236, 237] D D'
  | _, _, 0, _, _, _, _, h, _, _, _, _ => absurd h (by omega)
  | e, rd, n + 1, D, C, h1, h2, h3, h4, h5, h6, h7 => by
    obtain ⟨D', C', g', e', a1, a2, a3, a4, a5, _, _, a8⟩ := E_s20 (F := F) (P := P) hF (N := N) (B := B) (bx := bx) (L := L) (j := j) (rd := rd) (x := x) (rec := f_X0_spread_4 F P xS0 n) hB hx (Or.inr h8) hL 4 0 F D C false (by omega) (by omega) h4 h5 h6 h7
    rw [e_X0_spread_4, if_neg (show ¬ (8192 : Int32) < nI rd from fun q => by have := (nI_ltI (a := 8192) (by omega) (by omega)).mp q; omega), if_neg (show ¬ (1 : Int32) = 0 by decide), show f_X0_spread_20 F P xS0 (f_X0_spread_4 F P xS0 n) F 222 (nI j) 0 (nI rd) 0 D = _ from e', decide_eq_true h8, Bool.and_true, nI_1]
    cases g'
    · obtain ⟨n', rfl⟩ : ∃ n', n = n' + 1 := ⟨n - 1, by omega⟩
      obtain ⟨_, q2, q3⟩ := a4 rfl
      refine ⟨D', C', ?_, a1, a2, fun b q4 q5 => by rw [q2]; exact q3 b (by omega) q4 q5, a8⟩
      rw [e_X0_spread_4]
      by_cases c : (8192 : Int32) < nI (rd + 1)
      · rw [if_pos c]
      · rw [if_neg c, if_pos (show bI false = 0 from rfl)]
    · obtain ⟨u, u1, u2⟩ := (a5 rfl).resolve_left (fun q => by cases q)
      have hlt : cn C (2 ^ B.length) < cn C' (2 ^ B.length) := cn_str (fun u _ q => a3 u q) ⟨u, (a2.1 u u1).1, u1, u2⟩
      have hle := cn_le C' (2 ^ B.length)
      obtain ⟨e2, rfl⟩ : ∃ e2, e = e2 + 1 := ⟨e - 1, by omega⟩
      obtain ⟨D2, C2, f1, f2, f3, f4, f5⟩ := E_s4C (P := P) hF hB hx h8 hL e2 (rd + 1) n D' C' (by omega) (by omega) (by omega) (sCd_L h4 a8.1 (a8.2 233 (by decide))) (fun w hw b hb => by rw [a8.2 235 (by decide)]; exact h5 w hw b hb) a1 a2
      exact ⟨D2, C2, f1, f2, f3, f4, chL_trans a8 f5⟩
theorem E_spread {F P : Nat} (hF : 100000 < F) {N B : List T} {bx : T → Prop} {L C : Nat → Bool} {j : Nat} {x : T} {D : xDt} (hB : ∀ x, x ∈ B ↔ bx x) (hx : B[j]? = some x) (h58 : tsr x = 5 ∨ tsr x = 8) (hL : ∀ u, L u = true → u < 2 ^ B.length) (h4 : sCd D N B) (h5 : rS D 235 (wdn B.length) L) (h6 : rS D 237 (wdn B.length) C) (h7 : cI bx B x L C) : ∃ D' C', f_X0_spread F P xS0 222 (nI j) D = some D' ∧ rS D' 237 (wdn B.length) C' ∧ (∀ u, u < 2 ^ B.length → L u = true → (C' u = true ↔ nrch bx B x L u)) ∧ chL [236, 237] D D' := by
  have h13 := h4.1.1.2.2.2.2.2.1
  have hK : 2 ^ B.length ≤ 8192 := by
    have : 2 ^ B.length ≤ 2 ^ 13 := Nat.pow_le_pow_right (by omega) h13
    exact this
  obtain ⟨t1, t2⟩ := cst_b h4.1 hx
  obtain ⟨g1, g2, g3⟩ := tmw_b t1
  have fin : ∀ C' : Nat → Bool, cI bx B x L C' → (∀ b, b < 4 → (mrk x).testBit b = true → clA bx B b L C') → ∀ u, u < 2 ^ B.length → L u = true → (C' u = true ↔ nrch bx B x L u) := by
    intro C' c1 c2 u hu lu
    refine ⟨c1.2.2 u, fun q => q (fun v => C' v = true) ⟨fun v hv lv hd => c1.2.1 v hv lv hd, fun v w hv hw cv lv lw ⟨a, ha, hm, hs⟩ => c2 a ha hm v w cv hw lw hs⟩⟩
  rw [e_X0_spread]
  rcases h58 with c5 | c8
  · obtain ⟨n', hn'⟩ : ∃ n', F = n' + 1 + 1 := ⟨F - 2, by omega⟩
    have key : ∀ n', ∃ D' C', f_X0_spread_4 F P xS0 (n' + 1 + 1) 222 (nI j) 1 0 D = some D' ∧ rS D' 237 (wdn B.length) C' ∧ (∀ u, u < 2 ^ B.length → L u = true → (C' u = true ↔ nrch bx B x L u)) ∧ chL [236, 237] D D' := by
      intro n'
      obtain ⟨D', C', g', e', a1, a2, a3, a4, a5, _, a7, a8⟩ := E_s20 (F := F) (P := P) hF (N := N) (B := B) (bx := bx) (L := L) (j := j) (rd := 0) (x := x) (rec := f_X0_spread_4 F P xS0 (n' + 1)) hB hx (Or.inl c5) hL 4 0 F D C false (by omega) (by omega) h4 h5 h6 h7
      refine ⟨D', C', ?_, a1, fin C' a2 (fun b hb hbt => ?_), a8⟩
      · rw [e_X0_spread_4, if_neg (show ¬ (8192 : Int32) < 0 by decide), if_neg (show ¬ (1 : Int32) = 0 by decide), show f_X0_spread_20 F P xS0 (f_X0_spread_4 F P xS0 (n' + 1)) F 222 (nI j) 0 0 0 D = _ from e', decide_eq_false (show ¬ tsr x = 8 by omega), Bool.and_false, e_X0_spread_4, if_neg (show ¬ (8192 : Int32) < nI 0 + 1 by decide), if_pos (show bI false = 0 from rfl)]
      · have hm : mrk x = 1 ∨ mrk x = 2 ∨ mrk x = 4 ∨ mrk x = 8 := by
          rw [c5] at g3
          unfold mOK at g3; omega
        have : mrk x = 2 ^ b := by
          have hb4 : b = 0 ∨ b = 1 ∨ b = 2 ∨ b = 3 := by omega
          rcases hm with q | q | q | q <;> rcases hb4 with r | r | r | r <;> subst r <;> rw [q] at hbt ⊢ <;> first | rfl | exact absurd hbt (by decide)
        exact a7 b (by omega) hb this
    have := key n'
    rw [← hn'] at this
    exact this
  · obtain ⟨D', C', e', a1, a2, a3, a4⟩ := E_s4C (F := F) (P := P) hF hB hx c8 hL (2 ^ B.length) 0 F D C (by omega) (by omega) (by omega) h4 h5 h6 h7
    exact ⟨D', C', e', a1, fin C' a2 a3, a4⟩
theorem E_sd {F P : Nat} {N B : List T} {L : Nat → Bool} {j : Nat} {x : T} (hx : B[j]? = some x) (hs : tsr x ≠ 1) : ∀ (d w n : Nat) (D : xDt), w + d = wdn B.length → d < n → sCd D N B → rS D 235 (wdn B.length) L → (∀ v, v < w → ∀ b, b < 64 → bt (D.2 237 v) b = (L (64 * v + b) && !evt (val B (64 * v + b)) (lft x))) → ∃ D', f_X0_startDoubt_2 F P xS0 n 222 (nI j) (nI w) D = some D' ∧ rS D' 237 (wdn B.length) (fun u => L u && !evt (val B u) (lft x)) ∧ chL [237] D D'
  | _, _, 0, _, _, h, _, _, _ => absurd h (by omega)
  | 0, w, n + 1, D, h1, _, h3, h4, h5 => by
    have hW := (wdn_le h3.1.1.2.2.2.2.2.1)
    refine ⟨D, ?_, fun v hv b hb => h5 v (by omega) b hb, chL_rfl _ _⟩
    rw [e_X0_startDoubt_2, h3.2.1, if_pos (by rw [nI_leI (by omega) (by omega)]; omega)]
  | d + 1, w, n + 1, D, h1, h2, h3, h4, h5 => by
    have h13 := h3.1.1.2.2.2.2.2.1
    have hW := (wdn_le h13)
    have hw : w < wdn B.length := by omega
    have hjl := lt_of_at hx
    obtain ⟨D', e', a1, a2⟩ := E_sd (F := F) (P := P) (N := N) (L := L) hx hs d (w + 1) n (D.1, xup D.2 237 w (D.2 235 w &&& (D.2 233 (j * 128 + w) ^^^ (-1)))) (by omega) (by omega) (sCd_L h3 rfl (by dsimp only; rw [xup_ne _ _ _ _ (by omega)])) (fun v hv b hb => by dsimp only; rw [xup_na _ _ _ _ _ (by omega)]; exact h4 v hv b hb) (fun v hv b hb => by
      dsimp only
      by_cases c : v = w
      · subst c
        rw [xup_at, bt_andn, h4 v hw b hb, h3.2.2.2 v hw j x hx hs b hb]
      · rw [xup_nk _ _ _ _ _ c]; exact h5 v (by omega) b hb)
    refine ⟨D', ?_, a1, chL_trans (chL_i (by simp) (chL_rfl _ _)) a2⟩
    rw [e_X0_startDoubt_2, h3.2.1, if_neg (by rw [nI_leI (by omega) (by omega)]; omega), xgrd_in (by omega) (by omega), show (128 : Int32) = nI 128 from rfl, nI_mul, nI_add, xgrd_in (by omega) (by omega), xgrd_in (by omega) (by omega), nI_clamp (by omega), nI_clamp (by omega), xlet_q, xlet_q, nI_1]
    exact e'
theorem E_drop {F P : Nat} {W j : Nat} {L C : Nat → Bool} (hW : W ≤ 128) (hj : j < 13) : ∀ (d w n : Nat) (D : xDt) (r : Bool), w + d = W → d < n → D.1 222 9 = nI W → rS D 237 W C → (∀ v, v < w → ∀ b, b < 64 → bt (D.2 235 v) b = (L (64 * v + b) && ((64 * v + b).testBit j || C (64 * v + b)))) → (∀ v, w ≤ v → v < W → ∀ b, b < 64 → bt (D.2 235 v) b = L (64 * v + b)) → ∃ D' r', f_X0_drop_4 F P xS0 n 222 (nI j) (bI r) (nI w) D = some (bI r', D') ∧ rS D' 235 W (fun u => L u && (u.testBit j || C u)) ∧ (r' = true ↔ r = true ∨ ∃ u, 64 * w ≤ u ∧ u < 64 * W ∧ L u = true ∧ u.testBit j = false ∧ C u = false) ∧ chL [235] D D'
  | _, _, 0, _, _, _, h, _, _, _, _ => absurd h (by omega)
  | 0, w, n + 1, D, r, h1, _, h9, h4, h5, h6 => by
    have : w = W := by omega
    subst this
    refine ⟨D, r, ?_, fun v hv b hb => h5 v hv b hb, ⟨Or.inl, fun q => q.elim (fun q => q) (fun ⟨u, q1, q2, _⟩ => absurd q2 (by omega))⟩, chL_rfl _ _⟩
    rw [e_X0_drop_4, h9, if_pos (Int32.le_refl _)]
    cases r <;> rfl
  | d + 1, w, n + 1, D, r, h1, h2, h9, h4, h5, h6 => by
    have hw : w < W := by omega
    obtain ⟨t, t1, t2⟩ := E_tell (F := F) (P := P) (D := D) (j := j) (w := w) hj (by omega)
    generalize hx : (D.2 235 w &&& (t ||| D.2 237 w)) = x
    have hxb : ∀ b, b < 64 → bt x b = (L (64 * w + b) && ((64 * w + b).testBit j || C (64 * w + b))) := fun b hb => by
      rw [← hx, bt_and, bt_or, h6 w (Nat.le_refl _) hw b hb, t2 b hb, h4 w hw b hb]
    have hch : x = D.2 235 w ↔ ∀ u, 64 * w ≤ u → u < 64 * (w + 1) → ¬ (L u = true ∧ u.testBit j = false ∧ C u = false) := by
      constructor
      · intro q u u1 u2 hc
        have hb : u - 64 * w < 64 := by omega
        have e1 := hxb (u - 64 * w) hb
        rw [q, h6 w (Nat.le_refl _) hw _ hb, show 64 * w + (u - 64 * w) = u by omega, hc.1, hc.2.1, hc.2.2] at e1
        cases e1
      · intro q
        apply bt_ext
        intro b hb
        rw [hxb b hb, h6 w (Nat.le_refl _) hw b hb]
        have := q (64 * w + b) (by omega) (by omega)
        revert this
        cases L (64 * w + b) <;> cases (64 * w + b).testBit j <;> cases C (64 * w + b) <;> simp
    obtain ⟨r2, hr2⟩ : ∃ r2 : Bool, (r2 = true ↔ r = true ∨ ∃ u, 64 * w ≤ u ∧ u < 64 * (w + 1) ∧ L u = true ∧ u.testBit j = false ∧ C u = false) := by
      obtain ⟨q, hq⟩ := pd_ex (fun _ : Unit => r = true ∨ ∃ u, 64 * w ≤ u ∧ u < 64 * (w + 1) ∧ L u = true ∧ u.testBit j = false ∧ C u = false)
      exact ⟨q (), hq ()⟩
    obtain ⟨D', r', e', a1, a2, a3⟩ := E_drop (F := F) (P := P) (L := L) (C := C) hW hj d (w + 1) n (D.1, xup D.2 235 w x) r2 (by omega) (by omega) h9 (fun v hv b hb => by dsimp only; rw [xup_na _ _ _ _ _ (by omega)]; exact h4 v hv b hb) (fun v hv b hb => by
      dsimp only
      by_cases c : v = w
      · subst c; rw [xup_at]; exact hxb b hb
      · rw [xup_nk _ _ _ _ _ c]; exact h5 v (by omega) b hb) (fun v hv hv2 b hb => by dsimp only; rw [xup_nk _ _ _ _ _ (by omega)]; exact h6 v (by omega) hv2 b hb)
    have e55 : ∀ s0 : Int32, s0 = bI r2 → f_X0_drop_55 F P xS0 (f_X0_drop_4 F P xS0 n) 222 (nI j) (nI w) x s0 D = some (bI r', D') := by
      intro s0 hs
      rw [hs, e_X0_drop_55, xgrd_in (by omega) (by omega), nI_clamp (by omega), xlet_q, xlet_q, nI_1]
      exact e'
    refine ⟨D', r', ?_, a1, a2.trans ?_, chL_trans (chL_i (by simp) (chL_rfl _ _)) a3⟩
    · rw [e_X0_drop_4, h9, if_neg (by rw [nI_leI (by omega) (by omega)]; omega), xgrd_in (by omega) (by omega), t1, Option.bind_some]
      dsimp only
      rw [xgrd_in (by omega) (by omega), nI_clamp (by omega), hx, xlet_q, xgrd_in (by omega) (by omega)]
      cases r
      · rw [if_pos (show bI false = 0 from rfl)]
        by_cases c : x = D.2 235 w
        · rw [if_pos ((cmp0 _ _).mpr c)]
          refine e55 0 ?_
          have : r2 = false := by
            rcases h : r2 with _ | _
            · rfl
            · rcases hr2.mp h with q | ⟨u, q1, q2, q3⟩
              · cases q
              · exact absurd q3 (hch.mp c u q1 q2)
          rw [this]; rfl
        · rw [if_neg (fun q => c ((cmp0 _ _).mp q)), e_X0_drop_50]
          refine e55 1 ?_
          have : r2 = true := by
            rcases h : r2 with _ | _
            · exfalso
              apply c
              refine hch.mpr (fun u q1 q2 q3 => ?_)
              have := hr2.mpr (Or.inr ⟨u, q1, q2, q3⟩)
              rw [h] at this; cases this
            · rfl
          rw [this]; rfl
      · rw [if_neg (show ¬ bI true = 0 by decide), e_X0_drop_50]
        refine e55 1 ?_
        rw [hr2.mpr (Or.inl rfl)]; rfl
    · rw [hr2]
      constructor
      · rintro ((q | ⟨u, q1, q2, q3⟩) | ⟨u, q1, q2, q3⟩)
        · exact Or.inl q
        · exact Or.inr ⟨u, q1, by omega, q3⟩
        · exact Or.inr ⟨u, by omega, q2, q3⟩
      · rintro (q | ⟨u, q1, q2, q3⟩)
        · exact Or.inl (Or.inl q)
        · by_cases c : u < 64 * (w + 1)
          · exact Or.inl (Or.inr ⟨u, q1, c, q3⟩)
          · exact Or.inr ⟨u, by omega, q2, q3⟩
