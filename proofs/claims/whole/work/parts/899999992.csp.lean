/-! decide: the class spreads doubt -/
theorem E_53 {F P : Nat} {W : Nat} {L Fd C : Nat → Bool} (hW : W ≤ 128) : ∀ (d w n : Nat) (D : xDt) (r : Bool), w + d = W → d < n → D.1 222 9 = nI W → rS D 235 W L → rS D 236 W Fd → (∀ v, v < w → ∀ b, b < 64 → bt (D.2 237 v) b = (C (64 * v + b) || (Fd (64 * v + b) && L (64 * v + b)))) → (∀ v, w ≤ v → v < W → ∀ b, b < 64 → bt (D.2 237 v) b = C (64 * v + b)) → ∃ D' r', f_X0_spreadBy_53 F P xS0 n 222 (bI r) (nI w) D = some (bI r', D') ∧ rS D' 237 W (fun u => C u || (Fd u && L u)) ∧ (r' = true ↔ r = true ∨ ∃ u, 64 * w ≤ u ∧ u < 64 * W ∧ C u = false ∧ Fd u = true ∧ L u = true) ∧ chL [237] D D'
  | _, _, 0, _, _, _, h, _, _, _, _, _ => absurd h (by omega)
  | 0, w, n + 1, D, r, h1, _, h9, h3, h4, h5, h6 => by
    have : w = W := by omega
    subst this
    refine ⟨D, r, ?_, fun v hv b hb => h5 v hv b hb, ⟨Or.inl, fun q => q.elim (fun q => q) (fun ⟨u, q1, q2, _⟩ => absurd q2 (by omega))⟩, chL_rfl _ _⟩
    rw [e_X0_spreadBy_53, h9, if_pos (Int32.le_refl _)]
    cases r <;> rfl
  | d + 1, w, n + 1, D, r, h1, h2, h9, h3, h4, h5, h6 => by
    have hw : w < W := by omega
    generalize hx : (D.2 237 w ||| (D.2 236 w &&& D.2 235 w)) = x
    have hxb : ∀ b, b < 64 → bt x b = (C (64 * w + b) || (Fd (64 * w + b) && L (64 * w + b))) := fun b hb => by
      rw [← hx, bt_or, bt_and, h6 w (Nat.le_refl _) hw b hb, h4 w hw b hb, h3 w hw b hb]
    have hch : x = D.2 237 w ↔ ∀ u, 64 * w ≤ u → u < 64 * (w + 1) → ¬ (C u = false ∧ Fd u = true ∧ L u = true) := by
      constructor
      · intro q u u1 u2 hc
        have hb : u - 64 * w < 64 := by omega
        have e1 := hxb (u - 64 * w) hb
        rw [q, h6 w (Nat.le_refl _) hw _ hb, show 64 * w + (u - 64 * w) = u by omega, hc.1, hc.2.1, hc.2.2] at e1
        cases e1
      · intro q
        apply bt_ext
        intro b hb
        rw [hxb b hb, h6 w (Nat.le_refl _) hw b hb]
        have := q (64 * w + b) (by omega) (by omega)
        revert this
        cases C (64 * w + b) <;> cases Fd (64 * w + b) <;> cases L (64 * w + b) <;> simp
    obtain ⟨r2, hr2⟩ : ∃ r2 : Bool, (r2 = true ↔ r = true ∨ ∃ u, 64 * w ≤ u ∧ u < 64 * (w + 1) ∧ C u = false ∧ Fd u = true ∧ L u = true) := by
      obtain ⟨q, hq⟩ := pd_ex (fun _ : Unit => r = true ∨ ∃ u, 64 * w ≤ u ∧ u < 64 * (w + 1) ∧ C u = false ∧ Fd u = true ∧ L u = true)
      exact ⟨q (), hq ()⟩
    obtain ⟨D', r', e', a1, a2, a3⟩ := E_53 (F := F) (P := P) (L := L) (Fd := Fd) (C := C) hW d (w + 1) n (D.1, xup D.2 237 w x) r2 (by omega) (by omega) h9 (fun v hv b hb => by dsimp only; rw [xup_na _ _ _ _ _ (by omega)]; exact h3 v hv b hb) (fun v hv b hb => by dsimp only; rw [xup_na _ _ _ _ _ (by omega)]; exact h4 v hv b hb) (fun v hv b hb => by
      dsimp only
      by_cases c : v = w
      · subst c; rw [xup_at]; exact hxb b hb
      · rw [xup_nk _ _ _ _ _ c]; exact h5 v (by omega) b hb) (fun v hv hv2 b hb => by dsimp only; rw [xup_nk _ _ _ _ _ (by omega)]; exact h6 v (by omega) hv2 b hb)
    have e104 : ∀ s0 : Int32, s0 = bI r2 → f_X0_spreadBy_104 F P xS0 (f_X0_spreadBy_53 F P xS0 n) 222 (nI w) x s0 D = some (bI r', D') := by
      intro s0 hs
      rw [hs, e_X0_spreadBy_104, xgrd_in (by omega) (by omega), nI_clamp (by omega), xlet_q, xlet_q, nI_1]
      exact e'
    refine ⟨D', r', ?_, a1, a2.trans ?_, chL_trans (chL_i (by simp) (chL_rfl _ _)) a3⟩
    · rw [e_X0_spreadBy_53, h9, if_neg (by rw [nI_leI (by omega) (by omega)]; omega), xgrd_in (by omega) (by omega), xgrd_in (by omega) (by omega), xgrd_in (by omega) (by omega), nI_clamp (by omega), hx, xlet_q, xgrd_in (by omega) (by omega)]
      cases r
      · rw [if_pos (show bI false = 0 from rfl)]
        by_cases c : x = D.2 237 w
        · rw [if_pos ((cmp0 _ _).mpr c)]
          refine e104 0 ?_
          have : r2 = false := by
            rcases h : r2 with _ | _
            · rfl
            · rcases hr2.mp h with q | ⟨u, q1, q2, q3⟩
              · cases q
              · exact absurd q3 (hch.mp c u q1 q2)
          rw [this]; rfl
        · rw [if_neg (fun q => c ((cmp0 _ _).mp q)), e_X0_spreadBy_99]
          refine e104 1 ?_
          have : r2 = true := by
            rcases h : r2 with _ | _
            · exfalso
              apply c
              refine hch.mpr (fun u q1 q2 q3 => ?_)
              have := hr2.mpr (Or.inr ⟨u, q1, q2, q3⟩)
              rw [h] at this; cases this
            · rfl
          rw [this]; rfl
      · rw [if_neg (show ¬ bI true = 0 by decide), e_X0_spreadBy_99]
        refine e104 1 ?_
        rw [hr2.mpr (Or.inl rfl)]; rfl
    · rw [hr2]
      constructor
      · rintro ((q | ⟨u, q1, q2, q3⟩) | ⟨u, q1, q2, q3⟩)
        · exact Or.inl q
        · exact Or.inr ⟨u, q1, by omega, q3⟩
        · exact Or.inr ⟨u, by omega, q2, q3⟩
      · rintro (q | ⟨u, q1, q2, q3⟩)
        · exact Or.inl (Or.inl q)
        · by_cases c : u < 64 * (w + 1)
          · exact Or.inl (Or.inr ⟨u, q1, c, q3⟩)
          · exact Or.inr ⟨u, by omega, q2, q3⟩
/-- what the class keeps while it sifts -/
def sCd (D : xDt) (N B : List T) : Prop := cst D N B ∧ D.1 222 9 = nI (wdn B.length) ∧ (∀ a, a < 4 → kB D B a) ∧ ∀ w, w < wdn B.length → pR2 B D w
theorem sCd_L {D D' : xDt} {N B : List T} (h : sCd D N B) (hc : D'.1 = D.1) (h2 : D'.2 233 = D.2 233) : sCd D' N B := ⟨cst_L h.1 hc, by rw [hc]; exact h.2.1, fun a ha => by unfold kB; rw [hc]; exact h.2.2.1 a ha, fun w hw => by unfold pR2; rw [h2]; exact h.2.2.2 w hw⟩
theorem E_19 {F P : Nat} (hF : 100000 < F) {N B : List T} {s : Nat} {C : Nat → Bool} : ∀ (d j n : Nat) (D : xDt), j + d = B.length → d < n → sCd D N B → rS D 236 (wdn B.length) (fnd s C j) → ∃ D', f_X0_spreadBy_19 F P xS0 n 222 (nI s) (nI j) D = f_X0_spreadBy_53 F P xS0 F 222 0 0 D' ∧ rS D' 236 (wdn B.length) (fnd s C B.length) ∧ chL [236] D D'
  | _, _, 0, _, _, h, _, _ => absurd h (by omega)
  | 0, j, n + 1, D, h1, _, h3, h4 => by
    have h13 := h3.1.1.2.2.2.2.2.1
    have : j = B.length := by omega
    subst this
    refine ⟨D, ?_, h4, chL_rfl _ _⟩
    rw [e_X0_spreadBy_19, h3.1.1.2.2.2.2.2.2.1, if_pos (Int32.le_refl _)]
  | d + 1, j, n + 1, D, h1, h2, h3, h4 => by
    have h13 := h3.1.1.2.2.2.2.2.1
    have ih := fun D => E_19 (F := F) (P := P) hF (N := N) (B := B) (s := s) (C := C) d (j + 1) n D (by omega) (by omega)
    rw [e_X0_spreadBy_19, h3.1.1.2.2.2.2.2.2.1, if_neg (by rw [nI_leI (by omega) (by omega)]; omega), sh_bit s (by omega)]
    cases hb : s.testBit j
    · rw [if_pos (show bI false = 0 from rfl)]
      obtain ⟨D1, e1, a1, a2⟩ := E_lo (F := F) (P := P) hF (n := B.length) (j := j) h13 (by omega) h3.2.1 h4
      rw [e1, Option.bind_some, e_X0_spreadBy_43, xlet_q, nI_1]
      obtain ⟨D', e', b1, b2⟩ := ih D1 (sCd_L h3 a2.1 (a2.2 233 (by decide))) (fun w hw b hb2 => by
        rw [a1 w hw b hb2, fnd, hb]; rfl)
      exact ⟨D', e', b1, chL_trans a2 b2⟩
    · rw [if_neg (show ¬ bI true = 0 by decide), e_X0_spreadBy_43, xlet_q, nI_1]
      exact ih D h3 (fun w hw b hb2 => by rw [h4 w hw b hb2, fnd, hb]; rfl)
theorem E_spb {F P : Nat} (hF : 100000 < F) {D : xDt} {N B : List T} {s : Nat} {L C : Nat → Bool} (h : sCd D N B) (hL : rS D 235 (wdn B.length) L) (hC : rS D 237 (wdn B.length) C) : ∃ D' r, f_X0_spreadBy F P xS0 222 (nI s) D = some (bI r, D') ∧ rS D' 237 (wdn B.length) (fun u => C u || (fnd s C B.length u && L u)) ∧ (r = true ↔ ∃ u, u < 64 * wdn B.length ∧ C u = false ∧ fnd s C B.length u = true ∧ L u = true) ∧ chL [236, 237] D D' := by
  have h13 := h.1.1.2.2.2.2.2.1
  obtain ⟨w1, w2, w3, w4⟩ := wdn_le h13
  generalize hD2 : ((D.1, xcp D.2 237 236 0 0 (wdn B.length)) : xDt) = D2
  have d2 : D2.1 = D.1 := by rw [← hD2]
  have d2L : ∀ x, x ≠ 236 → D2.2 x = D.2 x := fun x hx => by rw [← hD2]; dsimp only; rw [xcp_ne _ _ _ _ _ _ hx]
  have d2c : ∀ w, w < wdn B.length → D2.2 236 w = D.2 237 w := fun w hw => by
    rw [← hD2]; dsimp only; rw [xcp_eq]
    unfold va_cpy
    rw [if_pos (by omega), show 0 + (w - 0) = w by omega]
  have h2 : sCd D2 N B := sCd_L h d2 (d2L 233 (by omega))
  obtain ⟨D3, e3, a1, a2⟩ := E_19 (F := F) (P := P) hF (N := N) (B := B) (s := s) (C := C) B.length 0 F D2 (by omega) (by omega) h2 (fun w hw b hb => by rw [d2c w hw, hC w hw b hb]; rfl)
  obtain ⟨D4, r, e4, b1, b2, b3⟩ := E_53 (F := F) (P := P) (L := L) (Fd := fnd s C B.length) (C := C) w2 (wdn B.length) 0 F D3 false (by omega) (by omega) (by rw [a2.1]; exact h2.2.1) (fun w hw b hb => by rw [a2.2 235 (by decide), d2L 235 (by omega)]; exact hL w hw b hb) a1 (fun v hv => absurd hv (by omega)) (fun v _ hv b hb => by rw [a2.2 237 (by decide), d2L 237 (by omega)]; exact hC v hv b hb)
  refine ⟨D4, r, ?_, b1, ?_, ?_⟩
  · have hc : xcpin 0 0 (nI (wdn B.length)) 128 128 = true := by
      unfold xcpin
      rw [nI_clamp (by omega)]
      have z1 : (0 : Int32).toNatClampNeg + wdn B.length ≤ 128 := by rw [show (0 : Int32).toNatClampNeg = 0 from rfl]; omega
      rw [decide_eq_true (show (0 : Int32) ≤ 0 by decide), decide_eq_true (nI_pos' (show wdn B.length < 2 ^ 31 by omega)), decide_eq_true z1]
      rfl
    rw [e_X0_spreadBy, h.2.1, hc, xgrd_t, xlet_q, nI_clamp (by omega), show (0 : Int32).toNatClampNeg = 0 from rfl, hD2, show f_X0_spreadBy_19 F P xS0 F 222 (nI s) 0 D2 = _ from e3]
    exact e4
  · rw [b2]
    constructor
    · rintro (q | ⟨u, q1, q2⟩)
      · cases q
      · exact ⟨u, q2⟩
    · rintro ⟨u, q⟩; exact Or.inr ⟨u, by omega, q⟩
  · refine chL_trans ?_ (chL_trans (chL_mono a2 (fun x hx => by simp at hx ⊢; omega)) (chL_mono b3 (fun x hx => by simp at hx ⊢; omega)))
    exact ⟨d2, fun x hx => d2L x (by simp at hx; omega)⟩
/-- come to -/
def cI (bx : T → Prop) (B : List T) (x : T) (L C : Nat → Bool) : Prop := (∀ u, C u = true → u < 2 ^ B.length ∧ L u = true) ∧ (∀ u, u < 2 ^ B.length → L u = true → evt (val B u) (lft x) = false → C u = true) ∧ ∀ u, C u = true → nrch bx B x L u
def clA (bx : T → Prop) (B : List T) (a : Nat) (L C : Nat → Bool) : Prop := ∀ u' u, C u' = true → u < 2 ^ B.length → L u = true → sam bx a (val B u') (val B u) → C u = true
theorem fnd_sam {bx : T → Prop} {B : List T} (hn : B.Nodup) (hB : ∀ x, x ∈ B ↔ bx x) {a s : Nat} (hs : ∀ j, s.testBit j = true ↔ ∃ x, B[j]? = some x ∧ tsr x = 5 ∧ mrk x = 2 ^ a) {C : Nat → Bool} (hC : ∀ u, C u = true → u < 2 ^ B.length) {u : Nat} (hu : u < 2 ^ B.length) : fnd s C B.length u = true ↔ ∃ u', C u' = true ∧ sam bx a (val B u') (val B u) := by
  rw [fnd_iff]
  refine exists_congr fun u' => and_congr_right fun hc => ?_
  rw [← key_sam hn hB hs, and_eq]
  have hu' := hC u' hc
  have hz : ∀ i, B.length ≤ i → u.testBit i = u'.testBit i := fun i hi => by
    rw [Nat.testBit_lt_two_pow (Nat.lt_of_lt_of_le hu (Nat.pow_le_pow_right (by omega) hi)), Nat.testBit_lt_two_pow (Nat.lt_of_lt_of_le hu' (Nat.pow_le_pow_right (by omega) hi))]
  constructor
  · intro h j hj
    by_cases c : u.testBit j = u'.testBit j
    · exact c.symm
    · have := (h j c).2; rw [hj] at this; cases this
  · intro h i hi
    refine ⟨?_, ?_⟩
    · by_cases c : i < B.length
      · exact c
      · exact absurd (hz i (by omega)) hi
    · rcases hq : s.testBit i with _ | _
      · rfl
      · exact absurd (h i hq).symm hi
/-- one agent's step -/
theorem cI_step {bx : T → Prop} {B : List T} (hn : B.Nodup) (hB : ∀ x, x ∈ B ↔ bx x) {x : T} {a s : Nat} (ha : a < 4) (hm : (mrk x).testBit a = true) (hs : ∀ j, s.testBit j = true ↔ ∃ x, B[j]? = some x ∧ tsr x = 5 ∧ mrk x = 2 ^ a) {L C : Nat → Bool} (hL : ∀ u, L u = true → u < 2 ^ B.length) (h : cI bx B x L C) : cI bx B x L (fun u => C u || (fnd s C B.length u && L u)) ∧ clA bx B a L (fun u => C u || (fnd s C B.length u && L u)) := by
  have hC : ∀ u, C u = true → u < 2 ^ B.length := fun u q => (h.1 u q).1
  have key : ∀ u, (C u || (fnd s C B.length u && L u)) = true ↔ C u = true ∨ (L u = true ∧ ∃ u', C u' = true ∧ sam bx a (val B u') (val B u)) := by
    intro u
    rw [Bool.or_eq_true, Bool.and_eq_true]
    refine or_congr_right ⟨fun ⟨q1, q2⟩ => ⟨q2, (fnd_sam hn hB hs hC (hL u q2)).mp q1⟩, fun ⟨q1, q2⟩ => ⟨(fnd_sam hn hB hs hC (hL u q1)).mpr q2, q1⟩⟩
  refine ⟨⟨fun u q => ?_, fun u q1 q2 q3 => ?_, fun u q => ?_⟩, fun u' u q1 q2 q3 q4 => ?_⟩
  · rcases (key u).mp q with q | ⟨q, _⟩
    · exact h.1 u q
    · exact ⟨hL u q, q⟩
  · exact (key u).mpr (Or.inl (h.2.1 u q1 q2 q3))
  · rcases (key u).mp q with q | ⟨q1, u', q2, q3⟩
    · exact h.2.2 u q
    · intro Y hY
      exact hY.2 u' u (hC u' q2) (hL u q1) (h.2.2 u' q2 Y hY) (h.1 u' q2).2 q1 ⟨a, ha, hm, q3⟩
  · refine (key u).mpr ?_
    rcases (key u').mp q1 with q | ⟨q5, u'', q6, q7⟩
    · exact Or.inr ⟨q3, u', q, q4⟩
    · exact Or.inr ⟨q3, u'', q6, fun y y1 y2 y3 => (q7 y y1 y2 y3).trans (q4 y y1 y2 y3)⟩
