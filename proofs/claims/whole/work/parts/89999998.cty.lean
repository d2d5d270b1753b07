/-! decide: the class's types, as bits -/
def wdn (n : Nat) : Nat := if n ≤ 6 then 1 else 2 ^ (n - 6)
def rS (D : xDt) (c : Nat) (W : Nat) (S : Nat → Bool) : Prop := ∀ w, w < W → ∀ b, b < 64 → bt (D.2 c w) b = S (64 * w + b)
theorem wdn_le {n : Nat} (h : n ≤ 13) : 1 ≤ wdn n ∧ wdn n ≤ 128 ∧ 2 ^ n ≤ 64 * wdn n ∧ 64 * wdn n ≤ 8192 := by
  have : ∀ n, n < 14 → 1 ≤ wdn n ∧ wdn n ≤ 128 ∧ 2 ^ n ≤ 64 * wdn n ∧ 64 * wdn n ≤ 8192 := by decide +kernel
  exact this n (by omega)
section
variable {F P : Nat} {D : xDt} {N B : List T}
theorem E_tok {j : Nat} {x : T} (h : cst D N B) (hj : B[j]? = some x) : f_X0_tokenAt F P xS0 222 (nI j) D = some (nI (tk (tsr x) (mrk x)), D) := by
  obtain ⟨_, i, hi, h2⟩ := h.1.2.2.2.2.2.2.2 j x hj
  have h3 := h.1.2.2.2.1 i x hi
  have := lt_of_at hj
  have := lt_of_at hi
  have := h.1.2.1
  have := h.1.2.2.2.2.2.1
  rw [e_X0_tokenAt, xgrd_in (by omega) (by omega), nI_clamp (by omega), h2, xgrd_in (by omega) (by omega), nI_clamp (by omega), h3.2.1]
end
theorem tmw_b {x : T} (h : tmw x) : 1 ≤ tsr x ∧ tsr x ≤ 13 ∧ mOK (tsr x) (mrk x) := by
  match x, h with
  | .inner s m () l r, h => exact ⟨h.1, h.2.1, h.2.2.1⟩
theorem cst_b {D : xDt} {N B : List T} (h : cst D N B) {j : Nat} {x : T} (hj : B[j]? = some x) : tmw x ∧ isB (tsr x) = true := by
  obtain ⟨h1, i, hi, _⟩ := h.1.2.2.2.2.2.2.2 j x hj
  exact ⟨(h.1.2.2.2.1 i x hi).1, h1⟩
theorem E_fk16 {F P : Nat} {N B : List T} {a : Nat} (ha : a < 4) {rec : Nat → Int32 → xDt → Option xDt} : ∀ (d k n : Nat) (D : xDt) (acc : Nat), k + d = B.length → d < n → cst D N B → acc < 2 ^ 13 → D.1 238 a = nI acc → ∃ D' w, f_X0_findKnownBits_16 F P xS0 rec n 222 (nI a) (nI k) D = rec 222 (nI (a + 1)) D' ∧ D'.1 238 a = nI w ∧ w < 2 ^ 13 ∧ (∀ j, w.testBit j = true ↔ acc.testBit j = true ∨ (k ≤ j ∧ ∃ x, B[j]? = some x ∧ tsr x = 5 ∧ mrk x = 2 ^ a)) ∧ (∀ b, b ≠ a → D'.1 238 b = D.1 238 b) ∧ ch [238] [] D D'
  | _, _, 0, _, _, _, h, _, _, _ => absurd h (by omega)
  | 0, k, n + 1, D, acc, h1, _, h3, h4, h5 => by
    have h13 := h3.1.2.2.2.2.2.1
    refine ⟨D, acc, ?_, h5, h4, fun j => ⟨Or.inl, fun q => q.elim (fun q => q) (fun ⟨q1, x, q2, _⟩ => absurd (lt_of_at q2) (by omega))⟩, fun _ _ => rfl, ch_rfl _ _ _⟩
    rw [e_X0_findKnownBits_16, h3.1.2.2.2.2.2.2.1, if_pos (by rw [nI_leI (by omega) (by omega)]; omega), nI_1]
    rfl
  | d + 1, k, n + 1, D, acc, h1, h2, h3, h4, h5 => by
    have hk : k < B.length := by omega
    have h13 := h3.1.2.2.2.2.2.1
    obtain ⟨x, hx⟩ : ∃ x, B[k]? = some x := ⟨B[k], List.getElem?_eq_getElem hk⟩
    obtain ⟨g1, g2, g3⟩ := tmw_b (cst_b h3 hx).1
    rw [e_X0_findKnownBits_16, h3.1.2.2.2.2.2.2.1, if_neg (by rw [nI_leI (by omega) (by omega)]; omega), E_tok h3 hx, Option.bind_some]
    unfold f_X11_withAgents
    rw [Option.bind_some, a_bit a ha, wa_K a ha]
    dsimp only
    have e := tk_eq g1 (by omega) g3 (show 1 ≤ 5 by omega) (by omega) (mOK_K ha)
    by_cases c : tsr x = 5 ∧ mrk x = 2 ^ a
    · rw [if_pos (e.mpr c), xgrd_in ha (by omega), nI_clamp (by omega), h5, sh_1 k (by omega), nI_or, xgrd_in ha (by omega)]
      simp only [xlet]
      rw [e_X0_findKnownBits_55, nI_1]
      simp only [xlet]
      have hp : 2 ^ k < 2 ^ 13 := Nat.pow_lt_pow_right (by omega) (by omega)
      have hcs : cst (xup D.1 238 a (nI (acc ||| 2 ^ k)), D.2) N B := by
        have q : ∀ y, y ≠ 238 → ((xup D.1 238 a (nI (acc ||| 2 ^ k)), D.2) : xDt).1 y = D.1 y := fun y hy => by dsimp only; rw [xup_ne _ _ _ _ hy]
        obtain ⟨⟨a1, a2, a3, a4, a5, a6, a7, a8⟩, b1, b2, b3⟩ := h3
        refine ⟨⟨a1, a2, by rw [q 224 (by omega)]; exact a3, ?_, a5, a6, by rw [q 224 (by omega)]; exact a7, ?_⟩, ?_, ?_, ?_⟩
        · rw [q 225 (by omega), q 226 (by omega), q 227 (by omega), q 228 (by omega)]; exact a4
        · rw [q 229 (by omega)]; exact a8
        · rw [q 230 (by omega)]; exact b1
        · rw [q 230 (by omega)]; exact b2
        · rw [q 225 (by omega), q 226 (by omega), q 227 (by omega), q 230 (by omega)]; exact b3
      obtain ⟨D', w, e1, e2, e3, e4, e5, e6⟩ := E_fk16 (F := F) (P := P) ha (rec := rec) d (k + 1) n (xup D.1 238 a (nI (acc ||| 2 ^ k)), D.2) (acc ||| 2 ^ k) (by omega) (by omega) hcs (Nat.or_lt_two_pow h4 hp) (by dsimp only; rw [xup_at])
      refine ⟨D', w, e1, e2, e3, fun j => (e4 j).trans ?_, fun b hb => by rw [e5 b hb]; dsimp only; rw [xup_nk _ _ _ _ _ hb], ch_trans (ch_i (by simp) (ch_rfl _ _ _)) e6⟩
      rw [Nat.testBit_or, Nat.testBit_two_pow, Bool.or_eq_true, decide_eq_true_eq]
      constructor
      · rintro ((q | q) | ⟨q1, q2⟩)
        · exact Or.inl q
        · subst q; exact Or.inr ⟨Nat.le_refl _, x, hx, c⟩
        · exact Or.inr ⟨by omega, q2⟩
      · rintro (q | ⟨q1, q2⟩)
        · exact Or.inl (Or.inl q)
        · by_cases ck : j = k
          · exact Or.inl (Or.inr ck.symm)
          · exact Or.inr ⟨by omega, q2⟩
    · rw [if_neg (fun q => c (e.mp q)), e_X0_findKnownBits_55, nI_1]
      simp only [xlet]
      obtain ⟨D', w, e1, e2, e3, e4, e5, e6⟩ := E_fk16 (F := F) (P := P) ha (rec := rec) d (k + 1) n D acc (by omega) (by omega) h3 h4 h5
      refine ⟨D', w, e1, e2, e3, fun j => (e4 j).trans (or_congr_right ⟨fun ⟨q1, q2⟩ => ⟨by omega, q2⟩, fun ⟨q1, y, q2, q3⟩ => ⟨?_, y, q2, q3⟩⟩), e5, e6⟩
      by_cases ck : j = k
      · subst ck; rw [hx] at q2; injection q2 with q2; subst q2; exact absurd q3 c
      · omega
theorem cst_ch {D D' : xDt} {N B : List T} (h : cst D N B) (hc : ∀ x, 224 ≤ x → x ≤ 230 → D'.1 x = D.1 x) : cst D' N B := by
  obtain ⟨⟨a1, a2, a3, a4, a5, a6, a7, a8⟩, b1, b2, b3⟩ := h
  refine ⟨⟨a1, a2, by rw [hc 224 (by omega) (by omega)]; exact a3, ?_, a5, a6, by rw [hc 224 (by omega) (by omega)]; exact a7, ?_⟩, ?_, ?_, ?_⟩
  · rw [hc 225 (by omega) (by omega), hc 226 (by omega) (by omega), hc 227 (by omega) (by omega), hc 228 (by omega) (by omega)]; exact a4
  · rw [hc 229 (by omega) (by omega)]; exact a8
  · rw [hc 230 (by omega) (by omega)]; exact b1
  · rw [hc 230 (by omega) (by omega)]; exact b2
  · rw [hc 225 (by omega) (by omega), hc 226 (by omega) (by omega), hc 227 (by omega) (by omega), hc 230 (by omega) (by omega)]; exact b3
/-- the places of each one's K -/
def kB (D : xDt) (B : List T) (a : Nat) : Prop := ∃ w, D.1 238 a = nI w ∧ w < 2 ^ 13 ∧ ∀ j, w.testBit j = true ↔ ∃ x, B[j]? = some x ∧ tsr x = 5 ∧ mrk x = 2 ^ a
theorem E_fk2 {F P : Nat} (hF : 100000 < F) {N B : List T} : ∀ (d a n : Nat) (D : xDt), a + d = 4 → d < n → cst D N B → (∀ b, b < a → kB D B b) → ∃ D', f_X0_findKnownBits_2 F P xS0 n 222 (nI a) D = some D' ∧ (∀ b, b < 4 → kB D' B b) ∧ ch [238] [] D D'
  | _, _, 0, _, _, h, _, _ => absurd h (by omega)
  | 0, a, n + 1, D, h1, _, h3, h4 => by
    refine ⟨D, ?_, fun b hb => h4 b (by omega), ch_rfl _ _ _⟩
    rw [e_X0_findKnownBits_2, if_pos (show (4 : Int32) ≤ nI a from (nI_leI (a := 4) (by omega) (by omega)).mpr (by omega))]
  | d + 1, a, n + 1, D, h1, h2, h3, h4 => by
    have h13 := h3.1.2.2.2.2.2.1
    rw [e_X0_findKnownBits_2, if_neg (show ¬ (4 : Int32) ≤ nI a from fun q => by have := (nI_leI (a := 4) (by omega) (by omega)).mp q; omega), xgrd_in (by omega) (by omega), nI_clamp (by omega)]
    simp only [xlet]
    have hcs : cst (xup D.1 238 a 0, D.2) N B := cst_ch h3 (fun x q1 q2 => by dsimp only; rw [xup_ne _ _ _ _ (by omega)])
    obtain ⟨D1, w, e1, e2, e3, e4, e5, e6⟩ := E_fk16 (F := F) (P := P) (a := a) (by omega) (rec := f_X0_findKnownBits_2 F P xS0 n) B.length 0 F (xup D.1 238 a 0, D.2) 0 (by omega) (by omega) hcs (by decide) (by dsimp only; rw [xup_at]; rfl)
    rw [show f_X0_findKnownBits_16 F P xS0 (f_X0_findKnownBits_2 F P xS0 n) F 222 (nI a) 0 (xup D.1 238 a 0, D.2) = _ from e1]
    obtain ⟨D2, f1, f2, f3⟩ := E_fk2 (P := P) hF d (a + 1) n D1 (by omega) (by omega) (cst_ch hcs (fun x q1 q2 => e6.1 x (by simp; omega))) (fun b hb => by
      by_cases c : b = a
      · subst c
        exact ⟨w, e2, e3, fun j => (e4 j).trans ⟨fun q => q.elim (fun q => by simp at q) (fun q => q.2), fun q => Or.inr ⟨by omega, q⟩⟩⟩
      · obtain ⟨w', q1, q2⟩ := h4 b (by omega)
        exact ⟨w', by rw [e5 b c]; dsimp only; rw [xup_nk _ _ _ _ _ c]; exact q1, q2⟩)
    exact ⟨D2, f1, f2, ch_trans (ch_i (by simp) (ch_rfl _ _ _)) (ch_trans e6 f3)⟩
/-! telling -/
theorem tl_lo (w b : Nat) {j : Nat} (hj : j < 6) (hb : b < 64) : (64 * w + b).testBit j = b.testBit j := by
  rw [show 64 = 2 ^ 6 from rfl, Nat.testBit_two_pow_mul_add _ (show b < 2 ^ 6 from hb), if_pos hj]
theorem tl_hi (w b : Nat) {j : Nat} (hj : 6 ≤ j) (hb : b < 64) : (64 * w + b).testBit j = w.testBit (j - 6) := by
  rw [show 64 = 2 ^ 6 from rfl, Nat.testBit_two_pow_mul_add _ (show b < 2 ^ 6 from hb), if_neg (by omega)]
theorem set_b : ∀ j, j < 6 → ∀ b, b < 64 → bt (xSETv j) b = b.testBit j := by decide +kernel
theorem E_tell {F P : Nat} {D : xDt} {j w : Nat} (hj : j < 13) (hw : w < 128) : ∃ z, f_X0_telling F P xS0 222 (nI j) (nI w) D = some (z, D) ∧ ∀ b, b < 64 → bt z b = (64 * w + b).testBit j := by
  rw [e_X0_telling]
  by_cases c : 6 ≤ j
  · rw [if_pos (show (6 : Int32) ≤ nI j from (nI_leI (a := 6) (by omega) (by omega)).mpr c), k6, nI_sub c, sh_bit w (by omega)]
    cases hb : w.testBit (j - 6)
    · rw [if_pos (show bI false = 0 from rfl)]
      exact ⟨0, rfl, fun b hb2 => by rw [tl_hi w b c hb2, hb, bt_0]⟩
    · rw [if_neg (show ¬ bI true = 0 by decide)]
      exact ⟨-1, rfl, fun b hb2 => by rw [tl_hi w b c hb2, hb, bt_m1]; simp [hb2]⟩
  · rw [if_neg (show ¬ (6 : Int32) ≤ nI j from fun q => c ((nI_leI (a := 6) (by omega) (by omega)).mp q)), xgrd_in (by omega) (by omega), nI_clamp (by omega)]
    exact ⟨_, rfl, fun b hb2 => by rw [set_b j (by omega) b hb2, tl_lo w b (by omega) hb2]⟩
theorem sgc_38 : ∀ s, s < 15 → ∀ m, m < 16 → (nI (sgn (s + 1) (mkv s m)) = 38 ↔ s + 1 = 13) := by decide +kernel
theorem sgc_49 : ∀ s, s < 15 → ∀ m, m < 16 → (nI (sgn (s + 1) (mkv s m)) = 49 ↔ s + 1 = 3) := by decide +kernel
theorem sgc_61 : ∀ s, s < 15 → ∀ m, m < 16 → (nI (sgn (s + 1) (mkv s m)) = 61 ↔ s + 1 = 10) := by decide +kernel
theorem sgc_62 : ∀ s, s < 15 → ∀ m, m < 16 → (nI (sgn (s + 1) (mkv s m)) = 62 ↔ s + 1 = 11) := by decide +kernel
theorem sgc_124 : ∀ s, s < 15 → ∀ m, m < 16 → (nI (sgn (s + 1) (mkv s m)) = 124 ↔ s + 1 = 12) := by decide +kernel
theorem sgc_126 : ∀ s, s < 15 → ∀ m, m < 16 → (nI (sgn (s + 1) (mkv s m)) = 126 ↔ s + 1 = 4) := by decide +kernel
theorem sgc_75 : ∀ s, s < 15 → ∀ m, m < 16 → (nI (sgn (s + 1) (mkv s m)) = 75 ↔ s + 1 = 5) := by decide +kernel
theorem sgc_67 : ∀ s, s < 15 → ∀ m, m < 16 → (nI (sgn (s + 1) (mkv s m)) = 67 ↔ s + 1 = 8) := by decide +kernel
theorem sgc' {s m : Nat} (h1 : 1 ≤ s) (h2 : s ≤ 15) (h : mOK s m) : (nI (sgn s m) = 38 ↔ s = 13) ∧ (nI (sgn s m) = 49 ↔ s = 3) ∧ (nI (sgn s m) = 61 ↔ s = 10) ∧ (nI (sgn s m) = 62 ↔ s = 11) ∧ (nI (sgn s m) = 124 ↔ s = 12) ∧ (nI (sgn s m) = 126 ↔ s = 4) ∧ (nI (sgn s m) = 75 ↔ s = 5) ∧ (nI (sgn s m) = 67 ↔ s = 8) := by
  have e1 := mkv_ok h1 h
  have e2 := Nat.sub_add_cancel h1
  have hm := m16 h
  have q38 := sgc_38 (s - 1) (by omega) m hm
  rw [e1, e2] at q38
  have q49 := sgc_49 (s - 1) (by omega) m hm
  rw [e1, e2] at q49
  have q61 := sgc_61 (s - 1) (by omega) m hm
  rw [e1, e2] at q61
  have q62 := sgc_62 (s - 1) (by omega) m hm
  rw [e1, e2] at q62
  have q124 := sgc_124 (s - 1) (by omega) m hm
  rw [e1, e2] at q124
  have q126 := sgc_126 (s - 1) (by omega) m hm
  rw [e1, e2] at q126
  have q75 := sgc_75 (s - 1) (by omega) m hm
  rw [e1, e2] at q75
  have q67 := sgc_67 (s - 1) (by omega) m hm
  rw [e1, e2] at q67
  exact ⟨q38, q49, q61, q62, q124, q126, q75, q67⟩
/-- a word of each term -/
theorem E_vof {F P : Nat} {D : xDt} {N B : List T} {i w : Nat} {x : T} (h : cst D N B) (hw : w < 128) (hi : N[i]? = some x) (hv : ∀ j y, j < i → N[j]? = some y → ∀ b, b < 64 → bt (D.2 232 j) b = evt (val B (64 * w + b)) y) : ∃ z, f_X0_valueOf F P xS0 222 (nI i) (nI w) D = some (z, D) ∧ ∀ b, b < 64 → bt z b = evt (val B (64 * w + b)) x := by
  obtain ⟨c1, c2, c3, c4, c5⟩ := h.1.2.2.2.1 i x hi
  have hil := lt_of_at hi
  have hz := h.1.2.1
  have h13 := h.1.2.2.2.2.2.1
  obtain ⟨g1, g2, g3⟩ := tmw_b c1
  rw [e_X0_valueOf, xgrd_in (by omega) (by omega), nI_clamp (by omega)]
  rcases c5 with ⟨hb, e⟩ | ⟨k, hk, e⟩
  · rw [e, if_pos (by decide), c2]
    have hlt : ∀ v : Int32, ∀ y : T, ckc N i y v → ∃ j, j < 2400 ∧ v = nI j ∧ (y ≠ nil → ∀ b, b < 64 → bt (D.2 232 j) b = evt (val B (64 * w + b)) y) := by
      intro v y hc
      rcases hc with ⟨rfl, rfl⟩ | ⟨_, j, q1, q2, rfl⟩
      · exact ⟨0, by omega, rfl, fun q => absurd rfl q⟩
      · exact ⟨j, by omega, rfl, fun _ => hv j y q1 q2⟩
    obtain ⟨jl, l1, l2, l3⟩ := hlt _ _ c3
    obtain ⟨jr, r1, r2, r3⟩ := hlt _ _ c4
    rw [l2, r2, xgrd_in (by omega) (by omega), xgrd_in (by omega) (by omega), nI_clamp (by omega)]
    simp only [xlet]
    rw [xgrd_in (by omega) (by omega), xgrd_in (by omega) (by omega), nI_clamp (by omega), xgrd_in (by omega) (by omega), E_signOf (by omega) (m16 g3), Option.bind_some]
    dsimp only
    obtain ⟨s13, s3, s10, s11, s12, s4, _, _⟩ := sgc' g1 (by omega) g3
    match x, c1, hb, l3, r3, g1, g2, s13, s3, s10, s11, s12, s4 with
    | .inner s m () l r, c1, hb, l3, r3, g1, g2, s13, s3, s10, s11, s12, s4 =>
      have hb' : isB s = false := hb
      obtain ⟨_, _, _, w4⟩ := c1
      have hev : ∀ b, evt (val B (64 * w + b)) (bn s m l r) = evs s (evt (val B (64 * w + b)) l) (evt (val B (64 * w + b)) r) := fun b => by rw [evt_b, hb', if_neg (by decide)]
      have hln : 4 ≤ s → l ≠ nil := fun q => by
        rcases w4 with ⟨q1, _⟩ | ⟨_, _, q2, _⟩ | ⟨_, q2, _⟩
        · omega
        · exact q2
        · exact q2
      have hrn : 10 ≤ s → r ≠ nil := fun q => by
        rcases w4 with ⟨q1, _⟩ | ⟨_, q1, _, _⟩ | ⟨_, _, q2⟩
        · omega
        · omega
        · exact q2
      have l3' : 4 ≤ s → ∀ b, b < 64 → bt (D.2 232 jl) b = evt (val B (64 * w + b)) l := fun q => l3 (hln q)
      have r3' : 10 ≤ s → ∀ b, b < 64 → bt (D.2 232 jr) b = evt (val B (64 * w + b)) r := fun q => r3 (hrn q)
      rw [show sgn (tsr (Std.DTreeMap.Internal.Impl.inner s m () l r : T)) (mrk (Std.DTreeMap.Internal.Impl.inner s m () l r : T)) = sgn s m from rfl]
      have s13' : nI (sgn s m) = 38 ↔ s = 13 := s13
      have s3' : nI (sgn s m) = 49 ↔ s = 3 := s3
      have s10' : nI (sgn s m) = 61 ↔ s = 10 := s10
      have s11' : nI (sgn s m) = 62 ↔ s = 11 := s11
      have s12' : nI (sgn s m) = 124 ↔ s = 12 := s12
      have s4' : nI (sgn s m) = 126 ↔ s = 4 := s4
      by_cases k13 : s = 13
      · rw [if_pos (s13'.mpr k13)]
        exact ⟨_, rfl, fun b hb => by rw [hev, bt_and, l3' (by omega) b hb, r3' (by omega) b hb, k13]; rfl⟩
      rw [if_neg (fun q => k13 (s13'.mp q))]
      by_cases k3 : s = 3
      · rw [if_pos (s3'.mpr k3)]
        exact ⟨_, rfl, fun b hb => by rw [hev, bt_m1, k3]; simp [hb, evs]⟩
      rw [if_neg (fun q => k3 (s3'.mp q))]
      by_cases k10 : s = 10
      · rw [if_pos (s10'.mpr k10)]
        refine ⟨_, rfl, fun b hb => ?_⟩
        rw [hev, bt_not _ hb, bt_xor, l3' (by omega) b hb, r3' (by omega) b hb, k10]
        cases evt (val B (64 * w + b)) l <;> cases evt (val B (64 * w + b)) r <;> rfl
      rw [if_neg (fun q => k10 (s10'.mp q))]
      by_cases k11 : s = 11
      · rw [if_pos (s11'.mpr k11)]
        exact ⟨_, rfl, fun b hb => by rw [hev, bt_or, bt_not _ hb, l3' (by omega) b hb, r3' (by omega) b hb, k11]; rfl⟩
      rw [if_neg (fun q => k11 (s11'.mp q))]
      by_cases k12 : s = 12
      · rw [if_pos (s12'.mpr k12)]
        exact ⟨_, rfl, fun b hb => by rw [hev, bt_or, l3' (by omega) b hb, r3' (by omega) b hb, k12]; rfl⟩
      rw [if_neg (fun q => k12 (s12'.mp q))]
      by_cases k4 : s = 4
      · rw [if_pos (s4'.mpr k4)]
        exact ⟨_, rfl, fun b hb => by rw [hev, bt_not _ hb, l3' (by omega) b hb, k4]; rfl⟩
      rw [if_neg (fun q => k4 (s4'.mp q))]
      refine ⟨_, rfl, fun b hb => ?_⟩
      rw [hev, bt_0]
      unfold evs
      rw [if_neg k3, if_neg k4, if_neg k10, if_neg k11, if_neg k12, if_neg k13]
  · have hkl := lt_of_at hk
    obtain ⟨z, e1, e2⟩ := E_tell (F := F) (P := P) (D := D) (j := k) (w := w) (by omega) hw
    rw [e, if_neg (nI_pos (by omega)), xgrd_in (by omega) (by omega), e1, Option.bind_some]
    refine ⟨z, rfl, fun b hb => ?_⟩
    rw [e2 b hb]
    have hisB := (cst_b h hk).2
    match x, hk, hisB with
    | .inner s m () l r, hk, hisB =>
      rw [evt_b, if_pos (show isB s = true from hisB), val_at h.1.2.2.2.2.1 hk]
    | .leaf, hk, hisB => exact absurd hisB (by decide)
