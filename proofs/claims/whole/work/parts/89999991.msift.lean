/-! decide: the reference sifts -/
theorem E_ab {F P : Nat} {D : xDt} {N B : List T} {a : Nat} (ha : a < 4) (hz : N.length ≤ 8000) (hb : B.length ≤ 13) (hN : rN D.1 N) (hB : rB D.1 N B) : ∀ (d k n acc : Nat), k + d = B.length → d < n → acc < 2 ^ 13 → ∃ w, f_X12_agentsBits_4 F P xS0 n 241 (nI a) (nI acc) (nI k) D = some (nI w, D) ∧ w < 2 ^ 13 ∧ ∀ j, w.testBit j = true ↔ acc.testBit j = true ∨ (k ≤ j ∧ ∃ x, B[j]? = some x ∧ tsr x = 5 ∧ mrk x = 2 ^ a)
  | _, _, 0, _, _, h, _ => absurd h (by omega)
  | 0, k, n + 1, acc, h1, _, h3 => by
    refine ⟨acc, ?_, h3, fun j => ⟨Or.inl, fun q => q.elim (fun q => q) (fun ⟨q1, x, q2, _⟩ => absurd (lt_of_at q2) (by omega))⟩⟩
    rw [e_X12_agentsBits_4, hB.2.1, if_pos (by rw [nI_leI (by omega) (by omega)]; omega)]
  | d + 1, k, n + 1, acc, h1, h2, h3 => by
    have hk : k < B.length := by omega
    obtain ⟨x, hx⟩ : ∃ x, B[k]? = some x := ⟨B[k], List.getElem?_eq_getElem hk⟩
    obtain ⟨g, hg, hg2⟩ := hB.2.2 k x hx
    have hgl := lt_of_at hg
    obtain ⟨s, m, l, r, e, g1, g2, g3, g4, g5, g6⟩ := hN.2.2 g x hg
    have hsx : tsr x = s := by rw [e]; rfl
    have hmx : mrk x = m := by rw [e]; rfl
    have h24 := a_16 a ha
    have e5 : nI s = 5 ↔ s = 5 := nI_eq (b := 5) (by omega) (by omega)
    have e6 : nI m = nI (2 ^ a) ↔ m = 2 ^ a := nI_eq (by omega) (by omega)
    rw [e_X12_agentsBits_4, hB.2.1, if_neg (by rw [nI_leI (by omega) (by omega)]; omega), xgrd_in (by omega) (by omega), nI_clamp (by omega), hg2, xgrd_in (by omega) (by omega), nI_clamp (by omega), g3, xgrd_in (by omega) (by omega), xgrd_in (by omega) (by omega), g4, a_bit a ha]
    have no : ¬ (s = 5 ∧ m = 2 ^ a) → ∃ w, f_X12_agentsBits_51 F P xS0 (f_X12_agentsBits_4 F P xS0 n) 241 (nI a) (nI k) (nI acc) D = some (nI w, D) ∧ w < 2 ^ 13 ∧ ∀ j, w.testBit j = true ↔ acc.testBit j = true ∨ (k ≤ j ∧ ∃ x, B[j]? = some x ∧ tsr x = 5 ∧ mrk x = 2 ^ a) := by
      intro hc
      obtain ⟨w, e1, e2, e3⟩ := E_ab (F := F) (P := P) ha hz hb hN hB d (k + 1) n acc (by omega) (by omega) h3
      refine ⟨w, ?_, e2, fun j => (e3 j).trans (or_congr_right ⟨fun ⟨q1, q2⟩ => ⟨by omega, q2⟩, fun ⟨q1, x', q2, q3, q4⟩ => ⟨?_, x', q2, q3, q4⟩⟩)⟩
      · rw [e_X12_agentsBits_51, e_X12_agentsBits_52, show nI acc ||| 0 = nI acc from by rw [k0, nI_or, Nat.or_zero], nI_1]
        exact e1
      · by_cases c : j = k
        · subst c
          rw [hx] at q2; injection q2 with q2; subst q2
          exact absurd ⟨hsx.symm.trans q3, hmx.symm.trans q4⟩ hc
        · omega
    by_cases c5 : s = 5
    · rw [if_pos (e5.mpr c5)]
      by_cases c6 : m = 2 ^ a
      · rw [if_pos (e6.mpr c6), e_X12_agentsBits_52, sh_1 k (by omega), nI_or, nI_1]
        simp only [xlet]
        have hp : 2 ^ k < 2 ^ 13 := Nat.pow_lt_pow_right (by omega) (by omega)
        obtain ⟨w, e1, e2, e3⟩ := E_ab (F := F) (P := P) ha hz hb hN hB d (k + 1) n (acc ||| 2 ^ k) (by omega) (by omega) (Nat.or_lt_two_pow h3 hp)
        refine ⟨w, e1, e2, fun j => (e3 j).trans ?_⟩
        rw [Nat.testBit_or, Nat.testBit_two_pow, Bool.or_eq_true, decide_eq_true_eq]
        constructor
        · rintro ((q | q) | ⟨q1, q2⟩)
          · exact Or.inl q
          · subst q; exact Or.inr ⟨Nat.le_refl _, x, hx, hsx.trans c5, hmx.trans c6⟩
          · exact Or.inr ⟨by omega, q2⟩
        · rintro (q | ⟨q1, q2⟩)
          · exact Or.inl (Or.inl q)
          · by_cases c : j = k
            · exact Or.inl (Or.inr c.symm)
            · exact Or.inr ⟨by omega, q2⟩
      · rw [if_neg (fun q => c6 (e6.mp q))]; exact no (fun q => c6 q.2)
    · rw [if_neg (fun q => c5 (e5.mp q))]; exact no (fun q => c5 q.1)
theorem and_eq {w t u : Nat} : t &&& w = u &&& w ↔ ∀ j, w.testBit j = true → t.testBit j = u.testBit j := by
  constructor
  · intro h j hj
    have := congrArg (fun z => z.testBit j) h
    simpa [Nat.testBit_and, hj] using this
  · intro h
    apply Nat.eq_of_testBit_eq
    intro j
    rw [Nat.testBit_and, Nat.testBit_and]
    rcases hj : w.testBit j with _ | _
    · simp
    · rw [h j hj]
theorem key_sam {bx : T → Prop} {B : List T} (hn : B.Nodup) (hB : ∀ x, x ∈ B ↔ bx x) {a w : Nat} (hw : ∀ j, w.testBit j = true ↔ ∃ x, B[j]? = some x ∧ tsr x = 5 ∧ mrk x = 2 ^ a) {t u : Nat} : t &&& w = u &&& w ↔ sam bx a (val B t) (val B u) := by
  rw [and_eq]
  constructor
  · intro h x hx h5 hm
    obtain ⟨k, hk⟩ := List.mem_iff_getElem?.mp ((hB x).mpr hx)
    rw [val_at hn hk, val_at hn hk]
    exact h k ((hw k).mpr ⟨x, hk, h5, hm⟩)
  · intro h j hj
    obtain ⟨x, hx, h5, hm⟩ := (hw j).mp hj
    rw [← val_at hn hx, ← val_at hn hx]
    exact h x ((hB x).mp (List.mem_of_getElem? hx)) h5 hm
theorem E_unite {F P : Nat} (hF : 100000 < F) {D : xDt} {N B : List T} {bx : T → Prop} {a K M : Nat} {L : Nat → Bool} {st : Nat → Nat → Prop} {p ro d : Nat → Nat} (ha : a < 4) (hz : N.length ≤ 8000) (hb : B.length ≤ 13) (hN : rN D.1 N) (hB : rB D.1 N B) (hBx : ∀ x, x ∈ B ↔ bx x) (hKe : K = 2 ^ B.length) (hK : K ≤ 8192) (hM : M + K < 90000) (hst : ∀ u w, u < K → w < K → sam bx a (val B u) (val B w) → st u w) (h4 : UF p ro d K M) (h5 : pR D p K) (h6 : Lr D L K) (h7 : ∀ u, u < K → Rc st K L u (ro u)) : ∃ D' p' ro' d', f_X12_unite F P xS0 241 (nI a) (nI K) D = some D' ∧ UF p' ro' d' K (M + K) ∧ pR D' p' K ∧ (∀ u, u < K → Rc st K L u (ro' u)) ∧ (∀ u v, ro u = ro v → ro' u = ro' v) ∧ (∀ u v, u < K → v < K → L u = true → L v = true → sam bx a (val B u) (val B v) → ro' u = ro' v) ∧ ch [270, 271] [] D D' := by
  obtain ⟨w, e1, e2, e3⟩ := E_ab (F := F) (P := P) ha hz hb hN hB B.length 0 F 0 (by omega) (by omega) (by decide)
  have hw : ∀ j, w.testBit j = true ↔ ∃ x, B[j]? = some x ∧ tsr x = 5 ∧ mrk x = 2 ^ a := fun j => (e3 j).trans ⟨fun q => q.elim (fun q => by simp at q) (fun q => q.2), fun q => Or.inr ⟨by omega, q⟩⟩
  obtain ⟨D1, e4, a1, _, a3⟩ := E_u9 (F := F) (P := P) (K := K) (w := nI w) hK K 0 F D (by omega) (by omega)
  obtain ⟨D', p', ro', d', e5, b1, b2, b3, b4, b5, b6⟩ := E_u33 (F := F) (P := P) (K := K) (w := w) (L := L) (st := st) hK (fun t ht => Nat.lt_of_le_of_lt Nat.and_le_left ht) (fun u v hu hv _ _ q => hst u v hu hv ((key_sam hB.1 hBx hw).mp q)) K 0 F D1 p ro d M (by omega) (by omega) (by omega) h4 (fun t ht => by rw [a3.1 270 (by decide)]; exact h5 t ht) (fun t ht => by rw [a3.1 268 (by decide)]; exact h6 t ht) h7 (fun k hk => Or.inl ⟨a1 k (by omega) hk, fun u hu => absurd hu (by omega)⟩)
  refine ⟨D', p', ro', d', ?_, b1, b2, b3, b4, fun u v hu hv lu lv q => b5 u v hu hv lu lv ((key_sam hB.1 hBx hw).mpr q), ch_trans (ch_mono a3 (fun x hx => by simp at hx ⊢; omega) (fun _ h => h)) b6⟩
  rw [e_X12_unite, e_X12_agentsBits, show f_X12_agentsBits_4 F P xS0 F 241 (nI a) 0 0 D = some (nI w, D) from e1, Option.bind_some]
  dsimp only
  rw [show f_X12_unite_9 F P xS0 F 241 (nI K) (nI w) 0 D = _ from e4]
  exact e5
/-- steps for one of the BASE -/
def stp (bx : T → Prop) (B : List T) (x : T) (u w : Nat) : Prop := ∃ a, a < 4 ∧ (mrk x).testBit a = true ∧ sam bx a (val B u) (val B w)
theorem E_s34 {F P : Nat} (hF : 100000 < F) {N B : List T} {bx : T → Prop} {K k g : Nat} {L : Nat → Bool} {x : T} (hz : N.length ≤ 8000) (hb : B.length ≤ 13) (hBx : ∀ x, x ∈ B ↔ bx x) (hKe : K = 2 ^ B.length) (hK : K ≤ 8192) (hg : N[g]? = some x) : ∀ (e a n : Nat) (D : xDt) (p ro d : Nat → Nat) (M : Nat), a + e = 4 → e < n → M + e * 8192 ≤ 4 * 8192 → rN D.1 N → rB D.1 N B → UF p ro d K M → pR D p K → Lr D L K → (∀ u, u < K → Rc (stp bx B x) K L u (ro u)) → (∀ b, b < a → (mrk x).testBit b = true → ∀ u v, u < K → v < K → L u = true → L v = true → sam bx b (val B u) (val B v) → ro u = ro v) → ∃ D' p' ro' d' M', f_X12_sift_34 F P xS0 n 241 (nI k) (nI K) (nI (12800 + g)) (nI a) D = f_X12_sift_71 F P xS0 F 241 (nI k) (nI K) 0 D' ∧ M' ≤ 4 * 8192 ∧ UF p' ro' d' K M' ∧ pR D' p' K ∧ (∀ u, u < K → Rc (stp bx B x) K L u (ro' u)) ∧ (∀ u v, u < K → v < K → L u = true → L v = true → stp bx B x u v → ro' u = ro' v) ∧ ch [270, 271] [] D D'
  | _, _, 0, _, _, _, _, _, _, h, _, _, _, _, _, _, _, _ => absurd h (by omega)
  | 0, a, n + 1, D, p, ro, d, M, h1, h2, h3, hN, hB, h4, h5, h6, h7, h8 => by
    refine ⟨D, p, ro, d, M, ?_, by omega, h4, h5, h7, fun u v hu hv lu lv ⟨b, q1, q2, q3⟩ => h8 b (by omega) q2 u v hu hv lu lv q3, ch_rfl _ _ _⟩
    rw [e_X12_sift_34, if_pos (show (4 : Int32) ≤ nI a from (nI_leI (a := 4) (by omega) (by omega)).mpr (by omega))]
  | e + 1, a, n + 1, D, p, ro, d, M, h1, h2, h3, hN, hB, h4, h5, h6, h7, h8 => by
    have ha : a < 4 := by omega
    have hgl := lt_of_at hg
    obtain ⟨s, m, l, r, ex, g1, g2, g3, g4, g5, g6⟩ := hN.2.2 g x hg
    have hmx : mrk x = m := by rw [ex]; rfl
    rw [e_X12_sift_34, if_neg (show ¬ (4 : Int32) ≤ nI a from fun q => by have := (nI_leI (a := 4) (by omega) (by omega)).mp q; omega), xgrd_in (by omega) (by omega), nI_clamp (by omega), g4]
    by_cases c : m.testBit a = true
    · rw [if_pos ((m_bit m g2 a ha).mpr c)]
      obtain ⟨D1, p1, ro1, d1, e1, b1, b2, b3, b4, b5, b6⟩ := E_unite (F := F) (P := P) hF (st := stp bx B x) ha hz hb hN hB hBx hKe hK (by omega) (fun u w _ _ q => ⟨a, ha, by rw [hmx]; exact c, q⟩) h4 h5 h6 h7
      rw [e1, Option.bind_some, e_X12_sift_62, nI_1]
      simp only [xlet]
      have hN1 : rN D1.1 N := rN_congr (by rw [b6.1 241 (by decide)]) (fun y q1 q2 => b6.1 y (by simp; omega)) hN
      have hB1 : rB D1.1 N B := rB_congr (by rw [b6.1 241 (by decide)]) (b6.1 267 (by decide)) (fun _ _ h => h) hB
      obtain ⟨D2, p2, ro2, d2, M2, e2, c0, c1, c2, c3, c4, c5⟩ := E_s34 (F := F) (P := P) hF (k := k) hz hb hBx hKe hK hg e (a + 1) n D1 p1 ro1 d1 (M + K) (by omega) (by omega) (by omega) hN1 hB1 b1 b2 (fun t ht => by rw [b6.1 268 (by decide)]; exact h6 t ht) b3 (fun b hb2 hbt u v hu hv lu lv hs => by
        by_cases cb : b = a
        · subst cb; exact b5 u v hu hv lu lv hs
        · exact b4 u v (h8 b (by omega) hbt u v hu hv lu lv hs))
      exact ⟨D2, p2, ro2, d2, M2, e2, c0, c1, c2, c3, c4, ch_trans b6 c5⟩
    · rw [if_neg (fun q => c ((m_bit m g2 a ha).mp q)), e_X12_sift_62, nI_1]
      simp only [xlet]
      have h8' : ∀ b, b < a + 1 → (mrk x).testBit b = true → ∀ u v, u < K → v < K → L u = true → L v = true → sam bx b (val B u) (val B v) → ro u = ro v := by
        intro b hb2 hbt
        by_cases cb : b = a
        · subst cb; rw [hmx] at hbt; exact absurd hbt c
        · exact h8 b (by omega) hbt
      have h3' : M + e * 8192 ≤ 4 * 8192 := Nat.le_trans (Nat.add_le_add_left (Nat.mul_le_mul_right _ (Nat.le_succ e)) M) h3
      have h1' : a + 1 + e = 4 := by omega
      have h2' : e < n := by omega
      obtain ⟨D2, p2, ro2, d2, M2, e2, c0, c1, c2, c3, c4, c5⟩ := E_s34 (F := F) (P := P) hF (k := k) hz hb hBx hKe hK hg e (a + 1) n D p ro d M h1' h2' h3' hN hB h4 h5 h6 h7 h8'
      exact ⟨D2, p2, ro2, d2, M2, e2, c0, c1, c2, c3, c4, c5⟩
theorem E_s71 {F P K : Nat} {k : Int32} (hK : K ≤ 8192) : ∀ (e t n : Nat) (D : xDt), t + e = K → e < n → ∃ D', f_X12_sift_71 F P xS0 n 241 k (nI K) (nI t) D = f_X12_sift_95 F P xS0 F 241 k (nI K) 0 D' ∧ (∀ u, t ≤ u → u < K → D'.1 271 u = -2) ∧ (∀ u, u < t → D'.1 271 u = D.1 271 u) ∧ ch [271] [] D D'
  | _, _, 0, _, _, h => absurd h (by omega)
  | 0, t, n + 1, D, h1, _ => by
    refine ⟨D, ?_, fun u h2 h3 => absurd h3 (by omega), fun _ _ => rfl, ch_rfl _ _ _⟩
    rw [e_X12_sift_71, if_pos (by rw [nI_leI (by omega) (by omega)]; omega)]
  | e + 1, t, n + 1, D, h1, h2 => by
    obtain ⟨D', e', a1, a2, a3⟩ := E_s71 (F := F) (P := P) (k := k) hK e (t + 1) n (xup D.1 271 t (-2), D.2) (by omega) (by omega)
    refine ⟨D', ?_, fun u h3 h4 => ?_, fun u hu => ?_, ch_trans (ch_i (by simp) (ch_rfl _ _ _)) a3⟩
    · rw [e_X12_sift_71, if_neg (by rw [nI_leI (by omega) (by omega)]; omega), xgrd_in (by omega) (by omega), nI_clamp (by omega), nI_1]
      exact e'
    · by_cases c : u = t
      · subst c; rw [a2 u (by omega)]; dsimp only; rw [xup_at]
      · exact a1 u (by omega) h4
    · rw [a2 u (by omega)]; dsimp only; rw [xup_nk _ _ _ _ _ (by omega)]
def inR (D : xDt) (k K : Nat) (q : Nat → Bool) : Prop := ∀ u, u < K → ∃ I : Nat, D.1 269 u = nI I ∧ I.testBit k = q u
theorem E_s95 {F P K M k : Nat} {L q : Nat → Bool} {ro d : Nat → Nat} (hk : k < 13) (hK : K ≤ 8192) (hM : M < F) : ∀ (e t n : Nat) (D : xDt) (p : Nat → Nat), t + e = K → e < n → UF p ro d K M → pR D p K → Lr D L K → inR D k K q → (∀ r, r < K → (D.1 271 r = -2 ∧ ∀ u, u < t → L u = true → q u = false → ro u ≠ r) ∨ ∃ v, v < t ∧ L v = true ∧ q v = false ∧ ro v = r ∧ D.1 271 r = nI v) → ∃ D' p', f_X12_sift_95 F P xS0 n 241 (nI k) (nI K) (nI t) D = f_X12_sift_150 F P xS0 F 241 (nI k) (nI K) 0 0 D' ∧ UF p' ro d K M ∧ pR D' p' K ∧ (∀ r, r < K → (D'.1 271 r = -2 ∧ ∀ u, u < K → L u = true → q u = false → ro u ≠ r) ∨ ∃ v, v < K ∧ L v = true ∧ q v = false ∧ ro v = r ∧ D'.1 271 r = nI v) ∧ ch [270, 271] [] D D'
  | _, _, 0, _, _, _, h, _, _, _, _, _ => absurd h (by omega)
  | 0, t, n + 1, D, p, h1, _, h3, h4, h5, h6, h7 => by
    have : t = K := by omega
    subst this
    refine ⟨D, p, ?_, h3, h4, h7, ch_rfl _ _ _⟩
    rw [e_X12_sift_95, if_pos (Int32.le_refl _)]
  | e + 1, t, n + 1, D, p, h1, h2, h3, h4, h5, h6, h7 => by
    have ht : t < K := by omega
    obtain ⟨I, i1, i2⟩ := h6 t ht
    have skip : (L t = true → q t = false → False) → ∃ D' p', f_X12_sift_138 F P xS0 (f_X12_sift_95 F P xS0 n) 241 (nI k) (nI K) (nI t) D = f_X12_sift_150 F P xS0 F 241 (nI k) (nI K) 0 0 D' ∧ UF p' ro d K M ∧ pR D' p' K ∧ (∀ r, r < K → (D'.1 271 r = -2 ∧ ∀ u, u < K → L u = true → q u = false → ro u ≠ r) ∨ ∃ v, v < K ∧ L v = true ∧ q v = false ∧ ro v = r ∧ D'.1 271 r = nI v) ∧ ch [270, 271] [] D D' := by
      intro hs
      rw [e_X12_sift_138, nI_1]
      simp only [xlet]
      exact E_s95 (F := F) (P := P) hk hK hM e (t + 1) n D p (by omega) (by omega) h3 h4 h5 h6 (fun r hr => by
        rcases h7 r hr with ⟨r1, r2⟩ | ⟨v, r1, r2⟩
        · refine Or.inl ⟨r1, fun u hu lu qu => ?_⟩
          by_cases c : u = t
          · subst c; exact (hs lu qu).elim
          · exact r2 u (by omega) lu qu
        · exact Or.inr ⟨v, by omega, r2⟩)
    rw [e_X12_sift_95, if_neg (by rw [nI_leI (by omega) (by omega)]; omega), xgrd_in (by omega) (by omega), nI_clamp (by omega), h5 t ht]
    rcases hl : L t with _ | _
    · rw [if_pos (show bI false = 0 from rfl)]
      exact skip (fun q => by rw [hl] at q; cases q)
    rw [if_neg (show ¬ bI true = 0 by decide), xgrd_in (by omega) (by omega), i1, sh_bit I (by omega), i2]
    rcases hq : q t with _ | _
    rotate_left
    · rw [if_neg (show ¬ bI true = 0 by decide)]
      exact skip (fun _ r => by rw [hq] at r; cases r)
    rw [if_pos (show bI false = 0 from rfl)]
    obtain ⟨D1, p1, e1, a1, a2, a3⟩ := E_root (F := F) (P := P) hK h3 h4 ht hM
    have hrt := (h3 t ht).2.1
    rw [e1, Option.bind_some]
    dsimp only
    rw [xgrd_in (by omega) (by omega), nI_clamp (by omega)]
    simp only [xlet]
    rw [e_X12_sift_138, nI_1]
    simp only [xlet]
    obtain ⟨D', p', e', b1, b2, b3, b4⟩ := E_s95 (F := F) (P := P) hk hK hM e (t + 1) n (xup D1.1 271 (ro t) (nI t), D1.2) p1 (by omega) (by omega) a1 (fun u hu => by dsimp only; rw [xup_na _ _ _ _ _ (by omega)]; exact a2 u hu) (fun u hu => by dsimp only; rw [xup_na _ _ _ _ _ (by omega), a3.1 268 (by decide)]; exact h5 u hu) (fun u hu => by dsimp only; rw [xup_na _ _ _ _ _ (by omega), a3.1 269 (by decide)]; exact h6 u hu) (fun r hr => by
      dsimp only
      by_cases c : r = ro t
      · subst c
        rw [xup_at]
        exact Or.inr ⟨t, by omega, hl, hq, rfl, rfl⟩
      · rw [xup_nk _ _ _ _ _ c, a3.1 271 (by decide)]
        rcases h7 r hr with ⟨r1, r2⟩ | ⟨v, r1, r2⟩
        · refine Or.inl ⟨r1, fun u hu lu qu => ?_⟩
          by_cases c2 : u = t
          · subst c2; exact fun q => c q.symm
          · exact r2 u (by omega) lu qu
        · exact Or.inr ⟨v, by omega, r2⟩)
    exact ⟨D', p', e', b1, b2, b3, ch_trans (ch_mono a3 (fun x hx => by simp at hx ⊢; omega) (fun _ h => h)) (ch_trans (ch_i (by simp) (ch_rfl _ _ _)) b4)⟩
theorem E_s150 {F P K M k : Nat} {L L' hit : Nat → Bool} {ro d : Nat → Nat} (hk : k < 13) (hK : K ≤ 8192) (hM : M < F) (hL' : ∀ t, L' t = (L t && (t.testBit k || hit t))) : ∀ (e t n : Nat) (D : xDt) (p : Nat → Nat) (r : Bool), t + e = K → e < n → UF p ro d K M → pR D p K → (∀ u, u < t → D.1 268 u = bI (L' u)) → (∀ u, t ≤ u → u < K → D.1 268 u = bI (L u)) → (∀ u, u < K → (hit u = false ∧ D.1 271 (ro u) = -2) ∨ (hit u = true ∧ ∃ v, v < K ∧ D.1 271 (ro u) = nI v)) → ∃ D' r', f_X12_sift_150 F P xS0 n 241 (nI k) (nI K) (bI r) (nI t) D = some (bI r', D') ∧ Lr D' L' K ∧ (r' = true ↔ r = true ∨ ∃ u, t ≤ u ∧ u < K ∧ L u = true ∧ L' u = false) ∧ ch [268, 270] [] D D'
  | _, _, 0, _, _, _, _, h, _, _, _, _, _ => absurd h (by omega)
  | 0, t, n + 1, D, p, r, h1, _, h3, h4, h5, h6, h7 => by
    have : t = K := by omega
    subst this
    refine ⟨D, r, ?_, h5, ⟨Or.inl, fun q => q.elim (fun q => q) (fun ⟨u, q1, q2, _⟩ => absurd q2 (by omega))⟩, ch_rfl _ _ _⟩
    rw [e_X12_sift_150, if_pos (Int32.le_refl _)]
    cases r <;> rfl
  | e + 1, t, n + 1, D, p, r, h1, h2, h3, h4, h5, h6, h7 => by
    have ht : t < K := by omega
    -- it stays as it is
    have keep : ∀ (D1 : xDt) (p1 : Nat → Nat), UF p1 ro d K M → pR D1 p1 K → ch [268, 270] [] D D1 → (∀ u, D1.1 268 u = D.1 268 u) → L' t = L t → ∃ D' r', f_X12_sift_200 F P xS0 (f_X12_sift_150 F P xS0 n) 241 (nI k) (nI K) (bI r) (nI t) D1 = some (bI r', D') ∧ Lr D' L' K ∧ (r' = true ↔ r = true ∨ ∃ u, t ≤ u ∧ u < K ∧ L u = true ∧ L' u = false) ∧ ch [268, 270] [] D D' := by
      intro D1 p1 a1 a2 a3 a4 a5
      rw [e_X12_sift_200, nI_1]
      simp only [xlet]
      obtain ⟨D', r', e', b1, b2, b3⟩ := E_s150 (F := F) (P := P) (hit := hit) hk hK hM hL' e (t + 1) n D1 p1 r (by omega) (by omega) a1 a2 (fun u hu => by
        rw [a4]
        by_cases c : u = t
        · subst c; rw [h6 u (by omega) ht, a5]
        · exact h5 u (by omega)) (fun u hu hu2 => by rw [a4]; exact h6 u (by omega) hu2) (fun u hu => by rw [a3.1 271 (by decide)]; exact h7 u hu)
      refine ⟨D', r', e', b1, b2.trans (or_congr_right ⟨fun ⟨u, q1, q2⟩ => ⟨u, by omega, q2⟩, fun ⟨u, q1, q2, q3, q4⟩ => ⟨u, ?_, q2, q3, q4⟩⟩), ch_trans a3 b3⟩
      by_cases c : u = t
      · subst c; rw [a5, q3] at q4; cases q4
      · omega
    rw [e_X12_sift_150, if_neg (by rw [nI_leI (by omega) (by omega)]; omega), xgrd_in (by omega) (by omega), nI_clamp (by omega), h6 t (Nat.le_refl _) ht]
    rcases hl : L t with _ | _
    · rw [if_pos (show bI false = 0 from rfl)]
      exact keep D p h3 h4 (ch_rfl _ _ _) (fun _ => rfl) (by rw [hL', hl]; rfl)
    rw [if_neg (show ¬ bI true = 0 by decide), sh_bit t (by omega)]
    rcases hb : t.testBit k with _ | _
    rotate_left
    · rw [if_neg (show ¬ bI true = 0 by decide)]
      exact keep D p h3 h4 (ch_rfl _ _ _) (fun _ => rfl) (by rw [hL', hl, hb]; rfl)
    rw [if_pos (show bI false = 0 from rfl)]
    obtain ⟨D1, p1, e1, a1, a2, a3⟩ := E_root (F := F) (P := P) hK h3 h4 ht hM
    have hrt := (h3 t ht).2.1
    rw [e1, Option.bind_some]
    dsimp only
    rw [xgrd_in (by omega) (by omega), nI_clamp (by omega), a3.1 271 (by decide)]
    have c1 : ch [268, 270] [] D D1 := ch_mono a3 (fun x hx => by simp at hx ⊢; omega) (fun _ h => h)
    rcases h7 t ht with ⟨q1, q2⟩ | ⟨q1, v, q2, q3⟩
    · rw [q2, if_neg (by decide), xgrd_in (by omega) (by omega)]
      simp only [xlet]
      rw [e_X12_sift_200, nI_1]
      simp only [xlet]
      have hLt : L' t = false := by rw [hL', hl, hb, q1]; rfl
      obtain ⟨D', r', e', b1, b2, b3⟩ := E_s150 (F := F) (P := P) (hit := hit) hk hK hM hL' e (t + 1) n (xup D1.1 268 t (0 &&& 1), D1.2) p1 true (by omega) (by omega) a1 (fun u hu => by dsimp only; rw [xup_na _ _ _ _ _ (by omega)]; exact a2 u hu) (fun u hu => by
        dsimp only
        by_cases c : u = t
        · subst c; rw [xup_at, hLt]; rfl
        · rw [xup_nk _ _ _ _ _ c, a3.1 268 (by decide)]; exact h5 u (by omega)) (fun u hu hu2 => by dsimp only; rw [xup_nk _ _ _ _ _ (by omega), a3.1 268 (by decide)]; exact h6 u (by omega) hu2) (fun u hu => by dsimp only; rw [xup_na _ _ _ _ _ (by omega), a3.1 271 (by decide)]; exact h7 u hu)
      refine ⟨D', r', e', b1, ⟨fun _ => Or.inr ⟨t, Nat.le_refl _, ht, hl, hLt⟩, fun _ => b2.mpr (Or.inl rfl)⟩, ch_trans c1 (ch_trans (ch_i (by simp) (ch_rfl _ _ _)) b3)⟩
    · rw [q3, if_pos (nI_pos' (by omega))]
      exact keep D1 p1 a1 a2 c1 (fun u => by rw [a3.1 268 (by decide)]) (by rw [hL', hl, q1]; simp)
theorem E_s10 {F P K : Nat} {k v3 : Int32} (hK : K ≤ 8192) : ∀ (e t n : Nat) (D : xDt), t + e = K → e < n → ∃ D', f_X12_sift_10 F P xS0 n 241 k (nI K) v3 (nI t) D = f_X12_sift_34 F P xS0 F 241 k (nI K) v3 0 D' ∧ (∀ u, t ≤ u → u < K → D'.1 270 u = nI u) ∧ (∀ u, u < t → D'.1 270 u = D.1 270 u) ∧ ch [270] [] D D'
  | _, _, 0, _, _, h => absurd h (by omega)
  | 0, t, n + 1, D, h1, _ => by
    refine ⟨D, ?_, fun u h2 h3 => absurd h3 (by omega), fun _ _ => rfl, ch_rfl _ _ _⟩
    rw [e_X12_sift_10, if_pos (by rw [nI_leI (by omega) (by omega)]; omega)]
  | e + 1, t, n + 1, D, h1, h2 => by
    obtain ⟨D', e', a1, a2, a3⟩ := E_s10 (F := F) (P := P) (k := k) (v3 := v3) hK e (t + 1) n (xup D.1 270 t (nI t), D.2) (by omega) (by omega)
    refine ⟨D', ?_, fun u h3 h4 => ?_, fun u hu => ?_, ch_trans (ch_i (by simp) (ch_rfl _ _ _)) a3⟩
    · rw [e_X12_sift_10, if_neg (by rw [nI_leI (by omega) (by omega)]; omega), xgrd_in (by omega) (by omega), nI_clamp (by omega), nI_1]
      exact e'
    · by_cases c : u = t
      · subst c; rw [a2 u (by omega)]; dsimp only; rw [xup_at]
      · exact a1 u (by omega) h4
    · rw [a2 u (by omega)]; dsimp only; rw [xup_nk _ _ _ _ _ (by omega)]
theorem E_msift {F P : Nat} (hF : 100000 < F) {D : xDt} {N B : List T} {bx : T → Prop} {K k : Nat} {L : Nat → Bool} {x : T} (hz : N.length ≤ 8000) (hb : B.length ≤ 13) (hBx : ∀ x, x ∈ B ↔ bx x) (hKe : K = 2 ^ B.length) (hK : K ≤ 8192) (hx : B[k]? = some x) (hN : rN D.1 N) (hB : rB D.1 N B) (hL : Lr D L K) (hI : inR D k K (fun u => evt (val B u) (lft x))) : ∃ D' L' r, f_X12_sift F P xS0 241 (nI k) (nI K) D = some (bI r, D') ∧ Lr D' L' K ∧ nsf bx B k x L L' ∧ (∀ t, t < K → L' t = true → L t = true) ∧ (r = true ↔ ∃ u, u < K ∧ L u = true ∧ L' u = false) ∧ ch [268, 270, 271] [] D D' := by
  obtain ⟨g, hg, hg2⟩ := hB.2.2 k x hx
  have hkl := lt_of_at hx
  obtain ⟨D1, e1, a1, _, a3⟩ := E_s10 (F := F) (P := P) (K := K) (k := nI k) (v3 := nI (12800 + g)) hK K 0 F D (by omega) (by omega)
  have hN1 : rN D1.1 N := rN_congr (by rw [a3.1 241 (by decide)]) (fun y q1 q2 => a3.1 y (by simp; omega)) hN
  have hB1 : rB D1.1 N B := rB_congr (by rw [a3.1 241 (by decide)]) (a3.1 267 (by decide)) (fun _ _ h => h) hB
  obtain ⟨D2, p2, ro, d2, M2, e2, c0, c1, c2, c3, c4, c5⟩ := E_s34 (F := F) (P := P) hF (k := k) (L := L) hz hb hBx hKe hK hg 4 0 F D1 (fun t => t) (fun t => t) (fun _ => 0) 0 (by omega) (by omega) (by omega) hN1 hB1 (fun t ht => ⟨ht, ht, rfl, rfl, Nat.le_refl _, rfl, Or.inl rfl, fun _ => rfl⟩) (fun t ht => a1 t (by omega) ht) (fun t ht => by rw [a3.1 268 (by decide)]; exact hL t ht) (fun u _ Y _ => Iff.rfl) (fun b hb2 => absurd hb2 (by omega))
  have hL2 : Lr D2 L K := fun t ht => by rw [c5.1 268 (by decide), a3.1 268 (by decide)]; exact hL t ht
  obtain ⟨D3, e3, b1, _, b3⟩ := E_s71 (F := F) (P := P) (K := K) (k := nI k) hK K 0 F D2 (by omega) (by omega)
  obtain ⟨D4, p4, e4, f1, f2, f3, f4⟩ := E_s95 (F := F) (P := P) (L := L) (q := fun u => evt (val B u) (lft x)) (ro := ro) (d := d2) (M := M2) (show k < 13 by omega) hK (by omega) K 0 F D3 p2 (by omega) (by omega) c1 (fun t ht => by rw [b3.1 270 (by decide)]; exact c2 t ht) (fun t ht => by rw [b3.1 268 (by decide)]; exact hL2 t ht) (fun u hu => by rw [b3.1 269 (by decide), c5.1 269 (by decide), a3.1 269 (by decide)]; exact hI u hu) (fun r hr => Or.inl ⟨b1 r (by omega) hr, fun u hu => absurd hu (by omega)⟩)
  obtain ⟨hit, hhit⟩ := pd_ex (fun u : Nat => ∃ v, v < K ∧ L v = true ∧ evt (val B v) (lft x) = false ∧ ro v = ro u)
  have c34 : ch [268, 270, 271] [] D D4 := ch_trans (ch_mono a3 (fun x hx => by simp at hx ⊢; omega) (fun _ h => h)) (ch_trans (ch_mono c5 (fun x hx => by simp at hx ⊢; omega) (fun _ h => h)) (ch_trans (ch_mono b3 (fun x hx => by simp at hx ⊢; omega) (fun _ h => h)) (ch_mono f4 (fun x hx => by simp at hx ⊢; omega) (fun _ h => h))))
  obtain ⟨D5, r, e5, g1, g2, g3⟩ := E_s150 (F := F) (P := P) (L := L) (L' := fun t => L t && (t.testBit k || hit t)) (hit := hit) (ro := ro) (d := d2) (M := M2) (show k < 13 by omega) hK (by omega) (fun _ => rfl) K 0 F D4 p4 false (by omega) (by omega) f1 f2 (fun u hu => absurd hu (by omega)) (fun u _ hu => by rw [f4.1 268 (by decide), b3.1 268 (by decide)]; exact hL2 u hu) (fun u hu => by
    rcases f3 (ro u) (c1 u hu).2.1 with ⟨q1, q2⟩ | ⟨v, q1, q2, q3, q4, q5⟩
    · refine Or.inl ⟨?_, q1⟩
      rcases hh : hit u with _ | _
      · rfl
      · obtain ⟨v, r1, r2, r3, r4⟩ := (hhit u).mp hh
        exact absurd r4 (q2 v r1 r2 r3)
    · exact Or.inr ⟨(hhit u).mpr ⟨v, q1, q2, q3, q4⟩, v, q1, q5⟩)
  refine ⟨D5, _, r, ?_, g1, ?_, fun t _ h => by simp only [Bool.and_eq_true] at h; exact h.1, ?_, ch_trans c34 (ch_mono g3 (fun x hx => by simp at hx ⊢; omega) (fun _ h => h))⟩
  · rw [e_X12_sift, xgrd_in (by omega) (by omega), nI_clamp (by omega), hg2]
    simp only [xlet]
    rw [show f_X12_sift_10 F P xS0 F 241 (nI k) (nI K) (nI (12800 + g)) 0 D = _ from e1, show f_X12_sift_34 F P xS0 F 241 (nI k) (nI K) (nI (12800 + g)) 0 D1 = _ from e2, show f_X12_sift_71 F P xS0 F 241 (nI k) (nI K) 0 D2 = _ from e3, show f_X12_sift_95 F P xS0 F 241 (nI k) (nI K) 0 D3 = _ from e4]
    exact e5
  · intro t ht
    rw [← hKe] at ht
    simp only [Bool.and_eq_true, Bool.or_eq_true]
    refine and_congr_right (fun lt => or_congr_right ((hhit t).trans ⟨?_, ?_⟩))
    · rintro ⟨v, v1, v2, v3, v4⟩ Y hY
      have hst : ∀ a b, a < K → b < K → L a = true → L b = true → stp bx B x a b → (Y a ↔ Y b) := by
        intro a b ha hb' la lb hab
        constructor
        · intro ya; exact hY.2 a b (by omega) (by omega) ya la lb hab
        · intro yb
          refine hY.2 b a (by omega) (by omega) yb lb la ?_
          obtain ⟨z, z1, z2, z3⟩ := hab
          exact ⟨z, z1, z2, fun y q1 q2 q3 => (z3 y q1 q2 q3).symm⟩
      have yv : Y v := hY.1 v (by omega) v2 v3
      rw [c3 t ht Y hst, ← v4, ← c3 v v1 Y hst]
      exact yv
    · intro h
      exact h (fun t => ∃ v, v < K ∧ L v = true ∧ evt (val B v) (lft x) = false ∧ ro v = ro t) ⟨fun u hu lu hd => ⟨u, by omega, lu, hd, rfl⟩, fun u w hu hw ⟨v, v1, v2, v3, v4⟩ lu lw hs => ⟨v, v1, v2, v3, v4.trans (c4 u w (by omega) (by omega) lu lw hs)⟩⟩
  · rw [g2]
    constructor
    · rintro (q | ⟨u, _, q⟩)
      · cases q
      · exact ⟨u, q⟩
    · rintro ⟨u, q⟩; exact Or.inr ⟨u, by omega, q⟩
