/-! decide: the class makes its types -/
theorem ag_8 : ∀ m, m < 16 → jishr (nI (tk 5 m)) 8 = nI m ∧ jishr (nI (tk 8 m)) 8 = nI m := by decide +kernel
def kcm (y x : T) : Prop := tsr y = 5 ∧ lft y = x ∧ mrk y &&& mrk x ≠ 0
theorem tmw_l {y : T} (h : tmw y) (h5 : 4 ≤ tsr y) : lft y ≠ nil := by
  match y, h, h5 with
  | .inner s m () l r, h, h5 =>
    have h5' : 4 ≤ s := h5
    obtain ⟨_, _, _, w4⟩ := h
    rcases w4 with ⟨q1, _⟩ | ⟨_, _, q2, _⟩ | ⟨_, q2, _⟩
    · omega
    · exact q2
    · exact q2
theorem E_ikc {F P : Nat} {D : xDt} {N B : List T} {i j : Nat} {x y : T} (h : cst D N B) (hi : B[i]? = some y) (hj : B[j]? = some x) (h8 : tsr x = 8) : ∃ r : Bool, f_X0_isKnownCommon F P xS0 222 (nI i) (nI j) D = some (bI r, D) ∧ (r = true ↔ kcm y x) := by
  obtain ⟨t1, t2⟩ := cst_b h hi
  obtain ⟨u1, u2⟩ := cst_b h hj
  obtain ⟨g1, g2, g3⟩ := tmw_b t1
  obtain ⟨f1, f2, f3⟩ := tmw_b u1
  obtain ⟨_, iy, hiy, eiy⟩ := h.1.2.2.2.2.2.2.2 i y hi
  obtain ⟨_, ix, hix, eix⟩ := h.1.2.2.2.2.2.2.2 j x hj
  have z := h.1.2.1
  have zB := h.1.2.2.2.2.2.1
  have := lt_of_at hiy
  have := lt_of_at hix
  have := lt_of_at hi
  have := lt_of_at hj
  have s75 := (sgc' g1 (by omega) g3).2.2.2.2.2.2.1
  have no : ¬ kcm y x → ∃ r : Bool, f_X0_isKnownCommon_66 F P xS0 D = some (bI r, D) ∧ (r = true ↔ kcm y x) := fun q => ⟨false, rfl, fun e => (by cases e), fun e => absurd e q⟩
  rw [e_X0_isKnownCommon, E_tok h hi, Option.bind_some]
  dsimp only
  rw [E_signOf (by omega) (m16 g3), Option.bind_some]
  dsimp only
  by_cases c5 : tsr y = 5
  · rw [if_pos (s75.mpr c5), xgrd_in (by omega) (by omega), nI_clamp (by omega), eiy, xgrd_in (by omega) (by omega), nI_clamp (by omega), xgrd_in (by omega) (by omega), nI_clamp (by omega), eix]
    have hl := (h.1.2.2.2.1 iy y hiy).2.2.1
    obtain ⟨_, jl, l1, l2, l3⟩ : lft y ≠ nil ∧ ∃ jl, jl < iy ∧ N[jl]? = some (lft y) ∧ D.1 226 iy = nI jl := by
      rcases hl with ⟨q, _⟩ | q
      · exact absurd q (tmw_l t1 (by omega))
      · exact q
    have := lt_of_at l2
    rw [l3]
    by_cases cl : lft y = x
    · have : jl = ix := (List.getElem?_inj (lt_of_at l2) h.1.1).mp (by rw [l2, hix, cl])
      rw [if_pos (by rw [this]), E_tok h hi, Option.bind_some]
      unfold f_X11_agentsOf
      rw [Option.bind_some]
      dsimp only
      rw [E_tok h hj, Option.bind_some, Option.bind_some]
      dsimp only
      rw [c5, h8, (ag_8 _ (m16 g3)).1, (ag_8 _ (m16 f3)).2, nI_and]
      by_cases cm : mrk y &&& mrk x = 0
      · rw [if_pos (by rw [cm]; rfl)]
        exact no (fun q => q.2.2 cm)
      · rw [if_neg (fun q => cm (by
          have h16 := m16 g3
          have hle : mrk y &&& mrk x ≤ mrk y := Nat.and_le_left
          rw [nI_eq0 (by omega)] at q; exact q))]
        exact ⟨true, rfl, fun _ => ⟨c5, cl, cm⟩, fun _ => rfl⟩
    · rw [if_neg (fun q => by
        rw [nI_eq (by omega) (by omega)] at q
        subst q
        rw [l2] at hix; injection hix with hix; exact cl hix)]
      exact no (fun q => cl q.2.1)
  · rw [if_neg (fun q => c5 (s75.mp q))]
    exact no (fun q => c5 q.1)
theorem E_l42 {F P : Nat} {D : xDt} {N B : List T} {j w : Nat} {x : T} (h : cst D N B) (hw : w < 128) (hj : B[j]? = some x) (h8 : tsr x = 8) : ∀ (d i n : Nat) (v : Int64), i + d = B.length → d < n → ∃ z, f_X0_lawful_42 F P xS0 n 222 (nI j) (nI w) 67 v (nI i) D = some (z, D) ∧ ∀ b, b < 64 → (bt z b = true ↔ bt v b = true ∧ ∀ q y, i ≤ q → B[q]? = some y → kcm y x → (64 * w + b).testBit q = true)
  | _, _, 0, _, _, h => absurd h (by omega)
  | 0, i, n + 1, v, h1, _ => by
    have h13 := h.1.2.2.2.2.2.1
    refine ⟨v, ?_, fun b _ => ⟨fun q => ⟨q, fun q y hq hy => absurd (lt_of_at hy) (by omega)⟩, fun q => q.1⟩⟩
    rw [e_X0_lawful_42, h.1.2.2.2.2.2.2.1, if_pos (by rw [nI_leI (by omega) (by omega)]; omega)]
  | d + 1, i, n + 1, v, h1, h2 => by
    have h13 := h.1.2.2.2.2.2.1
    have hi : i < B.length := by omega
    obtain ⟨y, hy⟩ : ∃ y, B[i]? = some y := ⟨B[i], List.getElem?_eq_getElem hi⟩
    obtain ⟨r, e1, hr⟩ := E_ikc (F := F) (P := P) h hy hj h8
    have sp : ∀ b, (kcm y x → (64 * w + b).testBit i = true) → ((∀ q y, i + 1 ≤ q → B[q]? = some y → kcm y x → (64 * w + b).testBit q = true) ↔ (∀ q y, i ≤ q → B[q]? = some y → kcm y x → (64 * w + b).testBit q = true)) := by
      intro b hb
      constructor
      · intro q k y' hk hy' hkc
        by_cases c : k = i
        · subst c; rw [hy] at hy'; injection hy' with hy'; subst hy'; exact hb hkc
        · exact q k y' (by omega) hy' hkc
      · intro q k y' hk; exact q k y' (by omega)
    rw [e_X0_lawful_42, h.1.2.2.2.2.2.2.1, if_neg (by rw [nI_leI (by omega) (by omega)]; omega), if_pos rfl, e1, Option.bind_some]
    cases r
    · rw [if_pos (show bI false = 0 from rfl), e_X0_lawful_82, nI_1]
      obtain ⟨z, f1, f2⟩ := E_l42 (F := F) (P := P) h hw hj h8 d (i + 1) n v (by omega) (by omega)
      refine ⟨z, f1, fun b hb => (f2 b hb).trans (and_congr_right fun _ => sp b (fun q => ?_))⟩
      have := hr.mpr q; cases this
    · rw [if_neg (show ¬ bI true = 0 by decide)]
      obtain ⟨t, t1, t2⟩ := E_tell (F := F) (P := P) (D := D) (j := i) (w := w) (by omega) hw
      dsimp only
      rw [t1, Option.bind_some, xlet_q, e_X0_lawful_82, nI_1]
      obtain ⟨z, f1, f2⟩ := E_l42 (F := F) (P := P) h hw hj h8 d (i + 1) n (v &&& t) (by omega) (by omega)
      refine ⟨z, f1, fun b hb => (f2 b hb).trans ?_⟩
      rw [bt_and, Bool.and_eq_true, t2 b hb]
      constructor
      · rintro ⟨⟨q1, q2⟩, q3⟩
        exact ⟨q1, (sp b (fun _ => q2)).mp q3⟩
      · rintro ⟨q1, q2⟩
        have hbi := q2 i y (Nat.le_refl _) hy (hr.mp rfl)
        exact ⟨⟨q1, hbi⟩, (sp b (fun _ => hbi)).mpr q2⟩
theorem and_pow {m a : Nat} (h : m.testBit a = true) : 2 ^ a &&& m ≠ 0 := by
  intro q
  have := congrArg (fun z => z.testBit a) q
  simp [Nat.testBit_and, Nat.testBit_two_pow, h] at this
/-- what may be told -/
def lwf (v : T → Bool) (x : T) : Prop := tsr x = 1 ∨ (evt v (lft x) = true ∧ (tsr x = 8 → ∀ a, a < 4 → (mrk x).testBit a = true → v (tK a x) = true))
theorem E_law {F P : Nat} (hF : 100000 < F) {D : xDt} {N B : List T} {j w : Nat} {x : T} (h : cst D N B) (hw : w < 128) (hj : B[j]? = some x) (hK : tsr x = 8 → ∀ a, a < 4 → (mrk x).testBit a = true → tK a x ∈ B) (hp : tsr x ≠ 1 → ∀ b, b < 64 → bt (D.2 233 (j * 128 + w)) b = evt (val B (64 * w + b)) (lft x)) : ∃ z, f_X0_lawful F P xS0 222 (nI j) (nI w) D = some (z, D) ∧ ∀ b, b < 64 → (bt z b = true ↔ lwf (val B (64 * w + b)) x) := by
  obtain ⟨u1, u2⟩ := cst_b h hj
  obtain ⟨f1, f2, f3⟩ := tmw_b u1
  have h13 := h.1.2.2.2.2.2.1
  have := lt_of_at hj
  obtain ⟨_, _, _, _, _, _, s75, s67⟩ := sgc' f1 (by omega) f3
  have hsx : tsr x = 1 ∨ tsr x = 5 ∨ tsr x = 8 := by
    unfold isB at u2
    simp only [Bool.or_eq_true, decide_eq_true_eq] at u2
    omega
  have e25 : ∀ v3 : Int32, f_X0_lawful_25 F P xS0 222 (nI j) (nI w) v3 D = f_X0_lawful_42 F P xS0 F 222 (nI j) (nI w) v3 (D.2 233 (j * 128 + w)) 0 D := by
    intro v3
    rw [e_X0_lawful_25, show (128 : Int32) = nI 128 from rfl, nI_mul, nI_add, xgrd_in (by omega) (by omega), nI_clamp (by omega), xlet_q]
  rw [e_X0_lawful, E_tok h hj, Option.bind_some]
  dsimp only
  rw [E_signOf (by omega) (m16 f3), Option.bind_some]
  dsimp only
  rcases hsx with c | c | c
  · rw [if_neg (fun q => by have := s75.mp q; omega), if_neg (fun q => by have := s67.mp q; omega)]
    exact ⟨-1, rfl, fun b hb => ⟨fun _ => Or.inl c, fun _ => by rw [bt_m1]; simp [hb]⟩⟩
  · rw [if_pos (s75.mpr c), e25]
    obtain ⟨n', hn'⟩ : ∃ n', F = n' + 1 := ⟨F - 1, by omega⟩
    have e42 : ∀ n', f_X0_lawful_42 F P xS0 (n' + 1) 222 (nI j) (nI w) (nI (sgn (tsr x) (mrk x))) (D.2 233 (j * 128 + w)) 0 D = some (D.2 233 (j * 128 + w), D) := fun n' => by
      rw [e_X0_lawful_42, h.1.2.2.2.2.2.2.1, if_neg (show ¬ nI B.length ≤ 0 from fun q => by have := (nI_leI (b := 0) (by omega) (by omega)).mp q; omega), if_neg (fun q => by have := s67.mp q; omega)]
    have e := e42 n'
    rw [← hn'] at e
    refine ⟨_, e, fun b hb => ?_⟩
    rw [hp (by omega) b hb]
    exact ⟨fun q => Or.inr ⟨q, fun q8 => by omega⟩, fun q => (q.resolve_left (by omega)).1⟩
  · rw [if_neg (fun q => by have := s75.mp q; omega), if_pos (s67.mpr c), e25, s67.mpr c]
    obtain ⟨z, e, hz⟩ := E_l42 (F := F) (P := P) h hw hj c B.length 0 F (D.2 233 (j * 128 + w)) (by omega) (by omega)
    refine ⟨z, e, fun b hb => (hz b hb).trans ?_⟩
    rw [hp (by omega) b hb]
    have nb := h.1.2.2.2.2.1
    constructor
    · rintro ⟨q1, q2⟩
      refine Or.inr ⟨q1, fun _ a ha hab => ?_⟩
      obtain ⟨k, hk⟩ := List.mem_iff_getElem?.mp (hK c a ha hab)
      rw [val_at nb hk]
      exact q2 k _ (by omega) hk ⟨rfl, rfl, and_pow hab⟩
    · intro q
      obtain ⟨q1, q2⟩ := q.resolve_left (by omega)
      refine ⟨q1, fun k y _ hk hkc => ?_⟩
      obtain ⟨k1, k2, k3⟩ := hkc
      obtain ⟨y1, y2⟩ := cst_b h hk
      rw [← val_at nb hk]
      match y, hk, k1, k2, k3, y1 with
      | .inner s m () l r, hk, k1, k2, k3, y1 =>
        have k1' : s = 5 := k1
        have k2' : l = x := k2
        obtain ⟨_, _, y3, y4⟩ := y1
        have hr : r = nil := by
          rcases y4 with ⟨_, _, q⟩ | ⟨_, _, _, q⟩ | ⟨q, _⟩
          · exact q
          · exact q
          · omega
        have hm : ∃ a, a < 4 ∧ m = 2 ^ a := by
          unfold mOK at y3
          have : m = 1 ∨ m = 2 ∨ m = 4 ∨ m = 8 := by omega
          rcases this with q | q | q | q
          · exact ⟨0, by omega, q⟩
          · exact ⟨1, by omega, q⟩
          · exact ⟨2, by omega, q⟩
          · exact ⟨3, by omega, q⟩
        obtain ⟨a, ha, hma⟩ := hm
        have hbit : (mrk x).testBit a = true := by
          rcases hb' : (mrk x).testBit a with _ | _
          · exfalso
            have k3' : m &&& mrk x ≠ 0 := k3
            apply k3'
            apply Nat.eq_of_testBit_eq
            intro i
            rw [Nat.testBit_and, hma, Nat.testBit_two_pow]
            by_cases c : a = i
            · subst c; rw [hb']; simp
            · simp [c]
          · rfl
        have := q2 c a ha hbit
        rw [k1', k2', hr, hma]
        exact this
theorem tyc_lw {v : T → Bool} {x : T} : tyc v x ↔ (v x = true → lwf v x) := by
  unfold tyc lwf
  constructor
  · intro h q
    by_cases c : tsr x = 1
    · exact Or.inl c
    · exact Or.inr (h q c)
  · intro h q c
    exact (h q).resolve_left c
/-- longs that change -/
def chL (l : List Nat) (D D' : xDt) : Prop := D'.1 = D.1 ∧ ∀ x, x ∉ l → D'.2 x = D.2 x
theorem chL_rfl (l : List Nat) (D : xDt) : chL l D D := ⟨rfl, fun _ _ => rfl⟩
theorem chL_trans {l : List Nat} {D D' D'' : xDt} (h : chL l D D') (h' : chL l D' D'') : chL l D D'' := ⟨h'.1.trans h.1, fun x hx => (h'.2 x hx).trans (h.2 x hx)⟩
theorem chL_i {l : List Nat} {D D' : xDt} {a k : Nat} {v : Int64} (ha : a ∈ l) (h : chL l D D') : chL l D (D'.1, xup D'.2 a k v) := ⟨h.1, fun x hx => by dsimp only; rw [xup_ne _ _ _ _ (fun q => hx (by rw [q]; exact ha))]; exact h.2 x hx⟩
theorem chL_mono {l l' : List Nat} {D D' : xDt} (h : chL l D D') (hs : ∀ x, x ∈ l → x ∈ l') : chL l' D D' := ⟨h.1, fun x hx => h.2 x (fun q => hx (hs x q))⟩
theorem cst_L {D D' : xDt} {N B : List T} (h : cst D N B) (hc : D'.1 = D.1) : cst D' N B := cst_ch h (fun x _ _ => by rw [hc])
/-- the parts of K and C, word by word -/
def pR2 (B : List T) (D : xDt) (w : Nat) : Prop := ∀ j x, B[j]? = some x → tsr x ≠ 1 → ∀ b, b < 64 → bt (D.2 233 (j * 128 + w)) b = evt (val B (64 * w + b)) (lft x)
theorem E_120 {F P : Nat} (hF : 100000 < F) {N B : List T} {w : Nat} {rec : Nat → Int32 → Int32 → Int64 → Int32 → xDt → Option xDt} {v1 : Int32} {v3 : Int64} (hw : w < 128) (hK : ∀ x, x ∈ B → tsr x = 8 → ∀ a, a < 4 → (mrk x).testBit a = true → tK a x ∈ B) : ∀ (d k n : Nat) (D : xDt), k + d = B.length → d < n → cst D N B → (∀ j y, N[j]? = some y → ∀ b, b < 64 → bt (D.2 232 j) b = evt (val B (64 * w + b)) y) → (∀ j x, j < k → B[j]? = some x → tsr x ≠ 1 → ∀ b, b < 64 → bt (D.2 233 (j * 128 + w)) b = evt (val B (64 * w + b)) (lft x)) → ∃ D', f_X0_makeTypes_120 F P xS0 rec n 222 v1 (nI B.length) v3 (nI w) (nI k) D = rec 222 v1 (nI B.length) v3 (nI (w + 1)) D' ∧ (∀ b, b < 64 → (bt (D'.2 235 w) b = true ↔ bt (D.2 235 w) b = true ∧ ∀ j x, k ≤ j → B[j]? = some x → tyc (val B (64 * w + b)) x)) ∧ pR2 B D' w ∧ (∀ w', w' ≠ w → D'.2 235 w' = D.2 235 w') ∧ (∀ j w', w' < 128 → w' ≠ w → D'.2 233 (j * 128 + w') = D.2 233 (j * 128 + w')) ∧ chL [233, 235] D D'
  | _, _, 0, _, _, h, _, _, _ => absurd h (by omega)
  | 0, k, n + 1, D, h1, _, h3, h4, h5 => by
    have h13 := h3.1.2.2.2.2.2.1
    refine ⟨D, ?_, fun b _ => ⟨fun q => ⟨q, fun j x hj hx => absurd (lt_of_at hx) (by omega)⟩, fun q => q.1⟩, fun j x hj => h5 j x (by have := lt_of_at hj; omega) hj, fun _ _ => rfl, fun _ _ _ _ => rfl, chL_rfl _ _⟩
    rw [e_X0_makeTypes_120, if_pos (by rw [nI_leI (by omega) (by omega)]; omega), nI_1]
    rfl
  | d + 1, k, n + 1, D, h1, h2, h3, h4, h5 => by
    have h13 := h3.1.2.2.2.2.2.1
    have hz := h3.1.2.1
    have hk : k < B.length := by omega
    obtain ⟨x, hx⟩ : ∃ x, B[k]? = some x := ⟨B[k], List.getElem?_eq_getElem hk⟩
    obtain ⟨u1, u2⟩ := cst_b h3 hx
    obtain ⟨_, ix, hix, eix⟩ := h3.1.2.2.2.2.2.2.2 k x hx
    have := lt_of_at hix
    have hl := (h3.1.2.2.2.1 ix x hix).2.2.1
    obtain ⟨jl, l1, l2, l3⟩ : ∃ jl, jl < 2400 ∧ D.1 226 ix = nI jl ∧ (tsr x ≠ 1 → N[jl]? = some (lft x)) := by
      rcases hl with ⟨q, e⟩ | ⟨_, jl, q1, q2, q3⟩
      · refine ⟨0, by omega, e, fun q1 => absurd q (tmw_l u1 ?_)⟩
        unfold isB at u2
        simp only [Bool.or_eq_true, decide_eq_true_eq] at u2
        omega
      · exact ⟨jl, by omega, q3, fun _ => q2⟩
    generalize hD6 : ((D.1, xup D.2 233 (k * 128 + w) (D.2 232 jl)) : xDt) = D6
    have d6 : D6.1 = D.1 := by rw [← hD6]
    have d6L : ∀ y, y ≠ 233 → D6.2 y = D.2 y := fun y hy => by rw [← hD6]; dsimp only; rw [xup_ne _ _ _ _ hy]
    have d6p : D6.2 233 (k * 128 + w) = D.2 232 jl := by rw [← hD6]; dsimp only; rw [xup_at]
    have d6n : ∀ q, q ≠ k * 128 + w → D6.2 233 q = D.2 233 q := fun q hq => by rw [← hD6]; dsimp only; rw [xup_nk _ _ _ _ _ hq]
    have h36 : cst D6 N B := cst_L h3 d6
    obtain ⟨t, t1, t2⟩ := E_tell (F := F) (P := P) (D := D6) (j := k) (w := w) (by omega) hw
    obtain ⟨z, z1, z2⟩ := E_law (F := F) (P := P) hF h36 hw hx (hK x (List.mem_of_getElem? hx)) (fun q b hb => by rw [d6p]; exact h4 jl _ (l3 q) b hb)
    generalize hD11 : ((D6.1, xup D6.2 235 w ((D6.2 235 w) &&& ((t ^^^ (-1)) ||| z))) : xDt) = D11
    have d11 : D11.1 = D6.1 := by rw [← hD11]
    have d11L : ∀ y, y ≠ 235 → D11.2 y = D6.2 y := fun y hy => by rw [← hD11]; dsimp only; rw [xup_ne _ _ _ _ hy]
    have e1 : f_X0_makeTypes_120 F P xS0 rec (n + 1) 222 v1 (nI B.length) v3 (nI w) (nI k) D = f_X0_makeTypes_120 F P xS0 rec n 222 v1 (nI B.length) v3 (nI w) (nI (k + 1)) D11 := by
      rw [e_X0_makeTypes_120, if_neg (by rw [nI_leI (by omega) (by omega)]; omega), xgrd_in (by omega) (by omega), nI_clamp (by omega), eix, xgrd_in (by omega) (by omega), nI_clamp (by omega), l2, xgrd_in (by omega) (by omega), nI_clamp (by omega), show (128 : Int32) = nI 128 from rfl, nI_mul, nI_add, xgrd_in (by omega) (by omega), nI_clamp (by omega), xlet_q, hD6, xgrd_in hw (by omega), t1, Option.bind_some]
      dsimp only
      rw [z1, Option.bind_some, xgrd_in hw (by omega), nI_clamp (by omega), xlet_q]
      dsimp only
      rw [hD11, xlet_q, nI_1]
    obtain ⟨D', e', a1, a2, a3, a4, a5⟩ := E_120 (P := P) hF (rec := rec) (v1 := v1) (v3 := v3) hw hK d (k + 1) n D11 (by omega) (by omega) (cst_L h36 d11) (fun j y hy => by rw [d11L 232 (by omega), d6L 232 (by omega)]; exact h4 j y hy) (fun j y hj hy hs => by
      rw [d11L 233 (by omega)]
      by_cases c : j = k
      · subst c
        rw [hx] at hy; injection hy with hy; subst hy
        rw [d6p]
        exact h4 jl _ (l3 hs)
      · rw [d6n _ (by omega)]; exact h5 j y (by omega) hy hs)
    refine ⟨D', by rw [e1]; exact e', fun b hb => (a1 b hb).trans ?_, a2, fun w' hw' => ?_, fun j w' hw1 hw' => ?_, ?_⟩
    · have e235 : D11.2 235 w = (D6.2 235 w) &&& ((t ^^^ (-1)) ||| z) := by rw [← hD11]; dsimp only; rw [xup_at]
      have sp : tyc (val B (64 * w + b)) x ↔ bt ((t ^^^ (-1)) ||| z) b = true := by
        rw [tyc_lw, bt_or, bt_not _ hb, t2 b hb, val_at h3.1.2.2.2.2.1 hx, Bool.or_eq_true, z2 b hb]
        cases (64 * w + b).testBit k <;> simp
      rw [e235, bt_and, Bool.and_eq_true, ← sp, d6L 235 (by omega)]
      constructor
      · rintro ⟨⟨q1, q2⟩, q3⟩
        refine ⟨q1, fun j y hj hy => ?_⟩
        by_cases c : j = k
        · subst c; rw [hx] at hy; injection hy with hy; subst hy; exact q2
        · exact q3 j y (by omega) hy
      · rintro ⟨q1, q2⟩
        exact ⟨⟨q1, q2 k x (Nat.le_refl _) hx⟩, fun j y hj hy => q2 j y (by omega) hy⟩
    · rw [a3 w' hw', ← hD11]; dsimp only; rw [xup_nk _ _ _ _ _ hw', d6L 235 (by omega)]
    · rw [a4 j w' hw1 hw', d11L 233 (by omega), d6n _ (by omega)]
    · refine chL_trans ?_ a5
      rw [← hD11, ← hD6]
      exact chL_i (D' := (D.1, xup D.2 233 (k * 128 + w) (D.2 232 jl))) (by simp) (chL_i (by simp) (chL_rfl _ _))
