/-! decide: the reference -/
theorem cn_mon {p q : Nat → Bool} : ∀ {k : Nat}, (∀ j, j < k → p j = true → q j = true) → cn p k ≤ cn q k
  | 0, _ => Nat.le_refl _
  | k + 1, h => by
    have h1 := cn_mon (k := k) (fun j hj => h j (by omega))
    have h2 := h k (by omega)
    rw [cn, cn]
    cases hp : p k
    · simp; omega
    · rw [h2 hp]; simp; omega
theorem cn_str {p q : Nat → Bool} : ∀ {k : Nat}, (∀ j, j < k → p j = true → q j = true) → (∃ u, u < k ∧ q u = true ∧ p u = false) → cn p k < cn q k
  | 0, _, ⟨u, h, _⟩ => absurd h (by omega)
  | k + 1, h, ⟨u, h1, h2, h3⟩ => by
    rw [cn, cn]
    by_cases c : u = k
    · subst c
      have := cn_mon (k := u) (fun j hj => h j (by omega))
      rw [h2, h3]; simp; omega
    · have := cn_str (k := k) (fun j hj => h j (by omega)) ⟨u, by omega, h2, h3⟩
      have h4 := h k (by omega)
      cases hp : p k
      · simp; omega
      · rw [h4 hp]; simp; omega
def innR (B : List T) (y : T) (D : xDt) (K : Nat) : Prop := ∀ u, u < K → ∃ I, I < 2 ^ 14 ∧ D.1 269 u = nI I ∧ (∀ k x, B[k]? = some x → tsr x ≠ 1 → I.testBit k = evt (val B u) (lft x)) ∧ I.testBit 13 = evt (val B u) y
theorem E_d265 {F P : Nat} {N B : List T} {u : Nat} {rec : Nat → Int32 → Int32 → Int32 → Int32 → Int32 → Int32 → xDt → Option (Int32 × xDt)} {v1 v2 v3 v4 v5 : Int32} (hz : N.length ≤ 8000) (hb : B.length ≤ 13) (hu : u < 8192) (hnl : ∀ x, x ∈ B → tsr x ≠ 1 → lft x ≠ nil) : ∀ (d k n : Nat) (D : xDt) (I : Nat), k + d = B.length → d < n → rN D.1 N → rB D.1 N B → (∀ j y, N[j]? = some y → D.1 272 j = bI (evt (val B u) y)) → I < 2 ^ 14 → D.1 269 u = nI I → (∀ j x, j < k → B[j]? = some x → tsr x ≠ 1 → I.testBit j = evt (val B u) (lft x)) → (∀ j, k ≤ j → j < 13 → I.testBit j = false) → ∃ D' I', f_X12_decide_265 F P xS0 rec n 241 v1 v2 v3 v4 v5 (nI u) (nI k) D = rec 241 v1 v2 v3 v4 v5 (nI (u + 1)) D' ∧ I' < 2 ^ 14 ∧ D'.1 269 u = nI I' ∧ (∀ j x, B[j]? = some x → tsr x ≠ 1 → I'.testBit j = evt (val B u) (lft x)) ∧ I'.testBit 13 = I.testBit 13 ∧ (∀ w, w ≠ u → D'.1 269 w = D.1 269 w) ∧ ch [269] [] D D'
  | _, _, 0, _, _, _, h, _, _, _, _, _, _, _ => absurd h (by omega)
  | 0, k, n + 1, D, I, h1, _, hN, hB, hh, h3, h4, h5, h6 => by
    refine ⟨D, I, ?_, h3, h4, fun j x hj => h5 j x (by have := lt_of_at hj; omega) hj, rfl, fun _ _ => rfl, ch_rfl _ _ _⟩
    rw [e_X12_decide_265, hB.2.1, if_pos (by rw [nI_leI (by omega) (by omega)]; omega), nI_1]
    rfl
  | d + 1, k, n + 1, D, I, h1, h2, hN, hB, hh, h3, h4, h5, h6 => by
    have hk : k < B.length := by omega
    obtain ⟨x, hx⟩ : ∃ x, B[k]? = some x := ⟨B[k], List.getElem?_eq_getElem hk⟩
    have hxB : x ∈ B := List.mem_of_getElem? hx
    obtain ⟨g, hg, hg2⟩ := hB.2.2 k x hx
    have hgl := lt_of_at hg
    obtain ⟨s, m, l, r, e, g1, g2, g3, g4, g5, g6⟩ := hN.2.2 g x hg
    have hsx : tsr x = s := by rw [e]; rfl
    have hlx : lft x = l := by rw [e]; rfl
    have l269 : xl xS0 269 = 8192 := by decide +kernel
    -- the next number
    have nxt : ∀ I2 : Nat, I2 < 2 ^ 14 → (∀ j, j ≠ k → I2.testBit j = I.testBit j) → (tsr x ≠ 1 → I2.testBit k = evt (val B u) (lft x)) → ∃ D' I', f_X12_decide_265 F P xS0 rec n 241 v1 v2 v3 v4 v5 (nI u) (nI (k + 1)) (xup D.1 269 u (nI I2), D.2) = rec 241 v1 v2 v3 v4 v5 (nI (u + 1)) D' ∧ I' < 2 ^ 14 ∧ D'.1 269 u = nI I' ∧ (∀ j x, B[j]? = some x → tsr x ≠ 1 → I'.testBit j = evt (val B u) (lft x)) ∧ I'.testBit 13 = I.testBit 13 ∧ (∀ w, w ≠ u → D'.1 269 w = D.1 269 w) ∧ ch [269] [] D D' := by
      intro I2 i1 i2 i3
      have hd : ∀ a, a ≠ 269 → ((xup D.1 269 u (nI I2), D.2) : xDt).1 a = D.1 a := fun a ha => by dsimp only; rw [xup_ne _ _ _ _ ha]
      obtain ⟨D', I', e', a1, a2, a3, a4, a5, a6⟩ := E_d265 (F := F) (P := P) (rec := rec) (v1 := v1) (v2 := v2) (v3 := v3) (v4 := v4) (v5 := v5) hz hb hu hnl d (k + 1) n (xup D.1 269 u (nI I2), D.2) I2 (by omega) (by omega) (rN_congr (by rw [hd 241 (by omega)]) (fun a q1 q2 => hd a (by omega)) hN) (rB_congr (by rw [hd 241 (by omega)]) (hd 267 (by omega)) (fun _ _ h => h) hB) (fun j y hy => by rw [hd 272 (by omega)]; exact hh j y hy) i1 (by dsimp only; rw [xup_at]) (fun j y hj hy hs => by
        by_cases c : j = k
        · subst c; rw [hx] at hy; injection hy with hy; subst hy; exact i3 hs
        · rw [i2 j c]; exact h5 j y (by omega) hy hs) (fun j q1 q2 => by rw [i2 j (by omega)]; exact h6 j (by omega) q2)
      exact ⟨D', I', e', a1, a2, a3, by rw [a4, i2 13 (by omega)], fun w hw => by rw [a5 w hw]; dsimp only; rw [xup_nk _ _ _ _ _ hw], ch_trans (ch_i (by simp) (ch_rfl _ _ _)) a6⟩
    have z330 : f_X12_decide_329 F P xS0 rec (f_X12_decide_265 F P xS0 rec n) 241 v1 v2 v3 v4 v5 (nI u) (nI k) (nI I) (nI u) 269 D = f_X12_decide_265 F P xS0 rec n 241 v1 v2 v3 v4 v5 (nI u) (nI (k + 1)) (xup D.1 269 u (nI I), D.2) := by
      rw [e_X12_decide_329, e_X12_decide_330, l269, xgrd_in hu (by omega), nI_clamp (by omega), show nI I ||| 0 = nI I from by rw [k0, nI_or, Nat.or_zero], nI_1]
      rfl
    rw [e_X12_decide_265, hB.2.1, if_neg (by rw [nI_leI (by omega) (by omega)]; omega), xgrd_in hu (by omega), xgrd_in (by omega) (by omega), nI_clamp (by omega), hg2, xgrd_in (by omega) (by omega), nI_clamp (by omega), g3, nI_clamp (show u < 2 ^ 31 by omega), h4]
    by_cases c1 : s = 1
    · rw [if_pos (by rw [c1]; rfl), z330]
      exact nxt I h3 (fun _ _ => rfl) (fun q => absurd (hsx.trans c1) q)
    rw [if_neg (show ¬ nI s = 1 from fun q => c1 ((nI_eq (b := 1) (by omega) (by omega)).mp q)), xgrd_in (by omega) (by omega), xgrd_in (by omega) (by omega)]
    obtain ⟨j, hj, hj2, hj3⟩ : ∃ j, j < g ∧ N[j]? = some l ∧ D.1 248 (12800 + g) = nI (12800 + j) := by
      rcases g5 with ⟨q, _⟩ | q
      · exact absurd (hlx.trans q) (hnl x hxB (by omega))
      · exact q
    rw [hj3, show (12800 : Int32) = nI 12800 from rfl, nI_sub (by omega), Nat.add_sub_cancel_left, xgrd_in (by omega) (by omega), nI_clamp (by omega), hh j l hj2]
    rcases hl : evt (val B u) l with _ | _
    · rw [if_pos (show bI false = 0 from rfl), z330]
      exact nxt I h3 (fun _ _ => rfl) (fun _ => by rw [hlx, hl]; exact h6 k (Nat.le_refl _) (by omega))
    · rw [if_neg (show ¬ bI true = 0 by decide), e_X12_decide_330, l269, xgrd_in hu (by omega), nI_clamp (by omega), sh_1 k (by omega), nI_or, nI_1]
      have hp : 2 ^ k < 2 ^ 14 := Nat.pow_lt_pow_right (by omega) (by omega)
      exact nxt (I ||| 2 ^ k) (Nat.or_lt_two_pow h3 hp) (fun j hj => by rw [Nat.testBit_or, Nat.testBit_two_pow]; have : ¬ k = j := fun q => hj q.symm; simp [this]) (fun _ => by rw [hlx, hl, Nat.testBit_or, Nat.testBit_two_pow]; simp)
theorem E_d188 {F P : Nat} (hF : 100000 < F) {N B : List T} {bx : T → Prop} {y : T} {K jf : Nat} {ty : Nat → Bool} {v1 : Int32} (hz : N.length ≤ 8000) (hb : B.length ≤ 13) (hBx : ∀ x, x ∈ B ↔ bx x) (hK : K ≤ 8192) (hty : ∀ u, ty u = true ↔ isTy bx (val B u)) (hBs : ∀ x, x ∈ B → isB (tsr x) = true) (hBN : ∀ x, x ∈ N → isB (tsr x) = true → x ∈ B) (hnd : ∀ y, y ∈ N → tsr y = 8 → ∃ m l, y = bn 8 m l nil) (hnl : ∀ x, x ∈ B → tsr x ≠ 1 → lft x ≠ nil) (hKK : ∀ y, y ∈ B → tsr y = 8 → ∀ a, a < 4 → (mrk y).testBit a = true → tK a y ∈ N) (hjf : N[jf]? = some y) : ∀ (e u n : Nat) (D : xDt), u + e = K → e < n → rN D.1 N → rB D.1 N B → Lr D ty u → innR B y D u → ∃ D', f_X12_decide_188 F P xS0 n 241 v1 (nI (12800 + jf)) (nI (12800 + N.length)) (nI K) (nI (cn ty u)) (nI u) D = f_X12_decide_347 F P xS0 F 241 v1 (nI K) (nI (cn ty K)) 1 D' ∧ rN D'.1 N ∧ rB D'.1 N B ∧ Lr D' ty K ∧ innR B y D' K ∧ ch [268, 269, 272] [] D D'
  | _, _, 0, _, _, h, _, _, _, _ => absurd h (by omega)
  | 0, u, n + 1, D, h1, _, hN, hB, h3, h4 => by
    have : u = K := by omega
    subst this
    refine ⟨D, ?_, hN, hB, h3, h4, ch_rfl _ _ _⟩
    rw [e_X12_decide_188, if_pos (Int32.le_refl _)]
  | e + 1, u, n + 1, D, h1, h2, hN, hB, h3, h4 => by
    have hu : u < K := by omega
    obtain ⟨D1, e1, a1, a2⟩ := E_rk (F := F) (P := P) hF (u := u) hz hb hBN N.length 0 F D (by omega) (by omega) hN hB (fun j y hj => absurd hj (by omega))
    have hN1 : rN D1.1 N := rN_congr (by rw [a2.1 241 (by decide)]) (fun y q1 q2 => a2.1 y (by simp; omega)) hN
    have hB1 : rB D1.1 N B := rB_congr (by rw [a2.1 241 (by decide)]) (a2.1 267 (by decide)) (fun _ _ h => h) hB
    obtain ⟨r, e2, hr⟩ := E_it (F := F) (P := P) hF (u := u) hz hb hN1 hB1 hBs hnd hnl a1 hKK B.length 0 F (by omega) (by omega)
    have hrt : r = ty u := by
      apply Bool.eq_iff_iff.mpr
      rw [hr, hty]
      constructor
      · intro h x hx
        obtain ⟨k, hk⟩ := List.mem_iff_getElem?.mp ((hBx x).mpr hx)
        exact h k x (by omega) hk
      · intro h j x _ hx
        exact h x ((hBx x).mp (List.mem_of_getElem? hx))
    subst hrt
    have hjl := lt_of_at hjf
    rw [e_X12_decide_188, if_neg (by rw [nI_leI (by omega) (by omega)]; omega), e_X12_reckon, show f_X12_reckon_4 F P xS0 F 241 (nI u) (nI (12800 + N.length)) 12800 D = some D1 from e1, Option.bind_some, e_X12_isType, show f_X12_isType_2 F P xS0 F 241 (nI u) 0 D1 = _ from e2, Option.bind_some]
    dsimp only
    rw [xgrd_in (by omega) (by omega), nI_clamp (by omega), bI_a, xlet_q, xgrd_in (by omega) (by omega)]
    generalize hD2 : ((xup D1.1 268 u (bI (ty u)), D1.2) : xDt) = D2
    have d2 : ∀ a, a ≠ 268 → D2.1 a = D1.1 a := fun a ha => by rw [← hD2]; dsimp only; rw [xup_ne _ _ _ _ ha]
    have d2' : ∀ w, w ≠ u → D2.1 268 w = D.1 268 w := fun w hw => by rw [← hD2]; dsimp only; rw [xup_nk _ _ _ _ _ hw, a2.1 268 (by decide)]
    have d2u : D2.1 268 u = bI (ty u) := by rw [← hD2]; dsimp only; rw [xup_at]
    have c2 : ch [268, 269, 272] [] D D2 := ch_trans (ch_mono a2 (fun x hx => by simp at hx ⊢; omega) (fun _ h => h)) (by rw [← hD2]; exact ch_i (by simp) (ch_rfl _ _ _))
    have l269 : xl xS0 269 = 8192 := by decide +kernel
    have hh2 : ∀ j y, N[j]? = some y → D2.1 272 j = bI (evt (val B u) y) := fun j y hy => by rw [d2 272 (by omega)]; exact a1 j y hy
    have e232 : ∀ s0 : Int32, f_X12_decide_232 F P xS0 (f_X12_decide_188 F P xS0 n) 241 v1 (nI (12800 + jf)) (nI (12800 + N.length)) (nI K) (nI u) s0 (nI (cn ty u)) D2 = f_X12_decide_265 F P xS0 (f_X12_decide_188 F P xS0 n) F 241 v1 (nI (12800 + jf)) (nI (12800 + N.length)) (nI K) (nI (cn ty u) + s0) (nI u) 0 (xup D2.1 269 u (nI (if evt (val B u) y = true then 8192 else 0)), D2.2) := by
      intro s0
      rw [e_X12_decide_232, show (12800 : Int32) = nI 12800 from rfl, nI_sub (by omega), Nat.add_sub_cancel_left]
      simp only [xlet]
      rw [xgrd_in (by omega) (by omega), nI_clamp (by omega), hh2 jf y hjf]
      rcases evt (val B u) y with _ | _
      · rw [if_pos (show bI false = 0 from rfl), e_X12_decide_261, l269, xgrd_in (by omega) (by omega), nI_clamp (by omega)]
        rfl
      · rw [if_neg (show ¬ bI true = 0 by decide), e_X12_decide_261, l269, xgrd_in (by omega) (by omega), nI_clamp (by omega)]
        rfl
    have e3 : ∀ q : Int32, q = bI (ty u) → (if q = 0 then (f_X12_decide_232 F P xS0 (f_X12_decide_188 F P xS0 n) 241 v1 (nI (12800 + jf)) (nI (12800 + N.length)) (nI K) (nI u) 0 (nI (cn ty u)) D2) else (f_X12_decide_232 F P xS0 (f_X12_decide_188 F P xS0 n) 241 v1 (nI (12800 + jf)) (nI (12800 + N.length)) (nI K) (nI u) 1 (nI (cn ty u)) D2)) = f_X12_decide_265 F P xS0 (f_X12_decide_188 F P xS0 n) F 241 v1 (nI (12800 + jf)) (nI (12800 + N.length)) (nI K) (nI (cn ty (u + 1))) (nI u) 0 (xup D2.1 269 u (nI (if evt (val B u) y = true then 8192 else 0)), D2.2) := by
      intro q hq
      subst hq
      rw [e232, e232, cn]
      rcases ty u with _ | _
      · rw [if_pos (show bI false = 0 from rfl), k0, nI_add]; rfl
      · rw [if_neg (show ¬ bI true = 0 by decide), k1, nI_add]; rfl
    rw [e3 _ d2u]
    generalize hI0 : (if evt (val B u) y = true then 8192 else 0) = I0
    have hI1 : I0 < 2 ^ 14 ∧ I0.testBit 13 = evt (val B u) y ∧ ∀ j, j < 13 → I0.testBit j = false := by
      rw [← hI0]
      rcases evt (val B u) y with _ | _
      · exact ⟨by decide, by decide, fun j _ => by simp⟩
      · refine ⟨by decide, by decide, fun j hj => ?_⟩
        rw [if_pos rfl, show (8192 : Nat) = 2 ^ 13 from rfl, Nat.testBit_two_pow]
        have : ¬ 13 = j := by omega
        simp [this]
    generalize hD3 : ((xup D2.1 269 u (nI I0), D2.2) : xDt) = D3
    have d3 : ∀ a, a ≠ 269 → D3.1 a = D2.1 a := fun a ha => by rw [← hD3]; dsimp only; rw [xup_ne _ _ _ _ ha]
    have hN3 : rN D3.1 N := rN_congr (by rw [d3 241 (by omega), d2 241 (by omega)]) (fun a q1 q2 => by rw [d3 a (by omega), d2 a (by omega)]) hN1
    have hB3 : rB D3.1 N B := rB_congr (by rw [d3 241 (by omega), d2 241 (by omega)]) (by rw [d3 267 (by omega), d2 267 (by omega)]) (fun _ _ h => h) hB1
    obtain ⟨D4, I4, e4, b1, b2, b3, b4, b5, b6⟩ := E_d265 (F := F) (P := P) (N := N) (B := B) (u := u) (rec := f_X12_decide_188 F P xS0 n) (v1 := v1) (v2 := nI (12800 + jf)) (v3 := nI (12800 + N.length)) (v4 := nI K) (v5 := nI (cn ty (u + 1))) hz hb (by omega) hnl B.length 0 F D3 I0 (by omega) (by omega) hN3 hB3 (fun j y hy => by rw [d3 272 (by omega)]; exact hh2 j y hy) hI1.1 (by rw [← hD3]; dsimp only; rw [xup_at]) (fun j x hj => absurd hj (by omega)) (fun j _ hj => hI1.2.2 j hj)
    rw [show f_X12_decide_265 F P xS0 (f_X12_decide_188 F P xS0 n) F 241 v1 (nI (12800 + jf)) (nI (12800 + N.length)) (nI K) (nI (cn ty (u + 1))) (nI u) 0 D3 = _ from e4]
    have hN4 : rN D4.1 N := rN_congr (by rw [b6.1 241 (by decide)]) (fun a q1 q2 => b6.1 a (by simp; omega)) hN3
    have hB4 : rB D4.1 N B := rB_congr (by rw [b6.1 241 (by decide)]) (b6.1 267 (by decide)) (fun _ _ h => h) hB3
    obtain ⟨D5, e5, f1, f2, f3, f4, f5⟩ := E_d188 (P := P) hF (v1 := v1) hz hb hBx hK hty hBs hBN hnd hnl hKK hjf e (u + 1) n D4 (by omega) (by omega) hN4 hB4 (fun w hw => by
      rw [b6.1 268 (by decide), d3 268 (by omega)]
      by_cases c : w = u
      · subst c; exact d2u
      · rw [d2' w c]; exact h3 w (by omega)) (fun w hw => by
      by_cases c : w = u
      · subst c
        exact ⟨I4, b1, b2, b3, by rw [b4]; exact hI1.2.1⟩
      · obtain ⟨I, i1, i2, i3⟩ := h4 w (by omega)
        refine ⟨I, i1, ?_, i3⟩
        rw [b5 w c, ← hD3]
        dsimp only
        rw [xup_nk _ _ _ _ _ c, d2 269 (by omega), a2.1 269 (by decide)]; exact i2)
    have c3 : ch [268, 269, 272] [] D2 D3 := by rw [← hD3]; exact ch_i (by simp) (ch_rfl _ _ _)
    exact ⟨D5, e5, f1, f2, f3, f4, ch_trans c2 (ch_trans c3 (ch_trans (ch_mono b6 (fun x hx => by simp at hx ⊢; omega) (fun _ h => h)) f5))⟩
theorem E_d358 {F P : Nat} (hF : 100000 < F) {N B : List T} {bx : T → Prop} {y : T} {K : Nat} {rec : Nat → Int32 → Int32 → Int32 → Int32 → xDt → Option (Int32 × xDt)} {v1 v5 : Int32} (hz : N.length ≤ 8000) (hb : B.length ≤ 13) (hBx : ∀ x, x ∈ B ↔ bx x) (hKe : K = 2 ^ B.length) (hK : K ≤ 8192) : ∀ (d k n : Nat) (D : xDt) (L : Nat → Bool) (mo : Bool), k + d = B.length → d < n → rN D.1 N → rB D.1 N B → Lr D L K → innR B y D K → ∃ D' L' mo', f_X12_decide_358 F P xS0 rec n 241 v1 (nI K) v5 (bI mo) (nI k) D = rec 241 v1 (nI K) v5 (bI mo') D' ∧ Lr D' L' K ∧ (∀ t, t < K → L' t = true → L t = true) ∧ ((∀ t, t < K → Gst bx (val B t) → L t = true) → ∀ t, t < K → Gst bx (val B t) → L' t = true) ∧ (mo' = false → mo = false ∧ (∀ t, t < K → L' t = L t) ∧ ∀ j x, k ≤ j → B[j]? = some x → tsr x ≠ 1 → nsf bx B j x L L) ∧ (mo' = true → mo = true ∨ ∃ u, u < K ∧ L u = true ∧ L' u = false) ∧ ch [268, 270, 271] [] D D'
  | _, _, 0, _, _, _, _, h, _, _, _, _ => absurd h (by omega)
  | 0, k, n + 1, D, L, mo, h1, _, hN, hB, h3, h4 => by
    refine ⟨D, L, mo, ?_, h3, fun _ _ h => h, fun h => h, fun h => ⟨h, fun _ _ => rfl, fun j x hj hx => absurd (lt_of_at hx) (by omega)⟩, fun h => Or.inl h, ch_rfl _ _ _⟩
    rw [e_X12_decide_358, hB.2.1, if_pos (by rw [nI_leI (by omega) (by omega)]; omega)]
  | d + 1, k, n + 1, D, L, mo, h1, h2, hN, hB, h3, h4 => by
    have hk : k < B.length := by omega
    obtain ⟨x, hx⟩ : ∃ x, B[k]? = some x := ⟨B[k], List.getElem?_eq_getElem hk⟩
    obtain ⟨g, hg, hg2⟩ := hB.2.2 k x hx
    have hgl := lt_of_at hg
    obtain ⟨s, m, l, r, e, g1, g2, g3, g4, g5, g6⟩ := hN.2.2 g x hg
    have hsx : tsr x = s := by rw [e]; rfl
    have e404 : ∀ (mo : Bool) (D1 : xDt), f_X12_decide_404 F P xS0 rec (f_X12_decide_358 F P xS0 rec n) 241 v1 (nI K) v5 (nI k) (bI mo) D1 = f_X12_decide_358 F P xS0 rec n 241 v1 (nI K) v5 (bI mo) (nI (k + 1)) D1 := fun mo D1 => by
      rw [e_X12_decide_404, nI_1]; rfl
    have e394 : ∀ D1 : xDt, f_X12_decide_394 F P xS0 rec (f_X12_decide_358 F P xS0 rec n) 241 v1 (nI K) v5 (bI mo) (nI k) D1 = f_X12_decide_358 F P xS0 rec n 241 v1 (nI K) v5 (bI mo) (nI (k + 1)) D1 := fun D1 => by
      rw [e_X12_decide_394]
      cases mo
      · rw [if_pos (show bI false = 0 from rfl)]; exact e404 false D1
      · rw [if_neg (show ¬ bI true = 0 by decide), e_X12_decide_399]; exact e404 true D1
    rw [e_X12_decide_358, hB.2.1, if_neg (by rw [nI_leI (by omega) (by omega)]; omega), xgrd_in (by omega) (by omega), nI_clamp (by omega), hg2, xgrd_in (by omega) (by omega), nI_clamp (by omega), g3]
    by_cases c1 : s = 1
    · rw [if_pos (by rw [c1]; rfl), e394]
      obtain ⟨D', L', mo', e', a1, a2, a3, a4, a5, a6⟩ := E_d358 (P := P) hF (rec := rec) (v1 := v1) (v5 := v5) hz hb hBx hKe hK d (k + 1) n D L mo (by omega) (by omega) hN hB h3 h4
      refine ⟨D', L', mo', e', a1, a2, a3, fun q => ?_, a5, a6⟩
      obtain ⟨q1, q2, q3⟩ := a4 q
      refine ⟨q1, q2, fun j z hj hz hs => ?_⟩
      by_cases c : j = k
      · subst c; rw [hx] at hz; injection hz with hz; subst hz; exact absurd (hsx.trans c1) hs
      · exact q3 j z (by omega) hz hs
    rw [if_neg (show ¬ nI s = 1 from fun q => c1 ((nI_eq (b := 1) (by omega) (by omega)).mp q))]
    obtain ⟨D1, L1, r1, e1, b1, b2, b3, b4, b5⟩ := E_msift (F := F) (P := P) hF (bx := bx) hz hb hBx hKe hK hx hN hB h3 (fun u hu => by
      obtain ⟨I, _, i2, i3, _⟩ := h4 u hu
      exact ⟨I, i2, i3 k x hx (by omega)⟩)
    have hN1 : rN D1.1 N := rN_congr (by rw [b5.1 241 (by decide)]) (fun a q1 q2 => b5.1 a (by simp; omega)) hN
    have hB1 : rB D1.1 N B := rB_congr (by rw [b5.1 241 (by decide)]) (b5.1 267 (by decide)) (fun _ _ h => h) hB
    have h41 : innR B y D1 K := fun u hu => by rw [b5.1 269 (by decide)]; exact h4 u hu
    rw [e1, Option.bind_some]
    rcases r1 with _ | _
    · rw [if_pos (show bI false = 0 from rfl)]
      dsimp only
      rw [e394]
      have heq : ∀ t, t < K → L1 t = L t := by
        intro t ht
        apply Bool.eq_iff_iff.mpr
        refine ⟨b3 t ht, fun q => ?_⟩
        rcases hh : L1 t with _ | _
        · have := b4.mpr ⟨t, ht, q, hh⟩; cases this
        · rfl
      obtain ⟨D', L', mo', e', a1, a2, a3, a4, a5, a6⟩ := E_d358 (P := P) hF (rec := rec) (v1 := v1) (v5 := v5) hz hb hBx hKe hK d (k + 1) n D1 L mo (by omega) (by omega) hN1 hB1 (fun t ht => by rw [b1 t ht, heq t ht]) h41
      refine ⟨D', L', mo', e', a1, a2, a3, fun q => ?_, a5, ch_trans b5 a6⟩
      obtain ⟨q1, q2, q3⟩ := a4 q
      refine ⟨q1, q2, fun j z hj hz hs => ?_⟩
      by_cases c : j = k
      · subst c; rw [hx] at hz; injection hz with hz; subst hz
        intro t ht
        rw [← b2 t ht, heq t (by omega)]
      · exact q3 j z (by omega) hz hs
    · rw [if_neg (show ¬ bI true = 0 by decide), e_X12_decide_399]
      dsimp only
      rw [show (1 : Int32) = bI true from rfl, e404]
      obtain ⟨D', L', mo', e', a1, a2, a3, a4, a5, a6⟩ := E_d358 (P := P) hF (rec := rec) (v1 := v1) (v5 := v5) hz hb hBx hKe hK d (k + 1) n D1 L1 true (by omega) (by omega) hN1 hB1 b1 h41
      refine ⟨D', L', mo', e', a1, fun t ht q => b3 t ht (a2 t ht q), fun q => a3 (fun t ht hg => keepG hB.1 hBx hx (by omega) (fun t ht hg => q t (by omega) hg) b2 t (by omega) hg), fun q => ?_, fun _ => ?_, ch_trans b5 a6⟩
      · have := (a4 q).1; cases this
      · obtain ⟨u, q1, q2, q3⟩ := b4.mp rfl
        refine Or.inr ⟨u, q1, q2, ?_⟩
        rcases hh : L' u with _ | _
        · rfl
        · have := a2 u q1 hh
          rw [q3] at this; cases this
theorem E_d347 {F P : Nat} (hF : 100000 < F) {N B : List T} {bx : T → Prop} {y : T} {K : Nat} {v1 v5 : Int32} (hz : N.length ≤ 8000) (hb : B.length ≤ 13) (hBx : ∀ x, x ∈ B ↔ bx x) (hKe : K = 2 ^ B.length) (hK : K ≤ 8192) : ∀ (c n : Nat) (D : xDt) (L : Nat → Bool), cn L K ≤ c → c + 1 < n → rN D.1 N → rB D.1 N B → Lr D L K → innR B y D K → (∀ t, t < K → L t = true → isTy bx (val B t)) → (∀ t, t < K → Gst bx (val B t) → L t = true) → ∃ D' L', f_X12_decide_347 F P xS0 n 241 v1 (nI K) v5 1 D = f_X12_decide_424 F P xS0 F 241 v1 (nI K) v5 0 0 0 D' ∧ Lr D' L' K ∧ (∀ t, t < K → (L' t = true ↔ Gst bx (val B t))) ∧ ch [268, 270, 271] [] D D'
  | c, 0, _, _, _, h, _, _, _, _, _, _ => absurd h (by omega)
  | c, n + 1, D, L, h1, h2, hN, hB, h3, h4, h5, h6 => by
    obtain ⟨D', L', mo', e', a1, a2, a3, a4, a5, a6⟩ := E_d358 (F := F) (P := P) hF (y := y) (rec := f_X12_decide_347 F P xS0 n) (v1 := v1) (v5 := v5) hz hb hBx hKe hK B.length 0 F D L false (by omega) (by omega) hN hB h3 h4
    rw [e_X12_decide_347, if_neg (show ¬ (1 : Int32) = 0 by decide), show f_X12_decide_358 F P xS0 (f_X12_decide_347 F P xS0 n) F 241 v1 (nI K) v5 0 0 D = _ from e']
    rcases mo' with _ | _
    · obtain ⟨_, q2, q3⟩ := a4 rfl
      obtain ⟨n', rfl⟩ : ∃ n', n = n' + 1 := ⟨n - 1, by omega⟩
      refine ⟨D', L', ?_, a1, fun t ht => ?_, a6⟩
      · rw [e_X12_decide_347, if_pos (show bI false = 0 from rfl)]
      · refine ⟨fun q => ?_, a3 h6 t ht⟩
        exact finG hB.1 hBx (fun t ht => h5 t (by omega)) (fun k x hk hs => q3 k x (by omega) hk hs) t (by omega) (by rw [← q2 t ht]; exact q)
    · have hlt : cn L' K < cn L K := cn_str a2 ((a5 rfl).resolve_left (fun q => by cases q))
      obtain ⟨c', rfl⟩ : ∃ c', c = c' + 1 := ⟨c - 1, by omega⟩
      obtain ⟨D2, L2, e2, b1, b2, b3⟩ := E_d347 (P := P) hF (v1 := v1) (v5 := v5) hz hb hBx hKe hK c' n D' L' (by omega) (by omega) (rN_congr (by rw [a6.1 241 (by decide)]) (fun a q1 q2 => a6.1 a (by simp; omega)) hN) (rB_congr (by rw [a6.1 241 (by decide)]) (a6.1 267 (by decide)) (fun _ _ h => h) hB) a1 (fun u hu => by rw [a6.1 269 (by decide)]; exact h4 u hu) (fun t ht q => h5 t ht (a2 t ht q)) (a3 h6)
      exact ⟨D2, L2, e2, b1, b2, ch_trans a6 b3⟩
theorem sh13 (I : Nat) (h : I < 2 ^ 14) : (jishr (nI I) 13 = 1) ↔ I.testBit 13 = true := by
  have e : jishr (nI I) 13 = bI (I.testBit 13) := by
    apply bi_ext
    intro i hi
    rw [show (13 : Int32) = nI 13 from rfl, bi_sshr 13 (by omega) _ hi]
    have hb : ∀ j, 14 ≤ j → j < 32 → bi (nI I) j = false := fun j h1 h2 => by
      rw [bi_nI I h2]
      exact Nat.testBit_lt_two_pow (Nat.lt_of_lt_of_le h (Nat.pow_le_pow_right (by omega) h1))
    unfold bI
    by_cases c : i = 0
    · subst c
      rw [if_pos (by omega), bi_nI I (by omega), Nat.add_zero]
      cases I.testBit 13
      · rw [if_neg (by simp), bi_zero]
      · rw [if_pos rfl, bi_one]; rfl
    · have e1 : (if 13 + i < 32 then bi (nI I) (13 + i) else bi (nI I) 31) = false := by
        split
        · exact hb _ (by omega) (by omega)
        · exact hb 31 (by omega) (by omega)
      rw [e1]
      cases I.testBit 13
      · rw [if_neg (by simp), bi_zero]
      · rw [if_pos rfl, bi_one]; simp [c]
  rw [e, bI_1]
theorem E_d424 {F P : Nat} {B : List T} {y : T} {K i : Nat} {D : xDt} {L : Nat → Bool} {r : Nat → Int32} {a : Nat} (hK : K ≤ 8192) (h3 : Lr D L K) (h4 : innR B y D K) (hi : i < 6) (h38 : D.1 241 38 = nI B.length) (hA : dAn r B.length a (cn L K) (cn (fun u => L u && evt (val B u) y) K)) : ∀ (e t n : Nat), t + e = K → e < n → f_X12_decide_424 F P xS0 n 241 (nI i) (nI K) (nI a) (nI (cn L t)) (nI (cn (fun u => L u && evt (val B u) y) t)) (nI t) D = some (r i, D)
  | _, _, 0, _, h => absurd h (by omega)
  | 0, t, n + 1, h1, _ => by
    have : t = K := by omega
    subst this
    have b1 := cn_le L t
    have b2 := cn_le (fun u => L u && evt (val B u) y) t
    obtain ⟨r2, r3, r4, r5, r0, r1⟩ := hA
    rw [e_X12_decide_424, if_pos (Int32.le_refl _)]
    have : i = 0 ∨ i = 1 ∨ i = 2 ∨ i = 3 ∨ i = 4 ∨ i = 5 := by omega
    rcases this with rfl | rfl | rfl | rfl | rfl | rfl
    · rw [if_pos (show nI 0 = 0 from rfl), r0]
      by_cases c : cn (fun u => L u && evt (val B u) y) t = 0
      · rw [if_pos c, c, if_pos (show nI 0 ≤ 0 by decide)]
      · rw [if_neg c, if_neg (fun q => by have := (nI_leI (b := 0) (by omega) (by omega)).mp q; omega)]
    · rw [if_neg (show ¬ nI 1 = 0 by decide), if_pos (show nI 1 = 1 from rfl), r1]
      by_cases c : cn (fun u => L u && evt (val B u) y) t = cn L t
      · rw [if_pos c, c, if_pos rfl]
      · rw [if_neg c, if_neg (fun q => c ((nI_eq (by omega) (by omega)).mp q))]
    · rw [if_neg (show ¬ nI 2 = 0 by decide), if_neg (show ¬ nI 2 = 1 by decide), if_pos (show nI 2 = 2 from rfl), r2, h38]
    · rw [if_neg (show ¬ nI 3 = 0 by decide), if_neg (show ¬ nI 3 = 1 by decide), if_neg (show ¬ nI 3 = 2 by decide), if_pos (show nI 3 = 3 from rfl), r3]
    · rw [if_neg (show ¬ nI 4 = 0 by decide), if_neg (show ¬ nI 4 = 1 by decide), if_neg (show ¬ nI 4 = 2 by decide), if_neg (show ¬ nI 4 = 3 by decide), if_pos (show nI 4 = 4 from rfl), r4]
    · rw [if_neg (show ¬ nI 5 = 0 by decide), if_neg (show ¬ nI 5 = 1 by decide), if_neg (show ¬ nI 5 = 2 by decide), if_neg (show ¬ nI 5 = 3 by decide), if_neg (show ¬ nI 5 = 4 by decide), r5]
  | e + 1, t, n + 1, h1, h2 => by
    have ht : t < K := by omega
    obtain ⟨I, i1, i2, i3, i4⟩ := h4 t ht
    have ih := E_d424 (F := F) (P := P) hK h3 h4 hi h38 hA e (t + 1) n (by omega) (by omega)
    have s13 := sh13 I i1
    rw [i4] at s13
    rw [e_X12_decide_424, if_neg (by rw [nI_leI (by omega) (by omega)]; omega), xgrd_in (by omega) (by omega), nI_clamp (by omega), h3 t ht]
    rw [cn, cn] at ih
    rcases hl : L t with _ | _
    · rw [if_pos (show bI false = 0 from rfl), e_X12_decide_448]
      simp only [xlet]
      rw [xgrd_in (by omega) (by omega), nI_clamp (by omega), h3 t ht, hl, if_pos (show bI false = 0 from rfl), e_X12_decide_481, e_X12_decide_482]
      simp only [xlet]
      rw [k0, nI_add, nI_add, nI_1]
      rw [hl] at ih
      exact ih
    · rw [if_neg (show ¬ bI true = 0 by decide), e_X12_decide_448]
      simp only [xlet]
      rw [xgrd_in (by omega) (by omega), nI_clamp (by omega), h3 t ht, hl, if_neg (show ¬ bI true = 0 by decide), xgrd_in (by omega) (by omega), i2]
      rw [hl] at ih
      rcases hv : evt (val B t) y with _ | _
      · rw [if_neg (fun q => by have := s13.mp q; rw [hv] at this; cases this), e_X12_decide_481, e_X12_decide_482]
        simp only [xlet]
        rw [k0, nI_add, nI_1, nI_1]
        rw [hv] at ih
        exact ih
      · rw [if_pos (s13.mpr hv), e_X12_decide_482]
        simp only [xlet]
        rw [nI_1, nI_1, nI_1]
        rw [hv] at ih
        exact ih
