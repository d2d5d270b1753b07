/-! what happens: the reference -/
theorem E_mh1 {F P : Nat} (hF : 10000 < F) (hP : 2005 < P) {D : xDt} {W : Wd} {E : Ev} (hW : wOK W) (hM : wM (D.1 241 1) (D.1 242) (D.1 243) W) (hE : iE D E) : ∃ D1, f_X12_happen F P xS0 241 D = (if nI (cn (pp W E) 512) = 0 then (f_X12_happen_126 F P xS0 (nI (cn (pp W E) 512)) D1) else (if nI (cn (pp W E) 512) ≤ 64 then ((f_X12_keep F P xS0 241 D1).bind fun q1 => f_X12_happen_145 F P xS0 F 241 (nI (cn (pp W E) 512)) 0 0 q1) else (f_X12_happen_126 F P xS0 (nI (cn (pp W E) 512)) D1))) ∧ ch [] [260, 261] D D1 ∧ (∀ e, e < E.1 → D1.2 260 e = nE W E e) ∧ ∀ e, e < E.1 → ∀ k, k < 8 → D1.2 261 (8 * e + k) = bh W E e k := by
  have hn := hW.1
  obtain ⟨g0, g1, g2, g3, g4, g5⟩ := hE
  have hM1 : ∀ D1 : xDt, ch [] [260, 261] D D1 → wM (D1.1 241 1) (D1.1 242) (D1.1 243) W := fun D1 h => by rw [h.1 241 (by simp), h.1 242 (by simp), h.1 243 (by simp)]; exact hM
  have hwh : ∀ (D1 : xDt) (t : T) (r : Nat) (x : Int32), ch [] [260, 261] D D1 → wfT t → sz t ≤ 150 → sm D r t x → f_X12_where F P xS0 P 241 x (aS W) D1 = some (ev W t (aS W), D1) := by
    rintro D1 t r x h hw hz ⟨i, rfl, _, hd⟩
    exact E_mwhere (by omega) hW (hM1 D1 h) t i P (aS W) hw (nd_congr (fun a _ _ j _ _ => by rw [h.1 a (by simp)]) hd) (by omega) (fun j => aS_lt)
  rw [e_X12_happen]
  refine lpu (W := fun n e (s : Int32 × xDt) => ∃ D1, f_X12_happen_4 F P xS0 n 241 s.1 (nI e) s.2 = (if nI (cn (pp W E) 512) = 0 then (f_X12_happen_126 F P xS0 (nI (cn (pp W E) 512)) D1) else (if nI (cn (pp W E) 512) ≤ 64 then ((f_X12_keep F P xS0 241 D1).bind fun q1 => f_X12_happen_145 F P xS0 F 241 (nI (cn (pp W E) 512)) 0 0 q1) else (f_X12_happen_126 F P xS0 (nI (cn (pp W E) 512)) D1))) ∧ ch [] [260, 261] D D1 ∧ (∀ e, e < E.1 → D1.2 260 e = nE W E e) ∧ ∀ e, e < E.1 → ∀ k, k < 8 → D1.2 261 (8 * e + k) = bh W E e k) (I := fun e s => s.1 = nI (su (fun e => cn (bt (nE W E e)) 64) e) ∧ ch [] [260, 261] D s.2 ∧ (∀ e', e' < e → s.2.2 260 e' = nE W E e') ∧ ∀ e', e' < e → ∀ k, k < 8 → s.2.2 261 (8 * e' + k) = bh W E e' k) E.1 ?_ ?_ E.1 0 (0, D) F (by omega) (by omega) ⟨rfl, ch_rfl _ _ _, fun e' h => absurd h (by omega), fun e' h => absurd h (by omega)⟩
  · rintro n ⟨v, D1⟩ ⟨rfl, i2, i3, i4⟩
    dsimp only at i2 i3 i4 ⊢
    refine ⟨D1, ?_, i2, i3, i4⟩
    rw [e_X12_happen_4, if_pos (by rw [i2.1 241 (by simp), g2]; exact Int32.le_refl _), ← cn_tot g0]
  · rintro n e ⟨v, D1⟩ he ⟨rfl, i2, i3, i4⟩ hk
    dsimp only at i2 i3 i4 ⊢
    obtain ⟨⟨s1, s2, s3⟩, s4⟩ := g3 e he
    have h257 : D1.1 257 e = D.1 257 e := by rw [i2.1 257 (by simp)]
    rw [e_X12_happen_4, if_neg (by rw [i2.1 241 (by simp), g2, nI_leI (by omega) (by omega)]; omega), xgrd_in (by omega) (by omega), E_mall (hM1 D1 i2).1 hn, Option.bind_some, nI_clamp (by omega), h257]
    dsimp only
    rw [show f_X12_where F P xS0 P 241 (D.1 257 e) (mkS fun j => decide (j < W.1)) D1 = some (nE W E e, D1) from hwh D1 _ _ _ i2 s1 s2 s4, Option.bind_some, xgrd_in (by omega) (by omega)]
    simp only [xlet]
    rw [xgrd_in (by omega) (by omega), xup_at, E_size (by omega), Option.bind_some, nI_add]
    refine lpu (W := fun n' k (D2 : xDt) => ∃ D1, f_X12_happen_46 F P xS0 (f_X12_happen_4 F P xS0 n) n' 241 (nI (su (fun e => cn (bt (nE W E e)) 64) e + cn (bt (nE W E e)) 64)) (nI e) (nI k) D2 = (if nI (cn (pp W E) 512) = 0 then (f_X12_happen_126 F P xS0 (nI (cn (pp W E) 512)) D1) else (if nI (cn (pp W E) 512) ≤ 64 then ((f_X12_keep F P xS0 241 D1).bind fun q1 => f_X12_happen_145 F P xS0 F 241 (nI (cn (pp W E) 512)) 0 0 q1) else (f_X12_happen_126 F P xS0 (nI (cn (pp W E) 512)) D1))) ∧ ch [] [260, 261] D D1 ∧ (∀ e, e < E.1 → D1.2 260 e = nE W E e) ∧ ∀ e, e < E.1 → ∀ k, k < 8 → D1.2 261 (8 * e + k) = bh W E e k) (I := fun k D2 => ch [] [260, 261] D D2 ∧ (∀ e', e' < e + 1 → D2.2 260 e' = nE W E e') ∧ (∀ e', e' < e → ∀ k, k < 8 → D2.2 261 (8 * e' + k) = bh W E e' k) ∧ ∀ k', k' < k → D2.2 261 (8 * e + k') = bh W E e k') 8 ?_ ?_ 8 0 _ F (by omega) (by omega) ?_
    · rintro n' D2 ⟨j1, j2, j3, j4⟩
      rw [e_X12_happen_46, if_pos (by decide)]
      simp only [xlet]
      rw [nI_1]
      refine hk (_, D2) ⟨rfl, j1, j2, fun e' he' k hk8 => ?_⟩
      by_cases q : e' = e
      · subst q; exact j4 k hk8
      · exact j3 e' (by omega) k hk8
    · rintro n' k D2 hk8 ⟨j1, j2, j3, j4⟩ hk2
      have h258 : D2.1 258 (8 * e + k) = D.1 258 (8 * e + k) := by rw [j1.1 258 (by simp)]
      rw [e_X12_happen_46, k8, if_neg (by rw [nI_leI (by omega) (by omega)]; omega), nI_mul, nI_add, xgrd_in (by omega) (by omega), nI_clamp (by omega), h258]
      have h103 : ∀ x : Int64, x = bh W E e k → ∃ D1, f_X12_happen_103 F P xS0 (f_X12_happen_4 F P xS0 n) (f_X12_happen_46 F P xS0 (f_X12_happen_4 F P xS0 n) n') 241 (nI (su (fun e => cn (bt (nE W E e)) 64) e + cn (bt (nE W E e)) 64)) (nI e) (nI k) x (nI (8 * e + k)) 261 D2 = (if nI (cn (pp W E) 512) = 0 then (f_X12_happen_126 F P xS0 (nI (cn (pp W E) 512)) D1) else (if nI (cn (pp W E) 512) ≤ 64 then ((f_X12_keep F P xS0 241 D1).bind fun q1 => f_X12_happen_145 F P xS0 F 241 (nI (cn (pp W E) 512)) 0 0 q1) else (f_X12_happen_126 F P xS0 (nI (cn (pp W E) 512)) D1))) ∧ ch [] [260, 261] D D1 ∧ (∀ e, e < E.1 → D1.2 260 e = nE W E e) ∧ ∀ e, e < E.1 → ∀ k, k < 8 → D1.2 261 (8 * e + k) = bh W E e k := by
        rintro x rfl
        rw [e_X12_happen_103, show xl xS0 261 = 64 by decide +kernel, xgrd_in (by omega) (by omega), nI_clamp (by omega)]
        simp only [xlet]
        rw [nI_1]
        refine hk2 _ ⟨ch_l (by simp) j1, fun e' he' => ?_, fun e' he' k' hk' => ?_, fun k' hk' => ?_⟩
        · dsimp only
          rw [xup_na _ _ _ _ _ (by omega)]; exact j2 e' he'
        · dsimp only
          rw [xup_nk _ _ _ _ _ (by omega)]; exact j3 e' he' k' hk'
        · dsimp only
          by_cases q : k' = k
          · subst q; rw [xup_at]
          · rw [xup_nk _ _ _ _ _ (by omega)]; exact j4 k' (by omega)
      rcases g4 e he k hk8 with ⟨t1, t2, t3⟩ | ⟨⟨t1, t2, t3⟩, t4⟩
      · rw [t3, if_neg (by decide), E_ofAtom (by omega) hW (hM1 D2 j1) hk8, Option.bind_some]
        exact h103 _ (by unfold bh; rw [t1, if_pos (by rfl)])
      · have t4' := t4
        obtain ⟨i, ti, ti2, ti3⟩ := t4'
        have hpos := sz_pos t1
        rw [if_pos (by rw [ti]; exact nI_pos' (by omega)), xgrd_in (by omega) (by omega), E_mall (hM1 D2 j1).1 hn, Option.bind_some]
        dsimp only
        rw [show f_X12_where F P xS0 P 241 (D.1 258 (8 * e + k)) (mkS fun j => decide (j < W.1)) D2 = some (ev W (E.2.2.1 e k) (aS W), D2) from hwh D2 _ _ _ j1 t1 t2 t4, Option.bind_some]
        exact h103 _ (by unfold bh; rw [if_neg (by omega)])
    · refine ⟨ch_l (by simp) i2, fun e' he' => ?_, fun e' he' k hk => ?_, fun k' h => absurd h (by omega)⟩
      · dsimp only
        by_cases q : e' = e
        · subst q; rw [xup_at]
        · rw [xup_nk _ _ _ _ _ q]; exact i3 e' (by omega)
      · dsimp only
        rw [xup_na _ _ _ _ _ (by omega)]; exact i4 e' he' k hk
noncomputable def lb (W : Wd) (E : Ev) (g u : Nat) : Nat := W.2.2 g (pr W E u / 8) * 8 + E.2.2.2 g (pr W E u % 8)
noncomputable def pa (W : Wd) (E : Ev) (u : Nat) : Nat := bm (fun k => bt (bh W E (pr W E u % 8) k) (pr W E u / 8)) 8
theorem bm_or (q : Nat → Bool) (k : Nat) (hk : k < 8) : nI (bm q k) ||| (if q k then jishl 1 (nI k) else 0) = nI (bm q (k + 1)) := by
  have h := bm_lt q k
  cases hq : q k
  · rw [if_neg (by simp), k0, nI_or, Nat.or_zero, bm, hq]; simp
  · rw [if_pos rfl, sh1_8 k hk, nI_or, bm, hq, if_pos rfl]
    congr 1
    have := Nat.two_pow_add_eq_or_of_lt h 1
    rw [Nat.mul_one] at this
    rw [Nat.or_comm, ← this, Nat.add_comm]
theorem E_mh2 {F P : Nat} (hF : 10000 < F) {D : xDt} {W : Wd} {E : Ev} (hW : wOK W) (hM : wM (D.1 241 1) (D.1 242) (D.1 243) W) (g0 : E.1 ≤ 8) (g2 : D.1 241 25 = nI E.1) (g5 : ∀ g, g < 4 → ∀ e, e < E.1 → E.2.2.2 g e ≤ e ∧ D.1 259 (8 * g + e) = nI (E.2.2.2 g e)) (h64 : cn (pp W E) 512 ≤ 64) (hd1 : ∀ e, e < E.1 → D.2 260 e = nE W E e) (hd2 : ∀ e, e < E.1 → ∀ k, k < 8 → D.2 261 (8 * e + k) = bh W E e k) : oK (f_X12_happen_145 F P xS0 F 241 (nI (cn (pp W E) 512)) 0 0 D) (fun r => r.1 = nI (cn (pp W E) 512) ∧ ch [241, 242, 243, 256, 262, 263, 264] [] D r.2 ∧ (∀ j, j ≠ 1 → r.2.1 241 j = D.1 241 j) ∧ r.2.1 241 1 = nI (cn (pp W E) 512) ∧ (∀ i, i < cn (pp W E) 512 → r.2.1 242 i = nI (pa W E i)) ∧ ∀ g, g < 4 → ∀ i, i < cn (pp W E) 512 → r.2.1 243 (64 * g + i) = nI (lst (fun u => decide (lb W E g u = lb W E g i)) (cn (pp W E) 512))) := by
  have hn := hW.1
  have hall := cn_all hn (E := E)
  -- the pairs
  refine lpu (W := fun n w (s : Int32 × xDt) => oK (f_X12_happen_145 F P xS0 n 241 (nI (cn (pp W E) 512)) s.1 (nI w) s.2) _) (I := fun w s => s.1 = nI (cn (pp W E) (8 * w)) ∧ ch [262, 263, 264] [] D s.2 ∧ ∀ i, i < cn (pp W E) (8 * w) → s.2.1 262 i = nI (pr W E i / 8) ∧ s.2.1 263 i = nI (pr W E i % 8) ∧ s.2.1 264 i = nI (pa W E i)) W.1 ?_ ?_ W.1 0 (0, D) F (by omega) (by omega) ⟨rfl, ch_rfl _ _ _, fun i hi => absurd hi (by simp [cn])⟩
  rotate_left
  · rintro n w ⟨v, D1⟩ hw ⟨rfl, i2, i3⟩ hk
    dsimp only at i2 i3 ⊢
    rw [e_X12_happen_145, if_neg (by rw [i2.1 241 (by decide), hM.1, nI_leI (by omega) (by omega)]; omega)]
    refine lpu (W := fun n' e (s : Int32 × xDt) => oK (f_X12_happen_156 F P xS0 (f_X12_happen_145 F P xS0 n) n' 241 (nI (cn (pp W E) 512)) s.1 (nI w) (nI e) s.2) _) (I := fun e s => s.1 = nI (cn (pp W E) (8 * w + e)) ∧ ch [262, 263, 264] [] D s.2 ∧ ∀ i, i < cn (pp W E) (8 * w + e) → s.2.1 262 i = nI (pr W E i / 8) ∧ s.2.1 263 i = nI (pr W E i % 8) ∧ s.2.1 264 i = nI (pa W E i)) E.1 ?_ ?_ E.1 0 (nI (cn (pp W E) (8 * w)), D1) F (by omega) (by omega) ⟨rfl, i2, i3⟩
    · rintro n' ⟨v, D2⟩ ⟨rfl, l2, l3⟩
      dsimp only at l2 l3 ⊢
      rw [e_X12_happen_156, if_pos (by rw [l2.1 241 (by decide), g2]; exact Int32.le_refl _)]
      simp only [xlet]
      rw [nI_1, ← cn_row8 g0 w]
      rw [← cn_row8 g0 w] at l3
      exact hk (_, D2) ⟨rfl, l2, l3⟩
    · rintro n' e ⟨v, D2⟩ he ⟨rfl, l2, l3⟩ hk2
      dsimp only at l2 l3 ⊢
      have hpe := pp_e (W := W) (E := E) (w := w) (show e < 8 by omega)
      rw [e_X12_happen_156, if_neg (by rw [l2.1 241 (by decide), g2, nI_leI (by omega) (by omega)]; omega), xgrd_in (by omega) (by omega), nI_clamp (by omega), l2.2 260 (by simp), hd1 e he]
      by_cases hb : bt (nE W E e) w = true
      · have hpt : pp W E (8 * w + e) = true := by rw [hpe, hb]; simp [he]
        have hlt : cn (pp W E) (8 * w + e) < cn (pp W E) 512 := cn_lt2 hpt (by omega)
        have hcs : cn (pp W E) (8 * w + (e + 1)) = cn (pp W E) (8 * w + e) + 1 := by
          rw [show 8 * w + (e + 1) = 8 * w + e + 1 by omega, cn, hpt]; rfl
        have hget : pr W E (cn (pp W E) (8 * w + e)) = 8 * w + e := sel_get hpt (by omega)
        generalize hc : cn (pp W E) (8 * w + e) = c at *
        rw [if_pos (by rw [test1' _ (by omega), hb]), xgrd_in (by omega) (by omega)]
        simp only [xlet]
        rw [xgrd_in (by omega) (by omega), xgrd_in (by omega) (by omega), nI_clamp (by omega)]
        refine lpu (W := fun n'' k (D3 : xDt) => oK (f_X12_happen_206 F P xS0 (f_X12_happen_145 F P xS0 n) (f_X12_happen_156 F P xS0 (f_X12_happen_145 F P xS0 n) n') n'' 241 (nI (cn (pp W E) 512)) (nI c) (nI w) (nI e) (nI k) D3) _) (I := fun k D3 => ch [262, 263, 264] [] D D3 ∧ (∀ i, i < c → D3.1 262 i = nI (pr W E i / 8) ∧ D3.1 263 i = nI (pr W E i % 8) ∧ D3.1 264 i = nI (pa W E i)) ∧ D3.1 262 c = nI w ∧ D3.1 263 c = nI e ∧ D3.1 264 c = nI (bm (fun k => bt (bh W E e k) w) k)) 8 ?_ ?_ 8 0 _ F (by omega) (by omega) ?_
        · rintro n'' D3 ⟨q1, q2, q3, q4, q5⟩
          rw [e_X12_happen_206, if_pos (by decide)]
          simp only [e_X12_happen_261, xlet]
          rw [nI_1, nI_1]
          refine hk2 (nI (c + 1), D3) ⟨by dsimp only; rw [hcs], q1, fun i hi => ?_⟩
          by_cases q : i = c
          · subst q
            dsimp only
            rw [q3, q4, q5, hget]
            refine ⟨by rw [show (8 * w + e) / 8 = w by omega], by rw [show (8 * w + e) % 8 = e by omega], ?_⟩
            unfold pa
            rw [hget, show (8 * w + e) / 8 = w by omega, show (8 * w + e) % 8 = e by omega]
          · exact q2 i (by omega)
        · rintro n'' k D3 hk8 ⟨q1, q2, q3, q4, q5⟩ hk3
          rw [e_X12_happen_206, k8, if_neg (by rw [nI_leI (by omega) (by omega)]; omega), nI_mul, nI_add, xgrd_in (by omega) (by omega), xgrd_in (by omega) (by omega), nI_clamp (by omega), nI_clamp (by omega), q1.2 261 (by simp), hd2 e he k hk8, q5]
          have h250 : ∀ x : Int32, x = (if bt (bh W E e k) w then jishl 1 (nI k) else 0) → oK (f_X12_happen_250 F P xS0 (f_X12_happen_145 F P xS0 n) (f_X12_happen_156 F P xS0 (f_X12_happen_145 F P xS0 n) n') (f_X12_happen_206 F P xS0 (f_X12_happen_145 F P xS0 n) (f_X12_happen_156 F P xS0 (f_X12_happen_145 F P xS0 n) n') n'') 241 (nI (cn (pp W E) 512)) (nI c) (nI w) (nI e) (nI k) x (nI (bm (fun k => bt (bh W E e k) w) k)) (nI c) 264 D3) (fun r => r.1 = nI (cn (pp W E) 512) ∧ ch [241, 242, 243, 256, 262, 263, 264] [] D r.2 ∧ (∀ j, j ≠ 1 → r.2.1 241 j = D.1 241 j) ∧ r.2.1 241 1 = nI (cn (pp W E) 512) ∧ (∀ i, i < cn (pp W E) 512 → r.2.1 242 i = nI (pa W E i)) ∧ ∀ g, g < 4 → ∀ i, i < cn (pp W E) 512 → r.2.1 243 (64 * g + i) = nI (lst (fun u => decide (lb W E g u = lb W E g i)) (cn (pp W E) 512))) := by
            rintro x rfl
            rw [e_X12_happen_250, show xl xS0 264 = 64 by decide +kernel, xgrd_in (by omega) (by omega), nI_clamp (by omega), bm_or (fun k => bt (bh W E e k) w) k hk8]
            simp only [xlet]
            rw [nI_1]
            refine hk3 _ ⟨ch_i (by simp) q1, fun i hi => ?_, ?_, ?_, ?_⟩
            · dsimp only
              rw [xup_na _ _ _ _ _ (by omega), xup_na _ _ _ _ _ (by omega), xup_nk _ _ _ _ _ (by omega)]
              exact q2 i hi
            · dsimp only
              rw [xup_na _ _ _ _ _ (by omega)]; exact q3
            · dsimp only
              rw [xup_na _ _ _ _ _ (by omega)]; exact q4
            · dsimp only
              rw [xup_at]
          by_cases hbk : bt (bh W E e k) w = true
          · rw [if_pos (by rw [test1' _ (by omega), hbk])]
            exact h250 _ (by rw [if_pos hbk])
          · rw [if_neg (by rw [test1' _ (by omega)]; exact hbk)]
            exact h250 _ (by rw [if_neg hbk])
        · refine ⟨ch_i (D' := (xup (xup D2.1 262 c (nI w)) 263 c (nI e), D2.2)) (by simp) (ch_i (D' := (xup D2.1 262 c (nI w), D2.2)) (by simp) (ch_i (by simp) l2)), fun i hi => ?_, ?_, ?_, ?_⟩
          · dsimp only
            rw [xup_na _ _ _ _ _ (show 262 ≠ 264 by omega), xup_na _ _ _ _ _ (show 262 ≠ 263 by omega), xup_nk _ _ _ _ _ (show i ≠ c by omega), xup_na _ _ _ _ _ (show 263 ≠ 264 by omega), xup_nk _ _ _ _ _ (show i ≠ c by omega), xup_na _ _ _ _ _ (show 263 ≠ 262 by omega), xup_nk _ _ _ _ _ (show i ≠ c by omega), xup_na _ _ _ _ _ (show 264 ≠ 263 by omega), xup_na _ _ _ _ _ (show 264 ≠ 262 by omega)]
            exact l3 i hi
          · dsimp only
            rw [xup_na _ _ _ _ _ (by omega), xup_na _ _ _ _ _ (by omega), xup_at]
          · dsimp only
            rw [xup_na _ _ _ _ _ (by omega), xup_at]
          · dsimp only
            rw [xup_at]; rfl
      · have hpf : pp W E (8 * w + e) = false := by rw [hpe]; simp [hb]
        have hcs : cn (pp W E) (8 * w + (e + 1)) = cn (pp W E) (8 * w + e) := by
          rw [show 8 * w + (e + 1) = 8 * w + e + 1 by omega, cn, hpf]; rfl
        rw [if_neg (by rw [test1' _ (by omega)]; exact hb), e_X12_happen_261]
        simp only [xlet]
        rw [nI_1]
        refine hk2 (nI (cn (pp W E) (8 * w + e)), D2) ⟨by dsimp only; rw [hcs], l2, fun i hi => l3 i (by omega)⟩
  · rintro n ⟨v, D1⟩ ⟨rfl, i2, i3⟩
    dsimp only at i2 i3 ⊢
    rw [← hall] at i3
    rw [e_X12_happen_145, if_pos (by rw [i2.1 241 (by decide), hM.1]; exact Int32.le_refl _)]
    generalize hN : cn (pp W E) 512 = N at *
    -- cells
    refine lpu (W := fun n g (D2 : xDt) => oK (f_X12_happen_275 F P xS0 n 241 (nI N) (nI g) D2) _) (I := fun g D2 => ch [256] [] D1 D2 ∧ ∀ g', g' < g → ∀ i, i < N → D2.1 256 (64 * g' + i) = nI (lst (fun u => decide (lb W E g' u = lb W E g' i)) N)) 4 ?_ ?_ 4 0 _ F (by omega) (by omega) ⟨ch_rfl _ _ _, fun g' h => absurd h (by omega)⟩
    · rintro n D2 ⟨j1, j2⟩
      rw [e_X12_happen_275, if_pos (by decide)]
      simp only [xlet]
      refine lpu (W := fun n c (D3 : xDt) => oK (f_X12_happen_436 F P xS0 n 241 (nI N) (nI c) D3) _) (I := fun c D3 => D3 = (upP (xup D2.1 241 1 (nI N)) 243 0 c tt (D2.1 256), D2.2)) 256 ?_ ?_ 256 0 _ F (by omega) (by omega) (by rw [upP_0])
      · rintro n D3 rfl
        rw [e_X12_happen_436, if_pos (by decide)]
        refine lpu (W := fun n c (D4 : xDt) => oK (f_X12_happen_463 F P xS0 n 241 (nI N) (nI c) D4) _) (I := fun c D4 => D4 = (upP (upP (xup D2.1 241 1 (nI N)) 243 0 256 tt (D2.1 256)) 242 0 c tt (D2.1 264), D2.2)) N ?_ ?_ N 0 _ F (by omega) (by omega) (by rw [upP_0])
        · rintro n D4 rfl
          rw [e_X12_happen_463, if_pos (Int32.le_refl _)]
          refine oK_some ⟨rfl, ?_, fun j hj => ?_, ?_, fun i hi => ?_, fun g hg i hi => ?_⟩
          · exact ch_ip (D' := (upP (xup D2.1 241 1 (nI N)) 243 0 256 tt (D2.1 256), D2.2)) (by simp) (ch_ip (D' := (xup D2.1 241 1 (nI N), D2.2)) (by simp) (ch_i (by simp) (ch_trans (ch_mono i2 (by intro x hx; simp at hx ⊢; omega) (fun _ h => h)) (ch_mono j1 (by intro x hx; simp at hx ⊢; omega) (fun _ h => h)))))
          · dsimp only
            rw [upP_na (by omega), upP_na (by omega), xup_nk _ _ _ _ _ hj, j1.1 241 (by decide), i2.1 241 (by decide)]
          · dsimp only
            rw [upP_na (by omega), upP_na (by omega), xup_at]
          · dsimp only
            rw [upP_in0 hi rfl, j1.1 264 (by decide)]; exact (i3 i hi).2.2
          · dsimp only
            rw [upP_na (by omega), upP_in0 (by omega) rfl]; exact j2 g hg i hi
        · rintro n c D4 hc rfl hk
          rw [e_X12_happen_463, if_neg (by rw [nI_leI (by omega) (by omega)]; omega), xgrd_in (by omega) (by omega), xgrd_in (by omega) (by omega), nI_clamp (by omega)]
          simp only [xlet, nI_1]
          refine hk _ ?_
          rw [upP_na (by omega), upP_na (by omega), xup_na _ _ _ _ _ (by omega), upP_t0 rfl rfl]
      · rintro n c D3 hc rfl hk
        rw [e_X12_happen_436, k256, if_neg (by rw [nI_leI (by omega) (by omega)]; omega), xgrd_in (by omega) (by omega), xgrd_in (by omega) (by omega), nI_clamp (by omega)]
        simp only [xlet, nI_1]
        refine hk _ ?_
        rw [upP_na (by omega), xup_na _ _ _ _ _ (by omega), upP_t0 rfl rfl]
    · rintro n g D2 hg ⟨j1, j2⟩ hk
      rw [e_X12_happen_275, k4, if_neg (by rw [nI_leI (by omega) (by omega)]; omega)]
      refine lpu (W := fun n' i (D3 : xDt) => oK (f_X12_happen_283 F P xS0 (f_X12_happen_275 F P xS0 n) n' 241 (nI N) (nI g) (nI i) D3) _) (I := fun i D3 => ch [256] [] D1 D3 ∧ (∀ g', g' < g → ∀ i, i < N → D3.1 256 (64 * g' + i) = nI (lst (fun u => decide (lb W E g' u = lb W E g' i)) N)) ∧ ∀ i', i' < i → D3.1 256 (64 * g + i') = nI (lst (fun u => decide (lb W E g u = lb W E g i')) N)) N ?_ ?_ N 0 _ F (by omega) (by omega) ⟨j1, j2, fun i' h => absurd h (by omega)⟩
      · rintro n' D3 ⟨l1, l2, l3⟩
        rw [e_X12_happen_283, if_pos (Int32.le_refl _)]
        simp only [xlet]
        rw [nI_1]
        refine hk D3 ⟨l1, fun g' hg' i hi => ?_⟩
        by_cases q : g' = g
        · subst q; exact l3 i hi
        · exact l2 g' (by omega) i hi
      · rintro n' i D3 hi ⟨l1, l2, l3⟩ hk2
        rw [e_X12_happen_283, if_neg (by rw [nI_leI (by omega) (by omega)]; omega)]
        have c6 : ∀ j, j < N → D3.1 262 j = nI (pr W E j / 8) ∧ D3.1 263 j = nI (pr W E j % 8) ∧ pr W E j / 8 < W.1 ∧ pr W E j % 8 < E.1 := by
          intro j hj
          have hp := pr_p (W := W) (E := E) (i := j) (by rw [hN]; exact hj)
          rw [l1.1 262 (by decide), l1.1 263 (by decide)]
          exact ⟨(i3 j hj).1, (i3 j hj).2.1, nE_lt hn hp.2.2.1, hp.2.1⟩
        have c243 : ∀ w, w < W.1 → D3.1 243 (64 * g + w) = nI (W.2.2 g w) := fun w hw => by rw [l1.1 243 (by decide), i2.1 243 (by decide)]; exact hM.2.2 g hg w hw
        have c259 : ∀ e, e < E.1 → D3.1 259 (8 * g + e) = nI (E.2.2.2 g e) := fun e he => by rw [l1.1 259 (by decide), i2.1 259 (by decide)]; exact (g5 g hg e he).2
        have hlabel : ∀ j, j < N → (lb W E g j = lb W E g i ↔ W.2.2 g (pr W E i / 8) = W.2.2 g (pr W E j / 8) ∧ E.2.2.2 g (pr W E i % 8) = E.2.2.2 g (pr W E j % 8)) := by
          intro j hj
          have b1 := (g5 g hg _ (c6 j hj).2.2.2).1
          have b2 := (g5 g hg _ (c6 i hi).2.2.2).1
          have b3 := (c6 j hj).2.2.2
          have b4 := (c6 i hi).2.2.2
          unfold lb
          omega
        -- from i down
        have hst : oK (f_X12_happen_297 F P xS0 (f_X12_happen_275 F P xS0 n) (f_X12_happen_283 F P xS0 (f_X12_happen_275 F P xS0 n) n') F 241 (nI N) (nI g) (nI i) (nI i) (nI (i + 1 - 0) - 1) D3) (fun r => r.1 = nI N ∧ ch [241, 242, 243, 256, 262, 263, 264] [] D r.2 ∧ (∀ j, j ≠ 1 → r.2.1 241 j = D.1 241 j) ∧ r.2.1 241 1 = nI N ∧ (∀ i, i < N → r.2.1 242 i = nI (pa W E i)) ∧ ∀ g, g < 4 → ∀ i, i < N → r.2.1 243 (64 * g + i) = nI (lst (fun u => decide (lb W E g u = lb W E g i)) N)) := by
          refine lpu (W := fun n'' d (s : Int32) => oK (f_X12_happen_297 F P xS0 (f_X12_happen_275 F P xS0 n) (f_X12_happen_283 F P xS0 (f_X12_happen_275 F P xS0 n) n') n'' 241 (nI N) (nI g) (nI i) s (nI (i + 1 - d) - 1) D3) _) (I := fun d s => ∃ f, s = nI f ∧ f ≤ i ∧ lb W E g f = lb W E g i ∧ (∀ j, i + 1 - d ≤ j → j < f → ¬ lb W E g j = lb W E g i)) (i + 1) ?_ ?_ (i + 1) 0 (nI i) F (by omega) (by omega) ⟨i, rfl, Nat.le_refl _, rfl, fun j h1 h2 => by omega⟩
          · rintro n'' s ⟨f, rfl, f1, f2, f3⟩
            rw [Nat.sub_self, e_X12_happen_297, if_pos (by decide), k64, nI_mul, nI_add, xgrd_in (by omega) (by omega), nI_clamp (by omega)]
            simp only [xlet]
            rw [nI_1]
            refine hk2 _ ⟨ch_i (by simp) l1, fun g' hg' i' hi' => ?_, fun i' hi' => ?_⟩
            · dsimp only
              rw [xup_nk _ _ _ _ _ (by omega)]; exact l2 g' hg' i' hi'
            · dsimp only
              by_cases q : i' = i
              · subst q
                rw [xup_at]
                congr 1
                symm
                refine lst_eq (by omega) (by simp [f2]) (fun j hj => ?_)
                have := f3 j (by omega) hj
                simpa using this
              · rw [xup_nk _ _ _ _ _ (by omega)]; exact l3 i' (by omega)
          · rintro n'' d s hd ⟨f, rfl, f1, f2, f3⟩ hk3
            have hj : i - d < N := by omega
            have hv6 : nI (i + 1 - d) - 1 = nI (i - d) := by rw [nI_s1 (by omega)]; congr 1; omega
            have hnext : nI (i - d) + (-1) = nI (i + 1 - (d + 1)) - 1 := by rw [neg1]; congr 2; omega
            rw [hv6, e_X12_happen_297, if_neg (nI_pos (by omega)), xgrd_in (by omega) (by omega), nI_clamp (by omega), (c6 i hi).1, k64, nI_mul, nI_add]
            have w1 := (c6 i hi).2.2.1
            have w2 := (c6 _ hj).2.2.1
            have v1 := (c6 i hi).2.2.2
            have v2 := (c6 _ hj).2.2.2
            rw [xgrd_in (by omega) (by omega), xgrd_in (by omega) (by omega), nI_clamp (by omega), nI_clamp (by omega), (c6 _ hj).1, nI_add, xgrd_in (by omega) (by omega), nI_clamp (by omega), c243 _ w1, c243 _ w2]
            have r1 := (hW.2.2 g hg _ w1).1
            have r2 := (hW.2.2 g hg _ w2).1
            have go1 : lb W E g (i - d) = lb W E g i → oK (f_X12_happen_381 F P xS0 (f_X12_happen_275 F P xS0 n) (f_X12_happen_283 F P xS0 (f_X12_happen_275 F P xS0 n) n') (f_X12_happen_297 F P xS0 (f_X12_happen_275 F P xS0 n) (f_X12_happen_283 F P xS0 (f_X12_happen_275 F P xS0 n) n') n'') 241 (nI N) (nI g) (nI i) (nI f) (nI (i - d)) 1 D3) (fun r => r.1 = nI N ∧ ch [241, 242, 243, 256, 262, 263, 264] [] D r.2 ∧ (∀ j, j ≠ 1 → r.2.1 241 j = D.1 241 j) ∧ r.2.1 241 1 = nI N ∧ (∀ i, i < N → r.2.1 242 i = nI (pa W E i)) ∧ ∀ g, g < 4 → ∀ i, i < N → r.2.1 243 (64 * g + i) = nI (lst (fun u => decide (lb W E g u = lb W E g i)) N)) := by
              intro q
              rw [e_X12_happen_381, if_neg (by decide), e_X12_happen_395]
              simp only [xlet]
              rw [hnext]
              exact hk3 _ ⟨i - d, rfl, by omega, q, fun j h1 h2 => by omega⟩
            have go0 : ¬ lb W E g (i - d) = lb W E g i → oK (f_X12_happen_380 F P xS0 (f_X12_happen_275 F P xS0 n) (f_X12_happen_283 F P xS0 (f_X12_happen_275 F P xS0 n) n') (f_X12_happen_297 F P xS0 (f_X12_happen_275 F P xS0 n) (f_X12_happen_283 F P xS0 (f_X12_happen_275 F P xS0 n) n') n'') 241 (nI N) (nI g) (nI i) (nI f) (nI (i - d)) D3) (fun r => r.1 = nI N ∧ ch [241, 242, 243, 256, 262, 263, 264] [] D r.2 ∧ (∀ j, j ≠ 1 → r.2.1 241 j = D.1 241 j) ∧ r.2.1 241 1 = nI N ∧ (∀ i, i < N → r.2.1 242 i = nI (pa W E i)) ∧ ∀ g, g < 4 → ∀ i, i < N → r.2.1 243 (64 * g + i) = nI (lst (fun u => decide (lb W E g u = lb W E g i)) N)) := by
              intro q
              rw [e_X12_happen_380, e_X12_happen_381, if_pos rfl, e_X12_happen_395]
              simp only [xlet]
              rw [hnext]
              refine hk3 _ ⟨f, rfl, f1, f2, fun j h1 h2 => ?_⟩
              by_cases e : j = i - d
              · rw [e]; exact q
              · exact f3 j (by omega) h2
            by_cases q1 : W.2.2 g (pr W E i / 8) = W.2.2 g (pr W E (i - d) / 8)
            · rw [if_pos (by rw [q1]), xgrd_in (by omega) (by omega), (c6 i hi).2.1, k8, nI_mul, nI_add, xgrd_in (by omega) (by omega), xgrd_in (by omega) (by omega), nI_clamp (by omega), (c6 _ hj).2.1, nI_add, xgrd_in (by omega) (by omega), nI_clamp (by omega), c259 _ v1, c259 _ v2]
              have b1 := (g5 g hg _ v1).1
              have b2 := (g5 g hg _ v2).1
              by_cases q2 : E.2.2.2 g (pr W E i % 8) = E.2.2.2 g (pr W E (i - d) % 8)
              · rw [if_pos (by rw [q2])]
                exact go1 ((hlabel _ hj).mpr ⟨q1, q2⟩)
              · rw [if_neg (by rw [nI_eq (by omega) (by omega)]; exact q2)]
                exact go0 (fun c => q2 ((hlabel _ hj).mp c).2)
            · rw [if_neg (by rw [nI_eq (by omega) (by omega)]; exact q1)]
              exact go0 (fun c => q1 ((hlabel _ hj).mp c).1)
        rw [Nat.sub_zero, nI_s1 (by omega), Nat.add_sub_cancel] at hst
        exact hst
