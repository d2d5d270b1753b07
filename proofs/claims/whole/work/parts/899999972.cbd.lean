/-! decide: the class builds -/
theorem E_brun {F P : Nat} (hF : 100000 < F) {A : List T} : ∀ (t : T) (i k : Nat) (D : xDt) (N B : List T) (fu : Nat), wfT t → tha (pS 2) t = false → tkAt (D.1 203) i (tks t) → i + sz t ≤ 2000 → k + sz t ≤ 2000 → cst D N B → D.1 224 9 = 0 → N.length + cw t + 2 * (13 - B.length) ≤ 2390 → (∀ y, y ∈ N → y ∈ A) → (∀ y, y ∈ cts t → y ∈ A) → bO F P A D N B k i fu (cw t) (cts t) (tp t) (f_X8_build_32 F P xS0 (fu + 1 + sz t) 224 202 (nI k) (nI (i + sz t) - 1) D)
  | .leaf, _, _, _, _, _, _, h, _, _, _, _, _, _, _, _, _ => absurd h (by simp [wfT])
  | .inner s m () l r, i, k, D, N, B, fu, hw, hq, ht, hi, hk, hc, h9, hz, hNA, hA => by
    obtain ⟨w1, w2, w3, w4⟩ := id hw
    have hm := m16 w3
    rw [tha, Bool.or_eq_false_iff, Bool.or_eq_false_iff] at hq
    obtain ⟨⟨q0, q1⟩, q2⟩ := hq
    have hs : s ≠ 9 ∧ s ≤ 13 := by
      have : pS 2 s = (decide (s = 9) || decide (14 ≤ s)) := rfl
      rw [this, Bool.or_eq_false_iff, decide_eq_false_iff_not, decide_eq_false_iff_not] at q0
      omega
    rw [tks, tkAt_cons, tkAt_app] at ht
    obtain ⟨t1, t2, t3⟩ := ht
    rw [tks_len] at t3
    rw [sz] at hi hk
    rw [cw] at hz
    have step : ∀ (D1 : xDt) (k1 : Nat), D1.1 224 9 = 0 → D1.1 203 i = nI (tk s m) → _ := fun D1 k1 g1 g2 => E_bstep (F := F) (P := P) (fu := fu + 1) (k1 := k1) w1 w2 w3 (show i < 2000 by omega) g1 g2
    rcases w4 with ⟨w4, rfl, rfl⟩ | ⟨w4, w5, w6, rfl⟩ | ⟨w4, w5, w6⟩
    · have e : fu + 1 + sz (bn s m nil nil) = fu + 1 + 1 := rfl
      have e2 : i + sz (bn s m nil nil) = i + 1 := rfl
      have e3 : cts (bn s m nil nil) = [bn s m nil nil] := by rw [cts, if_neg (by omega), if_neg (by omega), if_neg (by omega)]; rfl
      have e4 : tp (bn s m nil nil) = bn s m nil nil := by rw [tp, if_neg (by omega), if_neg (by omega)]; rfl
      have e5 : cw (bn s m nil nil) = 1 := by rw [cw]; unfold cw1; rw [if_neg (by omega), if_neg (by omega)]; rfl
      have hz1 : cw1 s = 1 := by unfold cw1; rw [if_neg (by omega), if_neg (by omega)]
      rw [e3] at hA ⊢
      rw [e, e2, e4, e5]
      refine bO_of (by omega) (E_make (F := F) (P := P) hF (A := A) (s := s) (m := m) (l := nil) (r := nil) (v2 := 0) (v3 := 0) hc h9 (by omega) ⟨w1, by omega, w3, Or.inl ⟨w4, rfl, rfl⟩⟩ (Or.inl ⟨rfl, rfl⟩) (Or.inl ⟨rfl, rfl⟩) (hA _ (by simp)) hNA) (fun v D' N' B' h => ?_) ?_
      · obtain ⟨j, rfl, j2, j3, j4, j5, j6, j7, j8⟩ := h
        exact ⟨j, rfl, j2, j3, fun z => by rw [j4]; simp, j6, by omega⟩
      · rw [step D k h9 t1, if_pos w4, if_neg (by decide), if_neg (show ¬ (Int32.ofNat 2000) ≤ nI k from fun q => by have := (nI_leI (a := 2000) (by omega) (by omega)).mp q; omega), nI_clamp (by omega), nI_1]
    · have e : fu + 1 + sz (bn s m l nil) = fu + 1 + 1 + sz l := by rw [sz]; show fu + 1 + (1 + sz l + 0) = _; omega
      have e2 : i + sz (bn s m l nil) = i + 1 + sz l := by rw [sz]; show i + (1 + sz l + 0) = _; omega
      have e3 : cts (bn s m l nil) = cts l ++ cown s m (tp l) := by
        rw [cts, cown]
        by_cases c6 : s = 6
        · rw [if_pos c6, if_pos c6]
        rw [if_neg c6, if_neg c6]
        by_cases c7 : s = 7
        · rw [if_pos c7, if_pos c7]
        rw [if_neg c7, if_neg c7]
        by_cases c8 : s = 8
        · rw [if_pos c8, if_pos c8]; rfl
        · rw [if_neg c8, if_neg c8]; simp [cts, tp]
      have e4 : tp (bn s m l nil) = ctop s m (tp l) := by rw [tp, ctop]; rfl
      have e5 : cw (bn s m l nil) = cw1 s + cw l := by rw [cw]; rfl
      rw [e3] at hA ⊢
      rw [e, e2, e4, e5]
      have hz2 : N.length + cw l + cw1 s + 2 * (13 - B.length) ≤ 2390 := by
        have : cw nil = 0 := rfl
        omega
      rcases E_brun (F := F) (P := P) hF (A := A) l (i + 1) k D N B (fu + 1) w6 q1 t2 (by omega) (by omega) hc h9 (by omega) hNA (fun y hy => hA y (by simp [hy])) with ⟨D1, N1, B1, j, c1, c2, c3, c4, c5, c6, c7, c8, c9, c10, c11⟩ | ⟨g, v, D1, c1, c2, c3⟩
      rotate_left
      · exact Or.inr ⟨g, v, D1, c1, c2, c3⟩
      rw [c1]
      have hB13 := c2.1.2.2.2.2.2.1
      have hw1 : cw1 s ≤ 7 ∧ 1 ≤ cw1 s := cw1_le s
      have r := E_sgl (F := F) (P := P) hF (A := A) (s := s) (m := m) (p := j) (x := tp l) ⟨w4, by omega⟩ w3 c2 c3 (by omega) c7 (fun y hy => by
        rcases (c9 y).mp hy with q | q
        · exact hNA y q
        · exact hA y (by simp [q])) (fun y hy => hA y (by simp [hy]))
      have fin := bO_of (F := F) (P := P) (A := A) (D := D1) (N := N1) (B := B1) (k := k) (i := i) (fu := fu) (w := cw1 s) (L := cown s m (tp l)) (y := ctop s m (tp l)) (by omega) r (fun v D' N' B' h => h) (o2 := f_X8_build_32 F P xS0 (fu + 1 + 1) 224 202 (nI (k + 1)) (nI (i + 1) - 1) D1) (by
        rw [step D1 (k + 1) c3 (by rw [c4.1 203 (by decide)]; exact t1), if_neg (show ¬ s ≤ 3 by omega), if_pos rfl, e_X8_build_95, E_isJoin (by omega) (by omega) w3, Option.bind_some, if_neg (show ¬ (10 ≤ s ∧ s ≤ 13) by omega), if_pos (show (0 : Int32) = 0 from rfl), e_X8_build_142]
        dsimp only
        rw [if_neg (show ¬ nI (k + 1) < 1 from fun q => by have := (nI_ltI (b := 1) (by omega) (by omega)).mp q; omega), show nI (k + 1) - 1 = nI k by rw [nI_s1 (by omega)]; rfl, xgrd_in (by omega) (by omega), nI_clamp (by omega), c6]
        refine ob_congr (fun q8 => ?_)
        rw [xlet_q, e_X8_build_169, xlet_q, neg1])
      rcases fin with ⟨D2, N2, B2, j2, d1, d2, d3, d4, d5, d6, d7, d8, d9, d10, d11⟩ | ⟨g, v, D2, d1, d2, d3⟩
      · refine Or.inl ⟨D2, N2, B2, j2, d1, d2, d3, ch_trans c4 d4, fun q hq => by rw [d5 q hq, c5 q hq], d6, d7, ext_trans c8 d8, fun z => by rw [d9, c9, List.mem_append, or_assoc], by omega, by omega⟩
      · exact Or.inr ⟨g, v, D2, d1, d2, ch_trans c4 d3⟩
    · have e : fu + 1 + sz (bn s m l r) = fu + 1 + 1 + sz l + sz r := by rw [sz]; omega
      have e2 : i + sz (bn s m l r) = i + 1 + sz l + sz r := by rw [sz]; omega
      have e3 : cts (bn s m l r) = cts l ++ cts r ++ [bn s m (tp l) (tp r)] := by rw [cts, if_neg (by omega), if_neg (by omega), if_neg (by omega)]
      have e4 : tp (bn s m l r) = bn s m (tp l) (tp r) := by rw [tp, if_neg (by omega), if_neg (by omega)]
      have hz1 : cw1 s = 1 := by unfold cw1; rw [if_neg (by omega), if_neg (by omega)]
      have e5 : cw (bn s m l r) = 1 + cw l + cw r := by rw [cw, hz1]
      have p1 := sz_pos w5
      have p2 := sz_pos w6
      rw [e3] at hA ⊢
      rw [e, e2, e4, e5]
      rcases E_brun (F := F) (P := P) hF (A := A) r (i + 1 + sz l) k D N B (fu + 1 + sz l) w6 q2 t3 (by omega) (by omega) hc h9 (by omega) hNA (fun y hy => hA y (by simp [hy])) with ⟨D1, N1, B1, j, c1, c2, c3, c4, c5, c6, c7, c8, c9, c10, c11⟩ | ⟨g, v, D1, c1, c2, c3⟩
      rotate_left
      · refine Or.inr ⟨g, v, D1, ?_, c2, c3⟩
        rw [show fu + 1 + 1 + sz l + sz r = fu + 1 + sz l + 1 + sz r by omega]
        exact c1
      have hB13 := c2.1.2.2.2.2.2.1
      have hNA1 : ∀ y, y ∈ N1 → y ∈ A := fun y hy => by
        rcases (c9 y).mp hy with q | q
        · exact hNA y q
        · exact hA y (by simp [q])
      rcases E_brun (F := F) (P := P) hF (A := A) l (i + 1) (k + 1) D1 N1 B1 (fu + 1) w5 q1 (by rw [c4.1 203 (by decide)]; exact t2) (by omega) (by omega) c2 c3 (by omega) hNA1 (fun y hy => hA y (by simp [hy])) with ⟨D2, N2, B2, j2, d1, d2, d3, d4, d5, d6, d7, d8, d9, d10, d11⟩ | ⟨g, v, D2, d1, d2, d3⟩
      rotate_left
      · refine Or.inr ⟨g, v, D2, ?_, d2, ch_trans c4 d3⟩
        rw [show fu + 1 + 1 + sz l + sz r = fu + 1 + sz l + 1 + sz r by omega, c1, show fu + 1 + sz l + 1 = fu + 1 + 1 + sz l by omega]
        exact d1
      have hB13' := d2.1.2.2.2.2.2.1
      have e6 : f_X8_build_32 F P xS0 (fu + 1 + 1 + sz l + sz r) 224 202 (nI k) (nI (i + 1 + sz l + sz r) - 1) D = f_X8_build_32 F P xS0 (fu + 1 + 1) 224 202 (nI (k + 1 + 1)) (nI (i + 1) - 1) D2 := by
        rw [show fu + 1 + 1 + sz l + sz r = fu + 1 + sz l + 1 + sz r by omega, c1, show fu + 1 + sz l + 1 = fu + 1 + 1 + sz l by omega]
        exact d1
      rw [e6]
      have k12 := ch_trans c4 d4
      have rr := E_make (F := F) (P := P) hF (A := A) (s := s) (m := m) (l := tp l) (r := tp r) d2 d3 (by omega) ⟨w1, by omega, w3, Or.inr (Or.inr ⟨w4, tp_nn w5, tp_nn w6⟩)⟩ (ckc_at d7 (tp_nn w5)) (ckc_at (d8 j _ c7) (tp_nn w6)) (hA _ (by simp)) (fun y hy => by
        rcases (d9 y).mp hy with q | q
        · exact hNA1 y q
        · exact hA y (by simp [q]))
      have fin := bO_of (F := F) (P := P) (A := A) (D := D2) (N := N2) (B := B2) (k := k) (i := i) (fu := fu) (w := 1) (L := [bn s m (tp l) (tp r)]) (y := bn s m (tp l) (tp r)) (by omega) rr (fun v D' N' B' h => by
        obtain ⟨j, rfl, j2, j3, j4, j5, j6, j7, j8⟩ := h
        exact ⟨j, rfl, j2, j3, fun z => by rw [j4]; simp, j6, by omega⟩) (o2 := f_X8_build_32 F P xS0 (fu + 1 + 1) 224 202 (nI (k + 1 + 1)) (nI (i + 1) - 1) D2) (by
        rw [step D2 (k + 1 + 1) d3 (by rw [k12.1 203 (by decide)]; exact t1), if_neg (show ¬ s ≤ 3 by omega), if_pos rfl, e_X8_build_95, E_isJoin (by omega) (by omega) w3, Option.bind_some, if_pos (show 10 ≤ s ∧ s ≤ 13 by omega), if_neg (show ¬ (1 : Int32) = 0 by decide)]
        dsimp only
        rw [if_neg (show ¬ nI (k + 1 + 1) < 2 from fun q => by rw [k2, nI_ltI (by omega) (by omega)] at q; omega), neg1, show nI (k + 1 + 1) - 1 = nI (k + 1) by rw [nI_s1 (by omega)]; rfl]
        rw [xlet_q, show nI (k + 1) - 1 = nI k by rw [nI_s1 (by omega)]; rfl, xgrd_in (show k + 1 < 2000 by omega) (by omega), xgrd_in (show k < 2000 by omega) (by omega), nI_clamp (show k + 1 < 2 ^ 31 by omega), nI_clamp (show k < 2 ^ 31 by omega), d6, d5 k (by omega), c6]
        refine ob_congr (fun q8 => ?_)
        rw [xlet_q, e_X8_build_169, xlet_q, neg1])
      rcases fin with ⟨D3, N3, B3, j3, f1, f2, f3, f4, f5, f6, f7, f8, f9, f10, f11⟩ | ⟨g, v, D3, f1, f2, f3⟩
      · refine Or.inl ⟨D3, N3, B3, j3, f1, f2, f3, ch_trans k12 f4, fun q hq => by rw [f5 q hq, d5 q (by omega), c5 q hq], f6, f7, ext_trans c8 (ext_trans d8 f8), fun z => ?_, by omega, by omega⟩
        rw [f9, d9, c9, List.mem_append, List.mem_append]
        constructor
        · rintro (((q | q) | q) | q)
          · exact Or.inl q
          · exact Or.inr (Or.inl (Or.inr q))
          · exact Or.inr (Or.inl (Or.inl q))
          · exact Or.inr (Or.inr q)
        · rintro (q | (q | q) | q)
          · exact Or.inl (Or.inl (Or.inl q))
          · exact Or.inl (Or.inr q)
          · exact Or.inl (Or.inl (Or.inr q))
          · exact Or.inr q
      · exact Or.inr ⟨g, v, D3, f1, f2, ch_trans k12 f3⟩
