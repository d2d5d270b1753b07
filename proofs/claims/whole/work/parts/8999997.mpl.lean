/-! decide: the reference's plain formula -/
theorem m_has : ∀ m, 0 < m → m < 16 → ∃ b, 0 ≤ b ∧ b < 0 + 4 ∧ m.testBit b = true := by
  intro m h1 h2
  have h : ∀ m, m < 15 → (m + 1).testBit 0 = true ∨ (m + 1).testBit 1 = true ∨ (m + 1).testBit 2 = true ∨ (m + 1).testBit 3 = true := by decide +kernel
  have := h (m - 1) (by omega)
  rw [Nat.sub_add_cancel h1] at this
  rcases this with h | h | h | h
  · exact ⟨0, by omega, by omega, h⟩
  · exact ⟨1, by omega, by omega, h⟩
  · exact ⟨2, by omega, by omega, h⟩
  · exact ⟨3, by omega, by omega, h⟩
theorem tp_nn : ∀ {t : T}, wfT t → tp t ≠ nil
  | .leaf, h => absurd h (by simp [wfT])
  | .inner s m () l r, hw => by
    obtain ⟨w1, w2, w3, w4⟩ := hw
    rw [tp]
    by_cases c6 : s = 6
    · rw [if_pos c6]; exact fun q => nomatch q
    rw [if_neg c6]
    by_cases c7 : s = 7
    · rw [if_pos c7]
      refine tal_nn 4 0 nil (Or.inr (m_has m ?_ (m16 w3)))
      unfold mOK at w3; omega
    · rw [if_neg c7]; exact fun q => nomatch q
/-- the parts of a NODE: none, or one that is made plain already -/
theorem E_pln {F P : Nat} (hF : 100000 < F) : ∀ (t : T) (i n : Nat) (D : xDt) (N : List T), wfT t → tha (pS 2) t = false → nd D.1 0 t i → i < 12800 → sz t < n → rN D.1 N → N.length + 7 * sz t + 10 < 70000 → ∃ D' N' j, f_X12_plain F P xS0 n 241 (nI i) D = some (nI (12800 + j), D') ∧ rN D'.1 N' ∧ ext N N' ∧ N'[j]? = some (tp t) ∧ (∀ x, x ∈ N' ↔ x ∈ N ∨ x ∈ rts t) ∧ N'.length ≤ N.length + 7 * sz t ∧ mfw D D'
  | .leaf, _, _, _, _, h, _, _, _, _, _, _ => absurd h (by simp [wfT])
  | .inner s m () l r, i, 0, _, _, _, _, _, _, h, _, _ => absurd h (by omega)
  | .inner s m () l r, i, n + 1, D, N, hw, hq, hd, hi, hn, hN, hz => by
    obtain ⟨w1, w2, w3, w4⟩ := id hw
    obtain ⟨d1, d2, d3, d4, d5, d6, d7⟩ := id hd
    have hm := m16 w3
    rw [sz] at hn hz
    rw [tha, Bool.or_eq_false_iff, Bool.or_eq_false_iff] at hq
    obtain ⟨⟨q0, q1⟩, q2⟩ := hq
    have hs : s ≠ 9 ∧ s ≤ 13 := by
      have : pS 2 s = (decide (s = 9) || decide (14 ≤ s)) := rfl
      rw [this, Bool.or_eq_false_iff, decide_eq_false_iff_not, decide_eq_false_iff_not] at q0
      omega
    -- the left part
    have hl : ∃ (D1 : xDt) (N1 : List T) (v : Int32), f_X12_plain F P xS0 (n + 1) 241 (nI i) D = f_X12_plain_31 F P xS0 (f_X12_plain F P xS0 n) 241 (nI i) (nI s) v D1 ∧ rN D1.1 N1 ∧ ext N N1 ∧ rkc N1 N1.length (tp l) v ∧ (∀ x, x ∈ N1 ↔ x ∈ N ∨ x ∈ rts l) ∧ N1.length ≤ N.length + 7 * sz l ∧ mfw D D1 := by
      rcases d6 with ⟨rfl, e6⟩ | ⟨i1, hi1, e6, d6⟩
      · refine ⟨D, N, -2, ?_, hN, fun _ _ h => h, Or.inl ⟨rfl, rfl⟩, fun x => by simp [rts], by omega, mfw_rfl D⟩
        show f_X12_plain_o F P xS0 (f_X12_plain F P xS0 n) 241 (nI i) D = _
        rw [e_X12_plain_o, xgrd_in (by omega) (by omega), nI_clamp (by omega), d3]
        simp only [xlet]
        rw [xgrd_in (by omega) (by omega), e6, if_neg (by decide)]
      · have wl : wfT l := by
          rcases w4 with ⟨_, rfl, _⟩ | ⟨_, _, wl, _⟩ | ⟨_, wl, _⟩
          · exact absurd d6 (by simp [nd])
          · exact wl
          · exact wl
        obtain ⟨D1, N1, j, e1, b1, b2, b3, b4, b5, b6⟩ := E_pln (P := P) hF l i1 n D N wl q1 d6 (by omega) (by omega) hN (by omega)
        refine ⟨D1, N1, nI (12800 + j), ?_, b1, b2, rkc_at b3, b4, b5, b6⟩
        show f_X12_plain_o F P xS0 (f_X12_plain F P xS0 n) 241 (nI i) D = _
        rw [e_X12_plain_o, xgrd_in (by omega) (by omega), nI_clamp (by omega), d3]
        simp only [xlet]
        rw [xgrd_in (by omega) (by omega), e6, if_pos (nI_pos' (by omega)), xgrd_in (by omega) (by omega), e1, Option.bind_some]
    obtain ⟨D1, N1, v, e1, b1, b2, b3, b4, b5, b6⟩ := hl
    -- the right part
    have hr : ∃ (D2 : xDt) (N2 : List T) (w : Int32), f_X12_plain_31 F P xS0 (f_X12_plain F P xS0 n) 241 (nI i) (nI s) v D1 = f_X12_plain_56 F P xS0 (f_X12_plain F P xS0 n) 241 (nI i) (nI s) v w D2 ∧ rN D2.1 N2 ∧ ext N1 N2 ∧ rkc N2 N2.length (tp r) w ∧ (∀ x, x ∈ N2 ↔ x ∈ N1 ∨ x ∈ rts r) ∧ N2.length ≤ N1.length + 7 * sz r ∧ mfw D1 D2 := by
      have e249 : D1.1 249 i = D.1 249 i := b6.2.2 249 (by omega) i hi
      rcases d7 with ⟨rfl, e7⟩ | ⟨i2, hi2, e7, d7⟩
      · refine ⟨D1, N1, -2, ?_, b1, fun _ _ h => h, Or.inl ⟨rfl, rfl⟩, fun x => by simp [rts], by omega, mfw_rfl D1⟩
        rw [e_X12_plain_31, xgrd_in (by omega) (by omega), nI_clamp (by omega), e249, e7, if_neg (by decide)]
      · have wr : wfT r := by
          rcases w4 with ⟨_, _, rfl⟩ | ⟨_, _, _, rfl⟩ | ⟨_, _, wr⟩
          · exact absurd d7 (by simp [nd])
          · exact absurd d7 (by simp [nd])
          · exact wr
        obtain ⟨D2, N2, j, e2, c1, c2, c3, c4, c5, c6⟩ := E_pln (P := P) hF r i2 n D1 N1 wr q2 (nd_congr (fun x hx hx2 j _ hj => b6.2.2 x (by omega) j (by omega)) d7) (by omega) (by omega) b1 (by omega)
        refine ⟨D2, N2, nI (12800 + j), ?_, c1, c2, rkc_at c3, c4, c5, c6⟩
        rw [e_X12_plain_31, xgrd_in (by omega) (by omega), nI_clamp (by omega), e249, e7, if_pos (nI_pos' (by omega)), xgrd_in (by omega) (by omega), e2, Option.bind_some]
    obtain ⟨D2, N2, w, e2, c1, c2, c3, c4, c5, c6⟩ := hr
    have f2 := mfw_trans b6 c6
    have m250 : D2.1 250 i = nI m := by rw [f2.2.2 250 (by omega) i hi]; exact d4
    have hv2 : rkc N2 N2.length (tp l) v := rkc_ext c2 (by
      have h1 : ∀ i, i < N1.length → i < N2.length := fun i h => lt_of_at (c2 i _ (List.getElem?_eq_getElem h))
      by_cases q : N1.length ≤ N2.length
      · exact q
      · have := h1 N2.length (by omega); omega) b3
    rw [e1, e2, e_X12_plain_56, tp, rts]
    by_cases k6 : s = 6
    · rw [if_pos (show nI s = 6 by rw [k6]; rfl), if_pos k6, if_pos k6]
      have hr0 : r = nil := by
        rcases w4 with ⟨_, _, rfl⟩ | ⟨_, _, _, rfl⟩ | ⟨h, _, _⟩
        · rfl
        · rfl
        · omega
      obtain ⟨D3, N3, k3, e3, g1, g2, g3, g4, g5, g6, _⟩ := E_sh (F := F) (P := P) hF (s := 4) (m := 0) (l := tp l) (r := nil) (xr := -2) c1 (by omega) (by omega) (by omega) hv2 (Or.inl ⟨rfl, rfl⟩)
      rw [show f_X12_shared F P xS0 241 4 v (-2) 0 D2 = some (nI (12800 + k3), D3) from e3, Option.bind_some]
      dsimp only
      rw [xgrd_in (by omega) (by omega), nI_clamp (by omega), g6.2.2 250 (by omega) i hi, m250]
      obtain ⟨D4, N4, k4, e4, p1, p2, p3, p4, p5, p6, _⟩ := E_sh (F := F) (P := P) hF (s := 5) (m := m) (l := bn 4 0 (tp l) nil) (r := nil) (xr := -2) g1 (by omega) (by omega) hm (rkc_at g3) (Or.inl ⟨rfl, rfl⟩)
      rw [show f_X12_shared F P xS0 241 5 (nI (12800 + k3)) (-2) (nI m) D3 = some (nI (12800 + k4), D4) from e4, Option.bind_some]
      obtain ⟨D5, N5, k5, e5, u1, u2, u3, u4, u5, u6, _⟩ := E_sh (F := F) (P := P) hF (s := 4) (m := 0) (l := bn 5 m (bn 4 0 (tp l) nil) nil) (r := nil) (xr := -2) p1 (by omega) (by omega) (by omega) (rkc_at p3) (Or.inl ⟨rfl, rfl⟩)
      dsimp only
      rw [show f_X12_shared F P xS0 241 4 (nI (12800 + k4)) (-2) 0 D4 = some (nI (12800 + k5), D5) from e5, Option.bind_some]
      refine ⟨D5, N5, k5, rfl, u1, ext_trans b2 (ext_trans c2 (ext_trans g2 (ext_trans p2 u2))), u3, fun x => ?_, by rw [sz]; omega, mfw_trans f2 (mfw_trans g6 (mfw_trans p6 u6))⟩
      rw [u4, p4, g4, c4, b4, hr0]
      simp only [rts, List.not_mem_nil, List.mem_append, List.mem_cons, or_false]
      constructor
      · rintro ((((h | h) | h) | h) | h)
        · exact Or.inl h
        · exact Or.inr (Or.inl h)
        · exact Or.inr (Or.inr (Or.inl h))
        · exact Or.inr (Or.inr (Or.inr (Or.inl h)))
        · exact Or.inr (Or.inr (Or.inr (Or.inr h)))
      · rintro (h | h | h | h | h)
        · exact Or.inl (Or.inl (Or.inl (Or.inl h)))
        · exact Or.inl (Or.inl (Or.inl (Or.inr h)))
        · exact Or.inl (Or.inl (Or.inr h))
        · exact Or.inl (Or.inr h)
        · exact Or.inr h
    rw [if_neg (show ¬ nI s = 6 from fun q => k6 ((nI_eq (b := 6) (by omega) (by omega)).mp q)), if_neg k6, if_neg k6]
    by_cases k7 : s = 7
    · rw [if_pos (show nI s = 7 by rw [k7]; rfl), if_pos k7, if_pos k7]
      have hr0 : r = nil := by
        rcases w4 with ⟨_, _, rfl⟩ | ⟨_, _, _, rfl⟩ | ⟨h, _, _⟩
        · rfl
        · rfl
        · omega
      have wl : wfT l := by
        rcases w4 with ⟨_, _⟩ | ⟨_, _, wl, _⟩ | ⟨_, wl, _⟩
        · omega
        · exact wl
        · exact wl
      obtain ⟨p, hp, hp2, rfl⟩ : ∃ p, p < N2.length ∧ N2[p]? = some (tp l) ∧ v = nI (12800 + p) := by
        rcases hv2 with ⟨h, _⟩ | h
        · exact absurd h (tp_nn wl)
        · exact h
      obtain ⟨D3, N3, u, e3, g1, g2, g3, g4, g5, g6⟩ := E_p123 (F := F) (P := P) hF (fs := f_X12_plain F P xS0 n) (i := i) (m := m) (p := p) (x := tp l) hi hm 4 0 F nil (-2) D2 N2 (by omega) (by omega) m250 c1 (by omega) hp2 (Or.inl ⟨rfl, rfl⟩)
      have hne : tal m (tp l) 4 0 nil ≠ nil := tal_nn 4 0 nil (Or.inr (m_has m (by unfold mOK at w3; omega) hm))
      obtain ⟨j, hj, hj2, rfl⟩ : ∃ j, j < N3.length ∧ N3[j]? = some (tal m (tp l) 4 0 nil) ∧ u = nI (12800 + j) := by
        rcases g3 with ⟨h, _⟩ | h
        · exact absurd h hne
        · exact h
      refine ⟨D3, N3, j, e3, g1, ext_trans b2 (ext_trans c2 g2), hj2, fun x => ?_, ?_, mfw_trans f2 g6⟩
      · rw [g4, c4, b4, hr0]
        simp only [rts, List.not_mem_nil, List.mem_append, or_false, or_assoc]
      · have := (tall_len (m := m) (x := tp l) 4 0 nil).2 rfl
        rw [sz]; omega
    · rw [if_neg (show ¬ nI s = 7 from fun q => k7 ((nI_eq (b := 7) (by omega) (by omega)).mp q)), if_neg k7, if_neg k7, xgrd_in (by omega) (by omega), nI_clamp (by omega), m250]
      obtain ⟨D3, N3, k3, e3, g1, g2, g3, g4, g5, g6, _⟩ := E_sh (F := F) (P := P) hF (s := s) (m := m) (l := tp l) (r := tp r) c1 (by omega) (by omega) hm hv2 c3
      rw [e3, Option.bind_some]
      refine ⟨D3, N3, k3, rfl, g1, ext_trans b2 (ext_trans c2 g2), g3, fun x => ?_, by rw [sz]; omega, mfw_trans f2 g6⟩
      rw [g4, c4, b4]
      simp only [List.mem_append, List.mem_cons, List.not_mem_nil, or_false, or_assoc]
