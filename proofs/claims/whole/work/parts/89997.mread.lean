/-! formula: the reference reads by that grammar, put together -/
theorem E_lkin1 {F P a b c : Nat} {D : xDt} (h : a ≤ c ∧ c ≤ b) (ha : 0 < a) (hb : b < 2 ^ 31) : f_X12_in F P xS0 (lk c) (nI a) (nI b) D = some (1, D) := by
  rw [lkp rfl (show 0 < c by omega)]
  exact E_in1 h.1 h.2 hb
theorem E_lkin0 {F P a b c : Nat} {D : xDt} (h : ¬ (a ≤ c ∧ c ≤ b)) (ha : 0 < a) (hb : b < 2 ^ 31) (hab : a < 2 ^ 31) (hc : c < 2 ^ 31) : f_X12_in F P xS0 (lk c) (nI a) (nI b) D = some (0, D) := by
  refine E_in0 ?_
  by_cases e : c = 0
  · rw [e]
    exact Or.inl (Int32.lt_of_lt_of_le (show lk 0 < 0 by decide) (nI_pos' hab))
  · rw [lkp rfl (by omega)]
    by_cases q : a ≤ c
    · exact Or.inr (nI_lt (by omega) hc)
    · exact Or.inl (nI_lt (by omega) hab)
theorem g_or : ∀ m, m < 16 → ∀ j, j < 4 → nI m ||| jishl 1 (nI j) = nI (m ||| 2 ^ j) := by decide +kernel
theorem E_grp {sg : List Nat} (hN : sg.length ≤ 200) (hs : ∀ x, x ∈ sg → 32 ≤ x ∧ x ≤ 126) {F P n z : Nat} (hF : 10000 < F) {just : Nat} : ∀ (k m last p fu : Nat) (D : xDt), k < fu → 48 ≤ last → last ≤ 52 → m < 16 → (just = 0 ∧ 52 ≤ last + k) ∨ (just = 1 ∧ ((k = 1 ∧ m = 0) ∨ (k = 0 ∧ m ≠ 0))) → mse sg D p n z → oK (f_X12_group_27 F P xS0 fu 241 (nI just) (nI m) (nI (last - 48)) (lk (sA sg p)) D) (fun u => u.1 = nI (pG sg k m last p).1 ∧ mst sg u.2 (pG sg k m last p).2 n z ∧ mfr D u.2 z)
  | k, m, last, p, 0, _, h, _, _, _, _, _ => absurd h (by omega)
  | k, m, last, p, fu + 1, D, hk, h1, h2, h3, h4, h5 => by
    have hp := sA_127 hs p
    have e0 : f_X12_group_27 F P xS0 (fu + 1) 241 (nI just) (nI m) (nI (last - 48)) (lk (sA sg p)) D = (f_X12_in F P xS0 (lk (sA sg p)) (nI (last + 1)) (nI 52) D).bind fun q1 => if q1.1 = 0 then (some (nI m, q1.2)) else (if nI m = 0 then (f_X12_group_49 F P xS0 (f_X12_group_27 F P xS0 fu) 241 (nI just) (nI m) (lk (sA sg p)) q1.2) else (if nI just = 0 then (f_X12_group_49 F P xS0 (f_X12_group_27 F P xS0 fu) 241 (nI just) (nI m) (lk (sA sg p)) q1.2) else (some (nI m, q1.2)))) := by
      rw [e_X12_group_27, show (49 : Int32) = nI 49 from rfl, nI_add, show 49 + (last - 48) = last + 1 by omega]
      rfl
    by_cases c : last + 1 ≤ sA sg p ∧ sA sg p ≤ 52
    · rw [e0, E_lkin1 c (by omega) (by omega), Option.bind_some, if_neg (show ¬ (1 : Int32) = 0 by decide)]
      have go : ∀ k', k = k' + 1 → oK (f_X12_group_49 F P xS0 (f_X12_group_27 F P xS0 fu) 241 (nI just) (nI m) (lk (sA sg p)) D) (fun u => u.1 = nI (pG sg k m last p).1 ∧ mst sg u.2 (pG sg k m last p).2 n z ∧ mfr D u.2 z) := by
        rintro k' rfl
        have hpl := sA_lt (sg := sg) (p := p) (by omega)
        rw [pG, if_pos ⟨by omega, c.2⟩, e_X12_group_49, lkp rfl (show 0 < sA sg p by omega), show (48 : Int32) = nI 48 from rfl, nI_sub (show 48 ≤ sA sg p by omega)]
        simp only [xlet]
        rw [nI_s1 (by omega), g_or m h3 (sA sg p - 48 - 1) (by omega), h5.1, nI_1]
        obtain ⟨D1, e1, q1, q2⟩ := E_mlook (F := F) (P := P) (p := sk sg (p + 1)) hN hs hF (D := (xup D.1 241 17 (nI (p + 1)), D.2)) ⟨⟨p + 1, by omega, rfl, by dsimp only; rw [xup_at]⟩, mr_i h5.2.2.2⟩
        rw [e1, Option.bind_some, show sA sg p - 48 - 1 = sA sg p - 49 by omega]
        have q3 := mfr_trans (Nat.le_refl _) (mfr_i (v := nI (p + 1)) (Or.inr (Or.inl rfl)) (mfr_rfl D z)) q2
        refine oK_mono (E_grp hN hs hF (just := just) k' (m ||| 2 ^ (sA sg p - 49)) (sA sg p) (sk sg (p + 1)) fu D1 (by omega) (by omega) c.2 (or_16 h3 (by omega)) ?_ q1) (fun u hu => ⟨hu.1, hu.2.1, mfr_trans (Nat.le_refl _) q3 hu.2.2⟩)
        rcases h4 with h4 | ⟨h4, h6 | h6⟩
        · exact Or.inl ⟨h4.1, by omega⟩
        · exact Or.inr ⟨h4, Or.inr ⟨by omega, or_pos⟩⟩
        · omega
      rcases h4 with h4 | ⟨h4, h6 | h6⟩
      · rw [if_pos (show nI just = 0 by rw [h4.1]; rfl)]
        rw [ite_self]
        exact go (k - 1) (by omega)
      · rw [if_pos (show nI m = 0 by rw [h6.2]; rfl)]
        exact go 0 (by omega)
      · rw [if_neg (show ¬ nI m = 0 from fun q => h6.2 ((nI_eq0 (by omega)).mp q)), if_neg (show ¬ nI just = 0 by rw [h4]; decide), h6.1, pG]
        exact oK_some ⟨rfl, mse_st h5, mfr_rfl _ _⟩
    · rw [e0, E_lkin0 c (by omega) (by omega) (by omega) (by omega), Option.bind_some, if_pos rfl]
      have : pG sg k m last p = (m, p) := by
        cases k with
        | zero => rfl
        | succ k => rw [pG, if_neg (by omega)]
      rw [this]
      exact oK_some ⟨rfl, mse_st h5, mfr_rfl _ _⟩
theorem E_group {sg : List Nat} (hN : sg.length ≤ 200) (hs : ∀ x, x ∈ sg → 32 ≤ x ∧ x ≤ 126) {F P n z p : Nat} (hF : 10000 < F) {just : Nat} (hj : just < 2) {D : xDt} (h : mst sg D p n z) : ((pG sg (if just = 1 then 1 else 4) 0 48 p).1 = 0 → oK (f_X12_group F P xS0 241 (nI just) D) (fun u => u.2.1 241 18 = nI p ∧ mfr D u.2 z)) ∧ ((pG sg (if just = 1 then 1 else 4) 0 48 p).1 ≠ 0 → oK (f_X12_group F P xS0 241 (nI just) D) (fun u => u.1 = nI (pG sg (if just = 1 then 1 else 4) 0 48 p).1 ∧ mst sg u.2 (pG sg (if just = 1 then 1 else 4) 0 48 p).2 n z ∧ mfr D u.2 z)) := by
  obtain ⟨D1, e1, q1, q2⟩ := E_mlook (F := F) (P := P) hN hs hF h
  have hp := sA_127 hs p
  obtain ⟨p1, p2⟩ := mst_p h
  have hpg := pG_p (sg := sg) (if just = 1 then 1 else 4) 0 48 p p1 p2 (by omega) (by omega)
  have hf : (if just = 1 then 1 else 4) = (if just = 1 then 0 else 3) + 1 := by split <;> rfl
  have hz : (pG sg (if just = 1 then 1 else 4) 0 48 p).1 = 0 ↔ ¬ (49 ≤ sA sg p ∧ sA sg p ≤ 52) := by
    rw [hf, pG]
    by_cases c : 49 ≤ sA sg p ∧ sA sg p ≤ 52
    · rw [if_pos (by omega)]
      obtain ⟨a1, a2, a3⟩ := sk_p (sg := sg) (p := p + 1) (by have := sA_lt (sg := sg) (p := p) (by omega); omega)
      have := (pG_p (sg := sg) (if just = 1 then 0 else 3) (0 ||| 2 ^ (sA sg p - 49)) (sA sg p) (sk sg (p + 1)) a2 a3 (by omega) (or_16 (by omega) (by omega))).2.2.2.2.1 or_pos
      exact ⟨fun q => absurd q this, fun q => absurd c q⟩
    · rw [if_neg (by omega)]
      exact ⟨fun _ => c, fun _ => rfl⟩
  have e0 : f_X12_group F P xS0 241 (nI just) D = (f_X12_in F P xS0 (lk (sA sg p)) (nI 49) (nI 52) D1).bind fun q2 => if q2.1 = 0 then ((f_X12_bad F P xS0 241 q2.2).bind fun q3 => some (q3.1, q3.2)) else (f_X12_group_27 F P xS0 F 241 (nI just) 0 0 (lk (sA sg p)) q2.2) := by
    rw [e_X12_group, e1, Option.bind_some]; rfl
  constructor
  · intro c
    rw [e0, E_lkin0 (hz.mp c) (by omega) (by omega) (by omega) (by omega), Option.bind_some, if_pos rfl, E_bad q1.2.2.2.1, Option.bind_some]
    exact oK_some ⟨by dsimp only; rw [xup_at]; exact q1.1, mfr_i (Or.inr (Or.inr (Or.inl rfl))) q2⟩
  · intro c
    have c2 : 49 ≤ sA sg p ∧ sA sg p ≤ 52 := Decidable.not_not.mp (fun q => c (hz.mpr q))
    rw [e0, E_lkin1 c2 (by omega) (by omega), Option.bind_some, if_neg (show ¬ (1 : Int32) = 0 by decide)]
    refine oK_mono (E_grp hN hs hF (just := just) (if just = 1 then 1 else 4) 0 48 p F D1 (by split <;> omega) (by omega) (by omega) (by omega) ?_ q1) (fun u hu => ⟨hu.1, hu.2.1, mfr_trans (Nat.le_refl _) q2 hu.2.2⟩)
    by_cases q : just = 1
    · rw [if_pos q]; exact Or.inr ⟨q, Or.inl ⟨rfl, rfl⟩⟩
    · rw [if_neg q]; exact Or.inl ⟨by omega, by omega⟩
/-- a piece of the reference that reads a unary sign's part, or what stands behind a bracket -/
theorem E_mpart {sg l : List Nat} {F P p n z s m : Nat} {D D0 : xDt} {on : Nat → Nat → R} {o : Option (Int32 × xDt)} {X : Int32 → xDt → Option (Int32 × xDt)} (hz0 : z ≤ 12800 + n) (h0 : mfr D0 D z) (hp : p ≤ sg.length) (hn : n + 1 ≤ 150) (hq : PS sg l on) (h : mP sg D (n + 1) z o (on p (n + 1))) (hX : ∀ s0 D, X s0 D = if 0 ≤ (D.1 241 18) then (some (0, D)) else ((f_X12_node F P xS0 241 (nI s) s0 (-2) (nI m) D).bind fun q1 => some (q1.1, q1.2))) (hN : sg.length ≤ 200) : mP sg D0 n z (o.bind fun q1 => X q1.1 q1.2) (Rb (on p (n + 1)) fun t q n => .ok (bn s m t nil, q, n)) := by
  have g2 := hq p (n + 1) hp hn
  rcases hr : on p (n + 1) with q | ⟨t, p', n'⟩
  · rw [hr] at h g2
    obtain ⟨u, e, h1, h2⟩ := h
    have hq2 : q ≤ sg.length := g2
    refine ⟨(0, u.2), ?_, h1, mfr_trans (Nat.le_refl _) h0 h2⟩
    rw [e, Option.bind_some, hX, if_pos (by rw [h1]; exact nI_pos' (by omega))]
  · rw [hr] at h g2
    obtain ⟨u, e, h1, z', i, k1, k2, k3, k4, k5, k6⟩ := h
    obtain ⟨b1, b2, b3, b4, b5, b6, b7⟩ := id g2
    dsimp only at b1 b2 b3 b4 b5 b6 b7 k1 k2 k6
    obtain ⟨D4, e4, q7, q8, q9, q10⟩ := E_mk (F := F) (P := P) (s := s) (m := m) (tl := t) (tr := nil) k1.2 (by omega) (Or.inr ⟨i, k5, rfl, k6⟩) (Or.inl ⟨rfl, rfl⟩) (by rw [show sz nil = 0 from rfl]; omega)
    show mP sg D0 n z _ (.ok (bn s m t nil, p', n'))
    refine mP_k (i := z') (D' := D4) (z' := z' + 1) ?_ (mfr_trans (Nat.le_refl _) h0 (mfr_trans (Nat.le_refl _) h1 (q8 z k3))) ⟨by obtain ⟨x, x1, x2, x3⟩ := k1.1; exact ⟨x, x1, x2, by rw [q10]; exact x3⟩, q9⟩ (by omega) (by omega) (by omega) q7
    rw [e, Option.bind_some, hX, if_neg (by rw [k1.2.1]; decide), k4, e4]
    rfl
