/-! decide: the class's terms of one token -/
theorem wa_K : ∀ a, a < 4 → (75 : Int32) ||| jishl (nI (2 ^ a)) 8 = nI (tk 5 (2 ^ a)) := by decide +kernel
theorem mOK_K : ∀ {a : Nat}, a < 4 → mOK 5 (2 ^ a) := by
  intro a ha
  have : a = 0 ∨ a = 1 ∨ a = 2 ∨ a = 3 := by omega
  rcases this with rfl | rfl | rfl | rfl <;> exact Or.inr (Or.inr (Or.inl ⟨Or.inl rfl, by decide⟩))
theorem tmw_K {a : Nat} {x : T} (ha : a < 4) (hx : x ≠ nil) : tmw (tK a x) := ⟨by omega, by omega, mOK_K ha, Or.inr (Or.inl ⟨by omega, by omega, hx, rfl⟩)⟩
theorem ckc_at {N : List T} {j : Nat} {x : T} (h : N[j]? = some x) (hx : x ≠ nil) : ckc N N.length x (nI j) := Or.inr ⟨hx, j, lt_of_at h, h, rfl⟩
theorem cst_nn {D : xDt} {N B : List T} (h : cst D N B) {j : Nat} {x : T} (hj : N[j]? = some x) : x ≠ nil := by
  intro q
  subst q
  exact (h.1.2.2.2.1 j _ hj).1
theorem E_hasA {F P : Nat} {S : xSt} {D : xDt} {s m a : Nat} (h5 : 5 ≤ s) (h9 : s ≤ 9) (hm : m < 16) (ha : a < 4) : f_X11_hasAgent F P S (nI (tk s m)) (nI a) D = some (bI (m.testBit a), D) := by
  unfold f_X11_hasAgent
  have := ag_t s (by omega) m hm a ha h5
  cases hb : m.testBit a
  · rw [if_pos (this.mpr hb)]; rfl
  · rw [if_neg (fun q => by rw [this.mp q] at hb; cases hb)]; rfl
theorem E_ev5G {F P : Nat} (hF : 100000 < F) {s m : Nat} (h5 : 5 ≤ s) (h9 : s ≤ 9) (hm : m < 16) {v2 : Int32} : ∀ (d a n : Nat) (v3 : Int32) (D : xDt) (N B : List T), a + d = 4 → d < n → cst D N B → D.1 224 9 = 1 → gO D (f_X8_everyone_5 F P xS0 n 224 (nI (tk s m)) v2 v3 (nI a) D)
  | _, _, 0, _, _, _, _, _, h, _, _ => absurd h (by omega)
  | 0, a, n + 1, v3, D, N, B, h1, _, h3, h4 => by
    rw [e_X8_everyone_5, if_pos (show (4 : Int32) ≤ nI a from (nI_leI (a := 4) (by omega) (by omega)).mpr (by omega))]
    exact gO_some h3 h4
  | d + 1, a, n + 1, v3, D, N, B, h1, h2, h3, h4 => by
    have ih := fun v3 D N B => E_ev5G (F := F) (P := P) hF h5 h9 hm (v2 := v2) d (a + 1) n v3 D N B (by omega) (by omega)
    rw [e_X8_everyone_5, if_neg (show ¬ (4 : Int32) ≤ nI a from fun q => by have := (nI_leI (a := 4) (by omega) (by omega)).mp q; omega), E_hasA h5 h9 hm (by omega), Option.bind_some]
    dsimp only
    cases m.testBit a
    · rw [if_pos (show bI false = 0 from rfl), e_X8_everyone_56, nI_1]
      exact ih v3 D N B h3 h4
    · rw [if_neg (show ¬ bI true = 0 by decide)]
      unfold f_X11_withAgents
      rw [Option.bind_some]
      refine gO_b (E_makeG hF h3 h4) (fun v D' N' B' q1 q2 => ?_)
      dsimp only
      by_cases c : 0 ≤ v3
      · rw [if_pos c]
        refine gO_b (E_makeG hF q1 q2) (fun w D2 N2 B2 u1 u2 => ?_)
        rw [e_X8_everyone_55, e_X8_everyone_56, nI_1]
        exact ih w D2 N2 B2 u1 u2
      · rw [if_neg c, e_X8_everyone_55, e_X8_everyone_56, nI_1]
        exact ih v D' N' B' q1 q2
/-- what more terms bring -/
def mL (N B : List T) (L : List T) (N' B' : List T) : Prop := ext N N' ∧ (∀ y, y ∈ N' ↔ y ∈ N ∨ y ∈ L) ∧ N'.length ≤ N.length + L.length ∧ B.length ≤ B'.length ∧ ((∀ y, y ∈ L → y ∈ N) → N' = N ∧ B' = B) ∧ ((∃ y, y ∈ L ∧ isB (tsr y) = true ∧ y ∉ N) → B.length + 1 ≤ B'.length)
theorem mL_nil (N B : List T) : mL N B [] N B := ⟨fun _ _ h => h, fun y => by simp, by simp, Nat.le_refl _, fun _ => ⟨rfl, rfl⟩, fun ⟨y, h, _⟩ => absurd h (by simp)⟩
theorem mL_one {N B N' B' : List T} {x : T} {v : Int32} (h : mQ N B x v N' B') : mL N B [x] N' B' := by
  obtain ⟨j, h1, h2, h3, h4, h5, h6, h7, h8⟩ := h
  refine ⟨h3, fun y => by rw [h4]; simp, by simpa using h5, h6, fun q => h7 (q x (by simp)), ?_⟩
  rintro ⟨y, q1, q2, q3⟩
  rw [List.mem_singleton] at q1
  subst q1
  rw [h8 q2 q3]; omega
theorem mL_app {N B N1 B1 N2 B2 : List T} {L1 L2 : List T} (h1 : mL N B L1 N1 B1) (h2 : mL N1 B1 L2 N2 B2) : mL N B (L1 ++ L2) N2 B2 := by
  obtain ⟨a1, a2, a3, a4, a5, a6⟩ := h1
  obtain ⟨b1, b2, b3, b4, b5, b6⟩ := h2
  refine ⟨ext_trans a1 b1, fun y => by rw [b2, a2, List.mem_append, or_assoc], by rw [List.length_append]; omega, by omega, fun q => ?_, ?_⟩
  · obtain ⟨rfl, rfl⟩ := a5 (fun y hy => q y (by simp [hy]))
    exact b5 (fun y hy => q y (by simp [hy]))
  · rintro ⟨y, q1, q2, q3⟩
    rw [List.mem_append] at q1
    by_cases c : y ∈ L1
    · have := a6 ⟨y, c, q2, q3⟩; omega
    · have := b6 ⟨y, q1.resolve_left c, q2, fun q => ((a2 y).mp q).elim q3 c⟩; omega
def ekc (N : List T) (x : T) (v : Int32) : Prop := (x = nil ∧ v = -1) ∨ (x ≠ nil ∧ ∃ j, N[j]? = some x ∧ v = nI j)
theorem E_ev5 {F P : Nat} (hF : 100000 < F) {A : List T} {s m p : Nat} {x : T} (h5 : 5 ≤ s) (h9 : s ≤ 9) (hm : m < 16) (hx0 : x ≠ nil) : ∀ (d a n : Nat) (acc : T) (v : Int32) (D : xDt) (N B : List T), a + d = 4 → d < n → cst D N B → D.1 224 9 = 0 → N.length + (tall m x d a acc).length ≤ 2400 → N[p]? = some x → ekc N acc v → (∀ y, y ∈ N → y ∈ A) → (∀ y, y ∈ tall m x d a acc → y ∈ A) → cR A D (f_X8_everyone_5 F P xS0 n 224 (nI (tk s m)) (nI p) v (nI a) D) (fun w _ N' B' => (tal m x d a acc ≠ nil → ∃ j, w = nI j ∧ N'[j]? = some (tal m x d a acc)) ∧ mL N B (tall m x d a acc) N' B')
  | _, _, 0, _, _, _, _, _, _, h, _, _, _, _, _, _, _ => absurd h (by omega)
  | 0, a, n + 1, acc, v, D, N, B, h1, _, h3, h4, h5', h6, h7, h8, h10 => by
    rw [e_X8_everyone_5, if_pos (show (4 : Int32) ≤ nI a from (nI_leI (a := 4) (by omega) (by omega)).mpr (by omega))]
    refine cR_some h3 h4 ⟨fun q => ?_, mL_nil N B⟩
    rcases h7 with ⟨e, _⟩ | ⟨_, j, hj, rfl⟩
    · exact absurd e q
    · refine ⟨j, ?_, hj⟩
      have := lt_of_at hj
      have hz := h3.1.2.1
      rw [k0, jmax_n (by omega) (by omega), Nat.max_eq_left (by omega)]
  | d + 1, a, n + 1, acc, v, D, N, B, h1, h2, h3, h4, h5', h6, h7, h8, h10 => by
    have ha : a < 4 := by omega
    have ih := fun acc v D N B => E_ev5 (F := F) (P := P) hF (A := A) (p := p) (s := s) h5 h9 hm hx0 d (a + 1) n acc v D N B (by omega) (by omega)
    rw [e_X8_everyone_5, if_neg (show ¬ (4 : Int32) ≤ nI a from fun q => by have := (nI_leI (a := 4) (by omega) (by omega)).mp q; omega), E_hasA h5 h9 hm (by omega), Option.bind_some]
    dsimp only
    rw [tall] at h5' h10
    rw [tal, tall]
    cases hb : m.testBit a
    · rw [if_pos (show bI false = 0 from rfl), e_X8_everyone_56, nI_1, if_neg (show ¬ false = true by decide), if_neg (show ¬ false = true by decide)]
      rw [hb, if_neg (show ¬ false = true by decide)] at h5' h10
      exact ih acc v D N B h3 h4 h5' h6 h7 h8 h10
    · rw [if_neg (show ¬ bI true = 0 by decide), if_pos (show true = true from rfl), if_pos (show true = true from rfl)]
      rw [hb, if_pos (show true = true from rfl)] at h5' h10
      unfold f_X11_withAgents
      rw [Option.bind_some, a_bit a ha, wa_K a ha]
      dsimp only
      refine cR_b (E_make (P := P) hF (A := A) (s := 5) (m := 2 ^ a) (l := x) (r := nil) h3 h4 (by rw [List.length_cons] at h5'; omega) (tmw_K ha hx0) (ckc_at h6 hx0) (Or.inl ⟨rfl, rfl⟩) (h10 _ (by simp)) h8) (fun v1 D1 N1 B1 g1 g2 g3 g4 => ?_) (fun v1 D1 N1 B1 g1 g2 => ?_)
      rotate_left
      · dsimp only
        by_cases c : 0 ≤ v
        · rw [if_pos c]
          refine gO_b (E_makeG hF g1 g2) (fun w D2 N2 B2 u1 u2 => ?_)
          rw [e_X8_everyone_55, e_X8_everyone_56, nI_1]
          exact E_ev5G hF h5 h9 hm d (a + 1) n w D2 N2 B2 (by omega) (by omega) u1 u2
        · rw [if_neg c, e_X8_everyone_55, e_X8_everyone_56, nI_1]
          exact E_ev5G hF h5 h9 hm d (a + 1) n v1 D1 N1 B1 (by omega) (by omega) g1 g2
      have o1 := mL_one g4
      obtain ⟨j, rfl, j2, j3, j4, j5, j6, j7, j8⟩ := g4
      have hNA1 : ∀ y, y ∈ N1 → y ∈ A := fun y hy => by
        rcases (j4 y).mp hy with q | q
        · exact h8 y q
        · rw [q]; exact h10 _ (by simp)
      dsimp only
      rcases h7 with ⟨e, rfl⟩ | ⟨hne, q, hq, rfl⟩
      · rw [if_neg (show ¬ (0 : Int32) ≤ -1 by decide), e_X8_everyone_55, e_X8_everyone_56, nI_1, if_pos (teq_iff.mpr e), if_pos (teq_iff.mpr e), List.nil_append]
        rw [if_pos (teq_iff.mpr e), if_pos (teq_iff.mpr e), List.nil_append, List.length_cons] at h5'
        rw [if_pos (teq_iff.mpr e), if_pos (teq_iff.mpr e), List.nil_append] at h10
        have r := ih (tK a x) (nI j) D1 N1 B1 g1 g2 (by omega) (j3 p x h6) (Or.inr ⟨fun q => (nomatch q), j, j2, rfl⟩) hNA1 (fun y hy => h10 y (by simp [hy]))
        rcases r with ⟨w, D2, N2, B2, e2, u1, u2, u3, u4, u5⟩ | r
        · exact Or.inl ⟨w, D2, N2, B2, e2, u1, u2, u3, u4, mL_app o1 u5⟩
        · exact Or.inr r
      · have nt : ¬ teq acc nil = true := fun q => hne (teq_iff.mp q)
        have hql := lt_of_at hq
        have hz := h3.1.2.1
        rw [if_pos (nI_pos' (by omega)), if_neg nt, if_neg nt]
        rw [if_neg nt, if_neg nt, List.length_cons, List.length_append, List.length_singleton] at h5'
        rw [if_neg nt, if_neg nt] at h10
        have hK0 : tK a x ≠ nil := fun q => nomatch q
        refine cR_b (E_make (P := P) hF (A := A) (s := 13) (m := 0) (l := acc) (r := tK a x) g1 g2 (by omega) ⟨by omega, by omega, Or.inr (Or.inl ⟨by omega, rfl⟩), Or.inr (Or.inr ⟨by omega, hne, hK0⟩)⟩ (ckc_at (j3 q acc hq) hne) (ckc_at j2 hK0) (h10 _ (by simp)) hNA1) (fun v2 D2 N2 B2 u1 u2 u3 u4 => ?_) (fun v2 D2 N2 B2 u1 u2 => ?_)
        rotate_left
        · rw [e_X8_everyone_55, e_X8_everyone_56, nI_1]
          exact E_ev5G hF h5 h9 hm d (a + 1) n v2 D2 N2 B2 (by omega) (by omega) u1 u2
        have o2 := mL_one u4
        obtain ⟨k, rfl, k2, k3, k4, k5, k6, k7, k8⟩ := u4
        rw [e_X8_everyone_55, e_X8_everyone_56, nI_1]
        have r := ih (bn 13 0 acc (tK a x)) (nI k) D2 N2 B2 u1 u2 (by omega) (k3 p x (j3 p x h6)) (Or.inr ⟨fun q => (nomatch q), k, k2, rfl⟩) (fun y hy => by
          rcases (k4 y).mp hy with q | q
          · exact hNA1 y q
          · rw [q]; exact h10 _ (by simp)) (fun y hy => h10 y (by simp [hy]))
        rcases r with ⟨w, D3, N3, B3, e3, z1, z2, z3, z4, z5⟩ | r
        · refine Or.inl ⟨w, D3, N3, B3, e3, z1, z2, z3, z4, ?_⟩
          exact mL_app o1 (mL_app o2 z5)
        · exact Or.inr r
theorem E_c11G {F P : Nat} (hF : 100000 < F) {s m : Nat} (h5 : 5 ≤ s) (h9 : s ≤ 9) (hm : m < 16) {v3 : Int32} : ∀ (d a n : Nat) (D : xDt) (N B : List T), a + d = 4 → d < n → cst D N B → D.1 224 9 = 1 → gO D (f_X8_common_11 F P xS0 n 224 (nI (tk s m)) v3 (nI a) D)
  | _, _, 0, _, _, _, _, h, _, _ => absurd h (by omega)
  | 0, a, n + 1, D, N, B, h1, _, h3, h4 => by
    rw [e_X8_common_11, if_pos (show (4 : Int32) ≤ nI a from (nI_leI (a := 4) (by omega) (by omega)).mpr (by omega))]
    exact gO_some h3 h4
  | d + 1, a, n + 1, D, N, B, h1, h2, h3, h4 => by
    have ih := fun D N B => E_c11G (F := F) (P := P) hF h5 h9 hm (v3 := v3) d (a + 1) n D N B (by omega) (by omega)
    rw [e_X8_common_11, if_neg (show ¬ (4 : Int32) ≤ nI a from fun q => by have := (nI_leI (a := 4) (by omega) (by omega)).mp q; omega), E_hasA h5 h9 hm (by omega), Option.bind_some]
    dsimp only
    cases m.testBit a
    · rw [if_pos (show bI false = 0 from rfl), e_X8_common_42, nI_1]
      exact ih D N B h3 h4
    · rw [if_neg (show ¬ bI true = 0 by decide)]
      unfold f_X11_withAgents
      rw [Option.bind_some]
      refine gO_b (E_makeG hF h3 h4) (fun v D' N' B' q1 q2 => ?_)
      rw [e_X8_common_42, nI_1]
      exact ih D' N' B' q1 q2
theorem E_c11 {F P : Nat} (hF : 100000 < F) {A : List T} {s m p : Nat} {x : T} (h5 : 5 ≤ s) (h9 : s ≤ 9) (hm : m < 16) (hx0 : x ≠ nil) : ∀ (d a n : Nat) (D : xDt) (N B : List T), a + d = 4 → d < n → cst D N B → D.1 224 9 = 0 → N.length + d ≤ 2400 → N[p]? = some x → (∀ y, y ∈ N → y ∈ A) → (∀ y, y ∈ tKs m x d a → y ∈ A) → cR A D (f_X8_common_11 F P xS0 n 224 (nI (tk s m)) (nI p) (nI a) D) (fun w _ N' B' => w = nI p ∧ mL N B (tKs m x d a) N' B')
  | _, _, 0, _, _, _, _, h, _, _, _, _, _, _ => absurd h (by omega)
  | 0, a, n + 1, D, N, B, h1, _, h3, h4, h5', h6, h8, h10 => by
    rw [e_X8_common_11, if_pos (show (4 : Int32) ≤ nI a from (nI_leI (a := 4) (by omega) (by omega)).mpr (by omega))]
    exact cR_some h3 h4 ⟨rfl, mL_nil N B⟩
  | d + 1, a, n + 1, D, N, B, h1, h2, h3, h4, h5', h6, h8, h10 => by
    have ha : a < 4 := by omega
    have ih := fun D N B => E_c11 (F := F) (P := P) hF (A := A) (p := p) (s := s) h5 h9 hm hx0 d (a + 1) n D N B (by omega) (by omega)
    rw [e_X8_common_11, if_neg (show ¬ (4 : Int32) ≤ nI a from fun q => by have := (nI_leI (a := 4) (by omega) (by omega)).mp q; omega), E_hasA h5 h9 hm (by omega), Option.bind_some]
    dsimp only
    rw [tKs] at h10
    rw [tKs]
    cases hb : m.testBit a
    · rw [if_pos (show bI false = 0 from rfl), e_X8_common_42, nI_1, if_neg (show ¬ false = true by decide)]
      rw [hb, if_neg (show ¬ false = true by decide)] at h10
      exact ih D N B h3 h4 (by omega) h6 h8 h10
    · rw [if_neg (show ¬ bI true = 0 by decide), if_pos (show true = true from rfl)]
      rw [hb, if_pos (show true = true from rfl)] at h10
      unfold f_X11_withAgents
      rw [Option.bind_some, a_bit a ha, wa_K a ha]
      dsimp only
      refine cR_b (E_make (P := P) hF (A := A) (s := 5) (m := 2 ^ a) (l := x) (r := nil) h3 h4 (by omega) (tmw_K ha hx0) (ckc_at h6 hx0) (Or.inl ⟨rfl, rfl⟩) (h10 _ (by simp)) h8) (fun v1 D1 N1 B1 g1 g2 g3 g4 => ?_) (fun v1 D1 N1 B1 g1 g2 => ?_)
      rotate_left
      · rw [e_X8_common_42, nI_1]
        exact E_c11G hF h5 h9 hm d (a + 1) n D1 N1 B1 (by omega) (by omega) g1 g2
      have o1 := mL_one g4
      obtain ⟨j, rfl, j2, j3, j4, j5, j6, j7, j8⟩ := g4
      rw [e_X8_common_42, nI_1]
      have r := ih D1 N1 B1 g1 g2 (by omega) (j3 p x h6) (fun y hy => by
        rcases (j4 y).mp hy with q | q
        · exact h8 y q
        · rw [q]; exact h10 _ (by simp)) (fun y hy => h10 y (by simp [hy]))
      rcases r with ⟨w, D2, N2, B2, e2, u1, u2, u3, u4, u5⟩ | r
      · exact Or.inl ⟨w, D2, N2, B2, e2, u1, u2, u3, u4, mL_app o1 u5⟩
      · exact Or.inr r
