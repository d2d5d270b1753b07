/-! decide: the class builds its terms -/
def cown (s m : Nat) (x : T) : List T := if s = 6 then [bn 4 0 x nil, bn 5 m (bn 4 0 x nil) nil, bn 4 0 (bn 5 m (bn 4 0 x nil) nil) nil] else if s = 7 then tall m x 4 0 nil else if s = 8 then bn 8 m x nil :: tKs m (bn 8 m x nil) 4 0 else [bn s m x nil]
def ctop (s m : Nat) (x : T) : T := if s = 6 then bn 4 0 (bn 5 m (bn 4 0 x nil) nil) nil else if s = 7 then tal m x 4 0 nil else bn s m x nil
def cw1 (s : Nat) : Nat := if s = 7 then 7 else if s = 8 then 5 else 1
def cw : T → Nat
  | .leaf => 0
  | .inner s _ _ l r => cw1 s + cw l + cw r
theorem cw1_le (s : Nat) : cw1 s ≤ 7 ∧ 1 ≤ cw1 s := by
  unfold cw1
  by_cases c : s = 7
  · rw [if_pos c]; omega
  · rw [if_neg c]
    by_cases c2 : s = 8
    · rw [if_pos c2]; omega
    · rw [if_neg c2]; omega
theorem cw_le : ∀ t : T, cw t ≤ 7 * sz t ∧ (plT t → cw t ≤ sz t)
  | .leaf => by simp [cw, sz]
  | .inner s m () l r => by
    have h1 := cw_le l
    have h2 := cw_le r
    have h3 : cw1 s ≤ 7 := (cw1_le s).1
    rw [cw, sz]
    refine ⟨by omega, fun h => ?_⟩
    have a1 := h1.2 h.2.1
    have a2 := h2.2 h.2.2
    have h4 : cw1 s = 1 := by
      have := h.1
      unfold cw1
      rw [if_neg (by omega), if_neg (by omega)]
    omega
theorem tal_1 {m : Nat} (h : m = 1 ∨ m = 2 ∨ m = 4 ∨ m = 8) (x : T) : tal m x 4 0 nil = bn 5 m x nil ∧ tall m x 4 0 nil = [bn 5 m x nil] := by
  rcases h with rfl | rfl | rfl | rfl <;> exact ⟨rfl, rfl⟩
def sQ (N B : List T) (L : List T) (y : T) (w : Nat) (v : Int32) (N' B' : List T) : Prop := ∃ j, v = nI j ∧ N'[j]? = some y ∧ ext N N' ∧ (∀ z, z ∈ N' ↔ z ∈ N ∨ z ∈ L) ∧ B.length ≤ B'.length ∧ N'.length ≤ N.length + w + 2 * (B'.length - B.length)
theorem sg_8 : ∀ m, m < 16 → nI (sgn 8 m) = 67 := by decide +kernel
theorem sg_6 : ∀ m, m < 16 → nI (sgn 6 m) = 80 := by decide +kernel
theorem sg_57 : ∀ m, m < 16 → nI (sgn 5 m) = 75 ∧ nI (sgn 7 m) = 69 := by decide +kernel
theorem E_sgl {F P : Nat} (hF : 100000 < F) {A : List T} {s m p : Nat} {x : T} (hs : 4 ≤ s ∧ s ≤ 8) (hmk : mOK s m) {D : xDt} {N B : List T} (h : cst D N B) (h9 : D.1 224 9 = 0) (hz : N.length + 8 ≤ 2400) (hp : N[p]? = some x) (hNA : ∀ y, y ∈ N → y ∈ A) (hA : ∀ y, y ∈ cown s m x → y ∈ A) : cR A D (f_X8_single F P xS0 224 (nI (tk s m)) (nI p) D) (fun w _ N' B' => sQ N B (cown s m x) (ctop s m x) (cw1 s) w N' B') := by
  have hm := m16 hmk
  have hx0 := cst_nn h hp
  rw [e_X8_single, E_signOf (by omega) hm, Option.bind_some]
  dsimp only
  by_cases c8 : s = 8
  · subst c8
    have e1 : cown 8 m x = bn 8 m x nil :: tKs m (bn 8 m x nil) 4 0 := rfl
    have e2 : ctop 8 m x = bn 8 m x nil := rfl
    rw [sg_8 m hm, if_pos rfl, e_X8_common, e1, e2]
    rw [e1] at hA
    have hC0 : bn 8 m x nil ≠ nil := fun q => nomatch q
    have key : cR A D ((f_X8_make F P xS0 224 (nI (tk 8 m)) (nI p) 0 D).bind fun q1 => f_X8_common_11 F P xS0 F 224 (nI (tk 8 m)) q1.1 0 q1.2) (fun w _ N' B' => sQ N B (bn 8 m x nil :: tKs m (bn 8 m x nil) 4 0) (bn 8 m x nil) (cw1 8) w N' B') := by
      refine cR_b (E_make (P := P) hF (A := A) (s := 8) (m := m) (l := x) (r := nil) h h9 (by omega) ⟨by omega, by omega, hmk, Or.inr (Or.inl ⟨by omega, by omega, hx0, rfl⟩)⟩ (ckc_at hp hx0) (Or.inl ⟨rfl, rfl⟩) (hA _ (by simp)) hNA) (fun v1 D1 N1 B1 g1 g2 g3 g4 => ?_) (fun v1 D1 N1 B1 g1 g2 => E_c11G hF (by omega) (by omega) hm 4 0 F D1 N1 B1 (by omega) (by omega) g1 g2)
      have o1 := mL_one g4
      obtain ⟨j, rfl, j2, j3, j4, j5, j6, j7, j8⟩ := g4
      have r := E_c11 (F := F) (P := P) hF (A := A) (s := 8) (m := m) (p := j) (x := bn 8 m x nil) (by omega) (by omega) hm hC0 4 0 F D1 N1 B1 (by omega) (by omega) g1 g2 (by omega) j2 (fun y hy => by
        rcases (j4 y).mp hy with q | q
        · exact hNA y q
        · rw [q]; exact hA _ (by simp)) (fun y hy => hA y (by simp [hy]))
      rcases r with ⟨w, D2, N2, B2, e2, u1, u2, u3, u4, u5⟩ | r
      · refine Or.inl ⟨w, D2, N2, B2, e2, u1, u2, u3, j, u4, u5.1 j _ j2, ?_⟩
        have o := mL_app o1 u5
        have hl := tKs_len (m := m) (x := bn 8 m x nil) 4 0
        have h3 := o.2.2.1
        rw [List.length_append, List.length_singleton] at h3
        have h4 := o.2.2.2.1
        refine ⟨o.1, fun z => by rw [o.2.1]; simp, h4, ?_⟩
        have : cw1 8 = 5 := rfl
        omega
      · exact Or.inr r
    exact cR_b key (fun v D1 N1 B1 g1 g2 g3 g4 => cR_some g1 g2 g4) (fun v D1 N1 B1 g1 g2 => gO_some g1 g2)
  by_cases c6 : s = 6
  · subst c6
    have hm1 : m = 1 ∨ m = 2 ∨ m = 4 ∨ m = 8 := by unfold mOK at hmk; omega
    have e1 : cown 6 m x = [bn 4 0 x nil, bn 5 m (bn 4 0 x nil) nil, bn 4 0 (bn 5 m (bn 4 0 x nil) nil) nil] := rfl
    have e2 : ctop 6 m x = bn 4 0 (bn 5 m (bn 4 0 x nil) nil) nil := rfl
    obtain ⟨t1, t2⟩ := tal_1 hm1 (bn 4 0 x nil)
    rw [sg_6 m hm, if_neg (by decide), if_pos rfl, e1, e2]
    rw [e1] at hA
    have m40 : mOK 4 0 := Or.inr (Or.inl ⟨by omega, rfl⟩)
    have hn0 : bn 4 0 x nil ≠ nil := fun q => nomatch q
    have hk0 : bn 5 m (bn 4 0 x nil) nil ≠ nil := fun q => nomatch q
    refine cR_b (E_make (P := P) hF (A := A) (s := 4) (m := 0) (l := x) (r := nil) h h9 (by omega) ⟨by omega, by omega, m40, Or.inr (Or.inl ⟨by omega, by omega, hx0, rfl⟩)⟩ (ckc_at hp hx0) (Or.inl ⟨rfl, rfl⟩) (hA _ (by simp)) hNA) (fun v1 D1 N1 B1 g1 g2 g3 g4 => ?_) (fun v1 D1 N1 B1 g1 g2 => ?_)
    rotate_left
    · dsimp only
      rw [e_X8_everyone]
      refine gO_b (E_ev5G hF (s := 6) (by omega) (by omega) hm 4 0 F (-1) D1 N1 B1 (by omega) (by omega) g1 g2) (fun v2 D2 N2 B2 u1 u2 => gO_b (E_makeG hF u1 u2) (fun v3 D3 N3 B3 z1 z2 => gO_some z1 z2))
    have o1 := mL_one g4
    obtain ⟨j, rfl, j2, j3, j4, j5, j6, j7, j8⟩ := g4
    have hNA1 : ∀ y, y ∈ N1 → y ∈ A := fun y hy => by
      rcases (j4 y).mp hy with q | q
      · exact hNA y q
      · rw [q]; exact hA _ (by simp)
    dsimp only
    rw [e_X8_everyone]
    have r := E_ev5 (F := F) (P := P) hF (A := A) (s := 6) (m := m) (p := j) (x := bn 4 0 x nil) (by omega) (by omega) hm hn0 4 0 F nil (-1) D1 N1 B1 (by omega) (by omega) g1 g2 (by rw [t2, List.length_singleton]; omega) j2 (Or.inl ⟨rfl, rfl⟩) hNA1 (fun y hy => hA y (by rw [t2, List.mem_singleton] at hy; rw [hy]; simp))
    rw [t1, t2] at r
    refine cR_b r (fun v2 D2 N2 B2 u1 u2 u3 u4 => ?_) (fun v2 D2 N2 B2 u1 u2 => gO_b (E_makeG hF u1 u2) (fun v3 D3 N3 B3 z1 z2 => gO_some z1 z2))
    obtain ⟨k, hk, k2⟩ := u4.1 hk0
    have o2 := u4.2
    subst hk
    have hNA2 : ∀ y, y ∈ N2 → y ∈ A := fun y hy => by
      rcases (o2.2.1 y).mp hy with q | q
      · exact hNA1 y q
      · rw [List.mem_singleton] at q; rw [q]; exact hA _ (by simp)
    have hl2 := o2.2.2.1
    rw [List.length_singleton] at hl2
    refine cR_b (E_make (P := P) hF (A := A) (s := 4) (m := 0) (l := bn 5 m (bn 4 0 x nil) nil) (r := nil) u1 u2 (by omega) ⟨by omega, by omega, m40, Or.inr (Or.inl ⟨by omega, by omega, hk0, rfl⟩)⟩ (ckc_at k2 hk0) (Or.inl ⟨rfl, rfl⟩) (hA _ (by simp)) hNA2) (fun v3 D3 N3 B3 z1 z2 z3 z4 => ?_) (fun v3 D3 N3 B3 z1 z2 => gO_some z1 z2)
    have o3 := mL_one z4
    obtain ⟨q, rfl, q2, q3, q4, q5, q6, q7, q8⟩ := z4
    have o := mL_app o1 (mL_app o2 o3)
    refine cR_some z1 z2 ⟨q, rfl, q2, o.1, o.2.1, o.2.2.2.1, ?_⟩
    have w1 : cw1 6 = 1 := rfl
    have b1 := o1.2.2.2.1
    have b2 := o2.2.2.2.1
    have b3 := o3.2.2.2.1
    have l1 := o1.2.2.1
    rw [List.length_singleton] at l1
    by_cases cK : bn 5 m (bn 4 0 x nil) nil ∈ N1
    · obtain ⟨r1, r2⟩ := o2.2.2.2.2.1 (fun y hy => by rw [List.mem_singleton] at hy; rw [hy]; exact cK)
      have hKN : bn 5 m (bn 4 0 x nil) nil ∈ N := by
        rcases (j4 _).mp cK with q | q
        · exact q
        · injection q with q1; exact absurd q1 (by omega)
      obtain ⟨i, hi⟩ := List.mem_iff_getElem?.mp hKN
      have hc := (h.1.2.2.2.1 i _ hi).2.2.1
      have hin : bn 4 0 x nil ∈ N := by
        rcases hc with ⟨q, _⟩ | ⟨_, i', _, hi', _⟩
        · exact absurd q hn0
        · exact List.mem_of_getElem? hi'
      obtain ⟨r3, r4⟩ := j7 hin
      rw [r1] at q5
      rw [r3] at q5
      omega
    · have := o2.2.2.2.2.2 ⟨_, List.mem_singleton.mpr rfl, rfl, cK⟩
      omega
  by_cases c4 : s = 4
  · subst c4
    have hm0 : m = 0 := by unfold mOK at hmk; omega
    subst hm0
    have e1 : cown 4 0 x = [bn 4 0 x nil] := rfl
    have e2 : ctop 4 0 x = bn 4 0 x nil := rfl
    rw [show nI (sgn 4 0) = 126 by decide, if_neg (by decide), if_neg (by decide), if_pos rfl, e1, e2]
    rw [e1] at hA
    refine cR_b (E_make (P := P) hF (A := A) (s := 4) (m := 0) (l := x) (r := nil) h h9 (by omega) ⟨by omega, by omega, hmk, Or.inr (Or.inl ⟨by omega, by omega, hx0, rfl⟩)⟩ (ckc_at hp hx0) (Or.inl ⟨rfl, rfl⟩) (hA _ (by simp)) hNA) (fun v1 D1 N1 B1 g1 g2 g3 g4 => ?_) (fun v1 D1 N1 B1 g1 g2 => gO_some g1 g2)
    obtain ⟨j, rfl, j2, j3, j4, j5, j6, j7, j8⟩ := g4
    refine cR_some g1 g2 ⟨j, rfl, j2, j3, fun z => by rw [j4]; simp, j6, ?_⟩
    have : cw1 4 = 1 := rfl
    omega
  have hs57 : s = 5 ∨ s = 7 := by omega
  have hsg : ¬ nI (sgn s m) = 67 ∧ ¬ nI (sgn s m) = 80 ∧ ¬ nI (sgn s m) = 126 := by
    rcases hs57 with rfl | rfl
    · rw [(sg_57 m hm).1]; decide
    · rw [(sg_57 m hm).2]; decide
  rw [if_neg hsg.1, if_neg hsg.2.1, if_neg hsg.2.2]
  have e1 : cown s m x = tall m x 4 0 nil ∧ ctop s m x = tal m x 4 0 nil ∧ tal m x 4 0 nil ≠ nil ∧ (tall m x 4 0 nil).length ≤ cw1 s := by
    rcases hs57 with rfl | rfl
    · obtain ⟨t1, t2⟩ := tal_1 (m := m) (by unfold mOK at hmk; omega) x
      rw [t1, t2]
      exact ⟨rfl, rfl, fun q => (nomatch q), Nat.le_refl _⟩
    · refine ⟨rfl, rfl, tal_nn 4 0 nil (Or.inr (m_has m (by unfold mOK at hmk; omega) hm)), ?_⟩
      have := (tall_len (m := m) (x := x) 4 0 nil).2 rfl
      have h7 : cw1 7 = 7 := rfl
      omega
  rw [e1.1, e1.2.1]
  rw [e1.1] at hA
  rw [e_X8_everyone]
  have hw7 : cw1 s ≤ 7 := (cw1_le s).1
  refine cR_b (E_ev5 (F := F) (P := P) hF (A := A) (s := s) (m := m) (p := p) (x := x) (by omega) (by omega) hm hx0 4 0 F nil (-1) D N B (by omega) (by omega) h h9 (by omega) hp (Or.inl ⟨rfl, rfl⟩) hNA hA) (fun v2 D2 N2 B2 u1 u2 u3 u4 => ?_) (fun v2 D2 N2 B2 u1 u2 => gO_some u1 u2)
  obtain ⟨k, hk, k2⟩ := u4.1 e1.2.2.1
  have o2 := u4.2
  subst hk
  refine cR_some u1 u2 ⟨k, rfl, k2, o2.1, o2.2.1, o2.2.2.2.1, ?_⟩
  have := o2.2.2.1
  omega
