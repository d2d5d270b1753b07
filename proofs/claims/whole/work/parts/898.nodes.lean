/-! the reference's NODES: made, copied, moved -/
def ndD (D : xDt) (top : Nat) (s l r m n : Int32) : xDt := (xup (xup (xup (xup (xup (xup D.1 247 top s) 248 top l) 249 top r) 250 top m) 251 top n) 241 13 (nI (top + 1)), D.2)
theorem ndD_o {D : xDt} {top : Nat} {s l r m n : Int32} {x j : Nat} (hx : x ≠ 241) (hj : j ≠ top) : (ndD D top s l r m n).1 x j = D.1 x j := by
  unfold ndD
  dsimp only
  rw [xup_na _ _ _ _ _ hx, xup_nk _ _ _ _ _ hj, xup_nk _ _ _ _ _ hj, xup_nk _ _ _ _ _ hj, xup_nk _ _ _ _ _ hj, xup_nk _ _ _ _ _ hj]
theorem ndD_x {D : xDt} {top : Nat} {s l r m n : Int32} {x : Nat} (hx : x ≠ 241) (h : x < 247 ∨ 251 < x) : (ndD D top s l r m n).1 x = D.1 x := by
  unfold ndD
  dsimp only
  rw [xup_ne _ _ _ _ hx, xup_ne _ _ _ _ (by omega), xup_ne _ _ _ _ (by omega), xup_ne _ _ _ _ (by omega), xup_ne _ _ _ _ (by omega), xup_ne _ _ _ _ (by omega)]
theorem ndD_241 {D : xDt} {top : Nat} {s l r m n : Int32} {j : Nat} (hj : j ≠ 13) : (ndD D top s l r m n).1 241 j = D.1 241 j := by
  unfold ndD
  dsimp only
  rw [xup_nk _ _ _ _ _ hj, xup_na _ _ _ _ _ (by omega), xup_na _ _ _ _ _ (by omega), xup_na _ _ _ _ _ (by omega), xup_na _ _ _ _ _ (by omega), xup_na _ _ _ _ _ (by omega)]
theorem ndD_13 {D : xDt} {top : Nat} {s l r m n : Int32} : (ndD D top s l r m n).1 241 13 = nI (top + 1) := by
  unfold ndD
  dsimp only
  rw [xup_at]
theorem ndD_t {D : xDt} {top : Nat} {s l r m n : Int32} : (ndD D top s l r m n).1 247 top = s ∧ (ndD D top s l r m n).1 248 top = l ∧ (ndD D top s l r m n).1 249 top = r ∧ (ndD D top s l r m n).1 250 top = m ∧ (ndD D top s l r m n).1 251 top = n := by
  unfold ndD
  dsimp only
  refine ⟨?_, ?_, ?_, ?_, ?_⟩
  · rw [xup_na _ _ _ _ _ (by omega), xup_na _ _ _ _ _ (by omega), xup_na _ _ _ _ _ (by omega), xup_na _ _ _ _ _ (by omega), xup_na _ _ _ _ _ (by omega), xup_at]
  · rw [xup_na _ _ _ _ _ (by omega), xup_na _ _ _ _ _ (by omega), xup_na _ _ _ _ _ (by omega), xup_na _ _ _ _ _ (by omega), xup_at]
  · rw [xup_na _ _ _ _ _ (by omega), xup_na _ _ _ _ _ (by omega), xup_na _ _ _ _ _ (by omega), xup_at]
  · rw [xup_na _ _ _ _ _ (by omega), xup_na _ _ _ _ _ (by omega), xup_at]
  · rw [xup_na _ _ _ _ _ (by omega), xup_at]
/-- a part: none, or the place of one of so many NODES -/
def kd (f : Nat → Nat → Int32) (x : Int32) (a : Nat) : Prop := (x = -2 ∧ a = 0) ∨ ∃ j, j < 92800 ∧ x = nI j ∧ f 251 j = nI a
theorem E_node {F P : Nat} {D : xDt} {top a b : Nat} {s l r m : Int32} (ht : top < 92800) (h13 : D.1 241 13 = nI top) (hl : kd D.1 l a) (hr : kd D.1 r b) (hab : a + b < 1000000) : f_X12_node F P xS0 241 s l r m D = some (nI top, ndD D top s l r m (nI (1 + a + b))) := by
  rw [e_X12_node, h13, xgrd_in ht (by omega), nI_clamp (by omega)]
  simp only [xlet]
  rw [xup_na _ _ _ _ _ (show 241 ≠ 247 by omega), h13, xgrd_in ht (by omega), nI_clamp (by omega), xup_na _ _ _ _ _ (show 241 ≠ 248 by omega), xup_na _ _ _ _ _ (show 241 ≠ 247 by omega), h13, xgrd_in ht (by omega), nI_clamp (by omega), xup_na _ _ _ _ _ (show 241 ≠ 249 by omega), xup_na _ _ _ _ _ (show 241 ≠ 248 by omega), xup_na _ _ _ _ _ (show 241 ≠ 247 by omega), h13, xgrd_in ht (by omega), nI_clamp (by omega)]
  generalize hf : xup (xup (xup (xup D.1 247 top s) 248 top l) 249 top r) 250 top m = f
  have f251 : ∀ j, f 251 j = D.1 251 j := fun j => by rw [← hf, xup_na _ _ _ _ _ (by omega), xup_na _ _ _ _ _ (by omega), xup_na _ _ _ _ _ (by omega), xup_na _ _ _ _ _ (by omega)]
  have f241 : f 241 13 = nI top := by rw [← hf, xup_na _ _ _ _ _ (by omega), xup_na _ _ _ _ _ (by omega), xup_na _ _ _ _ _ (by omega), xup_na _ _ _ _ _ (by omega)]; exact h13
  have h71 : ∀ x y : Nat, x + y = 1 + a + b → f_X12_node_71 F P xS0 241 (nI y) (nI x) (f, D.2) = some (nI top, ndD D top s l r m (nI (1 + a + b))) := by
    intro x y hxy
    rw [e_X12_node_71, nI_add, hxy]
    simp only [xlet]
    rw [if_pos (show nI (1 + a + b) ≤ 1000000 from (nI_leI (b := 1000000) (by omega) (by omega)).mpr (by omega)), e_X12_node_96, show xl xS0 251 = 92800 by decide +kernel]
    dsimp only
    rw [f241, xgrd_in ht (by omega), nI_clamp (by omega)]
    simp only [xlet]
    rw [xup_na _ _ _ _ _ (show 241 ≠ 251 by omega), f241, xup_at, nI_1, nI_s1 (by omega), Nat.add_sub_cancel]
    unfold ndD
    rw [hf]
  have h56 : ∀ x : Nat, x = 1 + a → f_X12_node_56 F P xS0 241 r (nI a) (nI 1) (f, D.2) = some (nI top, ndD D top s l r m (nI (1 + a + b))) := by
    intro x hx
    rw [e_X12_node_56, nI_add]
    rcases hr with ⟨rfl, rfl⟩ | ⟨j, hj, rfl, hb⟩
    · rw [if_neg (by decide)]
      exact h71 (1 + a) 0 rfl
    · rw [if_pos (nI_pos' (by omega)), xgrd_in hj (by omega), nI_clamp (by omega)]
      dsimp only
      rw [f251, hb]
      exact h71 (1 + a) b rfl
  rcases hl with ⟨rfl, rfl⟩ | ⟨j, hj, rfl, ha⟩
  · rw [if_neg (by decide)]
    exact h56 1 rfl
  · rw [if_pos (nI_pos' (by omega)), xgrd_in hj (by omega), nI_clamp (by omega), f251, ha]
    exact h56 (1 + a) rfl
/-- NODES from a up to b are new -/
def cpd (D D' : xDt) (a b : Nat) : Prop := ch [241, 247, 248, 249, 250, 251] [] D D' ∧ (∀ j, j ≠ 13 → D'.1 241 j = D.1 241 j) ∧ D'.1 241 13 = nI b ∧ ∀ x, x ≠ 241 → ∀ j, (j < a ∨ b ≤ j) → D'.1 x j = D.1 x j
theorem cpd_trans {D D' D'' : xDt} {a b c : Nat} (hab : a ≤ b) (hbc : b ≤ c) (h : cpd D D' a b) (h' : cpd D' D'' b c) : cpd D D'' a c := ⟨ch_trans h.1 h'.1, fun j hj => (h'.2.1 j hj).trans (h.2.1 j hj), h'.2.2.1, fun x hx j hj => (h'.2.2.2 x hx j (by omega)).trans (h.2.2.2 x hx j (by omega))⟩
theorem cpd_node {D : xDt} {top : Nat} {s l r m n : Int32} : cpd D (ndD D top s l r m n) top (top + 1) := by
  refine ⟨⟨fun x hx => ?_, fun x _ => rfl⟩, fun j hj => ndD_241 hj, ndD_13, fun x hx j hj => ndD_o hx (by omega)⟩
  simp only [List.mem_cons, List.not_mem_nil, or_false, not_or] at hx
  exact ndD_x hx.1 (by omega)
theorem cpd_rfl {D : xDt} {a : Nat} (h : D.1 241 13 = nI a) : cpd D D a a := ⟨ch_rfl _ _ _, fun _ _ => rfl, h, fun _ _ _ _ => rfl⟩
theorem nd_cpd {D D' : xDt} {a b lo : Nat} {t : T} {i : Nat} (h : cpd D D' a b) (hi : i < a) (hd : nd D.1 lo t i) : nd D'.1 lo t i := nd_congr (fun x hx hx2 j _ hj => h.2.2.2 x (by omega) j (by omega)) hd
theorem E_copied {F P : Nat} {lo : Nat} : ∀ (t : T) (i n top : Nat) (D : xDt), wfT t → nd D.1 lo t i → D.1 241 13 = nI top → i < top → top + sz t ≤ 92800 → sz t < n → oK (f_X12_copied F P xS0 n 241 (nI i) D) (fun r => r.1 = nI (top + sz t - 1) ∧ cpd D r.2 top (top + sz t) ∧ nd r.2.1 top t (top + sz t - 1))
  | .leaf, _, _, _, _, h, _, _, _, _, _ => absurd h (by simp [wfT])
  | .inner s m () l r, i, 0, _, _, _, _, _, _, _, h => absurd h (by omega)
  | .inner s m () l r, i, n + 1, top, D, hw, hd, h13, hit, htop, hs => by
    obtain ⟨w1, w2, w3, w4⟩ := hw
    obtain ⟨d1, d2, d3, d4, d5, d6, d7⟩ := hd
    have hi : xin (nI i) 92800 = true := xin_nI d2 (by omega)
    have hc : (nI i).toNatClampNeg = i := nI_clamp (by omega)
    rw [sz] at hs htop
    show oK (f_X12_copied_o F P xS0 (f_X12_copied F P xS0 n) 241 (nI i) D) _
    -- the NODE itself, behind its parts
    have fin : ∀ (D2 : xDt) (xl_ xr_ : Int32), cpd D D2 top (top + sz l + sz r) → kd D2.1 xl_ (sz l) → kd D2.1 xr_ (sz r) → ((l = nil ∧ xl_ = -2) ∨ ∃ j, j < top + sz l + sz r ∧ xl_ = nI j ∧ nd D2.1 top l j) → ((r = nil ∧ xr_ = -2) ∨ ∃ j, j < top + sz l + sz r ∧ xr_ = nI j ∧ nd D2.1 top r j) → oK (f_X12_copied_49 F P xS0 (f_X12_copied F P xS0 n) 241 (nI i) xl_ xr_ D2) (fun q => q.1 = nI (top + sz (bn s m l r) - 1) ∧ cpd D q.2 top (top + sz (bn s m l r)) ∧ nd q.2.1 top (bn s m l r) (top + sz (bn s m l r) - 1)) := by
      intro D2 xl_ xr_ hc2 hkl hkr hnl hnr
      rw [e_X12_copied_49, hi, hc, xgrd_t, xgrd_t, hc2.2.2.2 247 (by omega) i (by omega), d3, hc2.2.2.2 250 (by omega) i (by omega), d4, E_node (by omega) hc2.2.2.1 hkl hkr (by omega), Option.bind_some]
      have e : top + sz (bn s m l r) = top + sz l + sz r + 1 := by rw [sz]; omega
      rw [e, Nat.add_sub_cancel]
      refine oK_some ⟨rfl, cpd_trans (by omega) (by omega) hc2 cpd_node, ?_⟩
      dsimp only
      obtain ⟨z1, z2, z3, z4, z5⟩ := @ndD_t D2 (top + sz l + sz r) (nI s) xl_ xr_ (nI m) (nI (1 + sz l + sz r))
      refine ⟨by omega, by omega, z1, z4, z5, ?_, ?_⟩
      · rcases hnl with ⟨e1, e2⟩ | ⟨j, hj, e2, hn⟩
        · exact Or.inl ⟨e1, by rw [z2]; exact e2⟩
        · exact Or.inr ⟨j, hj, by rw [z2]; exact e2, nd_congr (fun x hx hx2 k _ hk => ndD_o (by omega) (by omega)) hn⟩
      · rcases hnr with ⟨e1, e2⟩ | ⟨j, hj, e2, hn⟩
        · exact Or.inl ⟨e1, by rw [z3]; exact e2⟩
        · exact Or.inr ⟨j, hj, by rw [z3]; exact e2, nd_congr (fun x hx hx2 k _ hk => ndD_o (by omega) (by omega)) hn⟩
    -- the second part
    have sec : ∀ (D1 : xDt) (xl_ : Int32), cpd D D1 top (top + sz l) → kd D1.1 xl_ (sz l) → ((l = nil ∧ xl_ = -2) ∨ ∃ j, j < top + sz l ∧ xl_ = nI j ∧ nd D1.1 top l j) → oK (f_X12_copied_24 F P xS0 (f_X12_copied F P xS0 n) 241 (nI i) xl_ D1) (fun q => q.1 = nI (top + sz (bn s m l r) - 1) ∧ cpd D q.2 top (top + sz (bn s m l r)) ∧ nd q.2.1 top (bn s m l r) (top + sz (bn s m l r) - 1)) := by
      intro D1 xl_ hc1 hkl hnl
      rw [e_X12_copied_24, hi, hc, xgrd_t, xgrd_t, hc1.2.2.2 249 (by omega) i (by omega)]
      rcases d7 with ⟨e1, e2⟩ | ⟨j, hj, e2, hn⟩
      · rw [e2, if_neg (by decide)]
        have z0 : sz r = 0 := by rw [e1]; rfl
        refine fin D1 xl_ (-2) (by rw [z0]; exact hc1) hkl (Or.inl ⟨rfl, z0⟩) ?_ (Or.inl ⟨e1, rfl⟩)
        rcases hnl with h | ⟨j, hj, h⟩
        · exact Or.inl h
        · exact Or.inr ⟨j, by omega, h⟩
      · rw [e2, if_pos (nI_pos' (by omega))]
        have wr : wfT r := by
          rcases w4 with h | h | h
          · rw [h.2.2] at hn; exact absurd hn (by simp [nd])
          · rw [h.2.2.2] at hn; exact absurd hn (by simp [nd])
          · exact h.2.2
        have hpos := sz_pos wr
        refine oK_bind (E_copied r j n (top + sz l) D1 wr (nd_cpd hc1 (by omega) hn) hc1.2.2.1 (by omega) (by omega) (by omega)) ?_
        rintro ⟨x, D2⟩ ⟨y1, y2, y3⟩
        dsimp only at y1 y2 y3
        subst y1
        refine fin D2 xl_ _ (cpd_trans (by omega) (by omega) hc1 y2) ?_ ?_ ?_ ?_
        · rcases hkl with h | ⟨j', h1, h2, h3⟩
          · exact Or.inl h
          · rcases hnl with ⟨h4, h5⟩ | ⟨j2, h4, h5, h6⟩
            · rw [h5] at h2
              exact absurd h2 (fun c => by
                have := nI_pos' (n := j') (by omega)
                rw [← c] at this
                exact absurd this (by decide))
            · refine Or.inr ⟨j2, by omega, h5, ?_⟩
              rw [y2.2.2.2 251 (by omega) j2 (by omega)]
              exact nd_sz h6
        · exact Or.inr ⟨_, by omega, rfl, nd_sz y3⟩
        · rcases hnl with h | ⟨j2, h4, h5, h6⟩
          · exact Or.inl h
          · exact Or.inr ⟨j2, by omega, h5, nd_cpd y2 (by omega) h6⟩
        · exact Or.inr ⟨_, by omega, rfl, nd_lo (by omega) y3⟩
    rw [e_X12_copied_o, hi, hc, xgrd_t, xgrd_t]
    rcases d6 with ⟨e1, e2⟩ | ⟨j, hj, e2, hn⟩
    · rw [e2, if_neg (by decide)]
      have z0 : sz l = 0 := by rw [e1]; rfl
      exact sec D (-2) (by rw [z0]; exact cpd_rfl h13) (Or.inl ⟨rfl, z0⟩) (Or.inl ⟨e1, rfl⟩)
    · rw [e2, if_pos (nI_pos' (by omega))]
      have wl : wfT l := by
        rcases w4 with h | h | h
        · rw [h.2.1] at hn; exact absurd hn (by simp [nd])
        · exact h.2.2.1
        · exact h.2.1
      have hpos := sz_pos wl
      refine oK_bind (E_copied l j n top D wl hn h13 (by omega) (by omega) (by omega)) ?_
      rintro ⟨x, D1⟩ ⟨y1, y2, y3⟩
      dsimp only at y1 y2 y3
      subst y1
      exact sec D1 _ y2 (Or.inr ⟨_, by omega, rfl, nd_sz y3⟩) (Or.inr ⟨_, by omega, rfl, y3⟩)
/-- n NODES from q on lie from p on, too -/
def rl (D D' : xDt) (q p n : Nat) : Prop := (∀ k, k < n → D'.1 247 (p + k) = D.1 247 (q + k) ∧ D'.1 250 (p + k) = D.1 250 (q + k) ∧ D'.1 251 (p + k) = D.1 251 (q + k) ∧ (D.1 248 (q + k) = -2 → D'.1 248 (p + k) = -2) ∧ (∀ j, q ≤ j → j < 92800 → D.1 248 (q + k) = nI j → D'.1 248 (p + k) = nI (j - q + p)) ∧ (D.1 249 (q + k) = -2 → D'.1 249 (p + k) = -2) ∧ (∀ j, q ≤ j → j < 92800 → D.1 249 (q + k) = nI j → D'.1 249 (p + k) = nI (j - q + p))) ∧ ∀ x j, (j < p ∨ p + n ≤ j) → D'.1 x j = D.1 x j
theorem nd_rel {D D' : xDt} {q p n : Nat} (h : rl D D' q p n) (hp : p + n ≤ 92800) : ∀ (t : T) (i : Nat), i < n → nd D.1 q t (q + i) → nd D'.1 p t (p + i)
  | .leaf, _, _, hd => absurd hd (by simp [nd])
  | .inner s m () l r, i, hi, hd => by
    obtain ⟨d1, d2, d3, d4, d5, d6, d7⟩ := hd
    obtain ⟨z1, z2, z3, z4, z5, z6, z7⟩ := h.1 i hi
    refine ⟨by omega, by omega, by rw [z1]; exact d3, by rw [z2]; exact d4, by rw [z3]; exact d5, ?_, ?_⟩
    · rcases d6 with ⟨e1, e2⟩ | ⟨j, hj, e2, hn⟩
      · exact Or.inl ⟨e1, z4 e2⟩
      · have hg := nd_ge hn
        refine Or.inr ⟨p + (j - q), by omega, ?_, nd_rel h hp l (j - q) (by omega) (by rw [show q + (j - q) = j by omega]; exact hn)⟩
        rw [z5 j hg.1 hg.2 e2, Nat.add_comm]
    · rcases d7 with ⟨e1, e2⟩ | ⟨j, hj, e2, hn⟩
      · exact Or.inl ⟨e1, z6 e2⟩
      · have hg := nd_ge hn
        refine Or.inr ⟨p + (j - q), by omega, ?_, nd_rel h hp r (j - q) (by omega) (by rw [show q + (j - q) = j by omega]; exact hn)⟩
        rw [z7 j hg.1 hg.2 e2, Nat.add_comm]
