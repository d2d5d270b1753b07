/-! reduce: the reference -/
theorem bind_eta {α β : Type} (o : Option (α × β)) : (o.bind fun q => some (q.1, q.2)) = o := by cases o <;> rfl
def rfr (D D' : xDt) (z : Nat) : Prop := ch [241, 247, 248, 249, 250, 251] [] D D' ∧ (∀ j, j ≠ 13 → j ≠ 36 → D'.1 241 j = D.1 241 j) ∧ ∀ x, x ≠ 241 → ∀ j, j < z → D'.1 x j = D.1 x j
theorem rfr_rfl (D : xDt) (z : Nat) : rfr D D z := ⟨ch_rfl _ _ _, fun _ _ _ => rfl, fun _ _ _ _ => rfl⟩
theorem rfr_trans {D D' D'' : xDt} {z z' : Nat} (hz : z ≤ z') (h : rfr D D' z) (h' : rfr D' D'' z') : rfr D D'' z := ⟨ch_trans h.1 h'.1, fun j a b => (h'.2.1 j a b).trans (h.2.1 j a b), fun x hx j hj => (h'.2.2 x hx j (by omega)).trans (h.2.2 x hx j hj)⟩
theorem rfr_36 {D D' : xDt} {z : Nat} {v : Int32} (h : rfr D D' z) : rfr D (xup D'.1 241 36 v, D'.2) z := ⟨ch_i (by simp) h.1, fun i a b => by dsimp only; rw [xup_nk _ _ _ _ _ b]; exact h.2.1 i a b, fun x hx i hi => by dsimp only; rw [xup_na _ _ _ _ _ hx]; exact h.2.2 x hx i hi⟩
def GS (D0 D : xDt) (z0 W : Nat) (S : Prop) (G : Nat → Prop) : Prop := rfr D0 D z0 ∧ ((D.1 241 36 = 1 ∧ (S → 92800 < z0 + W)) ∨ (D.1 241 36 = 0 ∧ ∃ z', D.1 241 13 = nI z' ∧ z0 ≤ z' ∧ z' ≤ z0 + W ∧ z' ≤ 92800 ∧ G z'))
/-- a tree that is laid below z -/
def lat (D : xDt) (z : Nat) (t : T) (x : Int32) : Prop := ∃ j, x = nI j ∧ j < z ∧ nd D.1 12800 t j ∧ sz t ≤ 2000
theorem lat_fr {D D' : xDt} {z z' : Nat} {t : T} {x : Int32} (h : lat D z t x) (hf : rfr D D' z) (hz : z ≤ z') : lat D' z' t x := by
  obtain ⟨j, h1, h2, h3, h4⟩ := h
  exact ⟨j, h1, by omega, nd_congr (fun a ha hb k _ hk => hf.2.2 a (by omega) k (by omega)) h3, h4⟩
def lan (D : xDt) (z : Nat) (t : T) (x : Int32) : Prop := (t = nil ∧ x = -2) ∨ lat D z t x
def PQ (D0 : xDt) (z0 W : Nat) (t : T) (u : Int32 × xDt) : Prop := GS D0 u.2 z0 W (sz t ≤ 2000) (fun z' => lat u.2 z' t u.1)
theorem GS_of {D0 : xDt} {z0 W W' : Nat} {t : T} {u : Int32 × xDt} {S : Prop} {G : Nat → Prop} (h : PQ D0 z0 W t u) (hW : W ≤ W') (hS : S → sz t ≤ 2000) (hG : ∀ z', z0 ≤ z' → rfr D0 u.2 z0 → lat u.2 z' t u.1 → G z') : GS D0 u.2 z0 W' S G := by
  obtain ⟨h1, ⟨h2, h3⟩ | ⟨h2, z', h3, h4, h5, h6, h7⟩⟩ := h
  · exact ⟨h1, Or.inl ⟨h2, fun q => by have := h3 (hS q); omega⟩⟩
  · exact ⟨h1, Or.inr ⟨h2, z', h3, h4, by omega, h6, hG z' h4 h1 h7⟩⟩
theorem n92800 : (92800 : Int32) = nI 92800 := rfl
theorem E_made {F P z0 W s m : Nat} {D0 D : xDt} {tl tr : T} {l r : Int32} (hz0 : 12800 ≤ z0) (h : GS D0 D z0 W (sz (bn s m tl tr) ≤ 2000) (fun z' => lan D z' tl l ∧ lan D z' tr r)) : oK (f_X12_made F P xS0 241 (nI s) l r (nI m) D) (PQ D0 z0 (W + 1) (bn s m tl tr)) := by
  obtain ⟨h1, ⟨h2, h3⟩ | ⟨h2, z', h3, h4, h5, h6, h7, h8⟩⟩ := h
  · rw [e_X12_made, h2, if_neg (by decide)]
    exact oK_some ⟨rfr_36 h1, Or.inl ⟨by dsimp only; rw [xup_at], fun q => by have := h3 q; omega⟩⟩
  · rw [e_X12_made, h2, if_pos rfl, h3]
    by_cases c : z' = 92800
    · rw [if_pos (by rw [c]; rfl)]
      exact oK_some ⟨rfr_36 h1, Or.inl ⟨by dsimp only; rw [xup_at], fun _ => by omega⟩⟩
    · rw [if_neg (show ¬ nI z' = 92800 from fun q => c ((nI_eq (b := 92800) (by omega) (by omega)).mp q))]
      have kk : ∀ {t x}, lan D z' t x → kd D.1 x (sz t) ∧ sz t ≤ 2000 := fun {t x} q => by
        rcases q with ⟨rfl, rfl⟩ | ⟨i, rfl, q1, q2, q3⟩
        · exact ⟨Or.inl ⟨rfl, rfl⟩, by rw [sz]; omega⟩
        · exact ⟨Or.inr ⟨i, (nd_ge q2).2, rfl, nd_sz q2⟩, q3⟩
      obtain ⟨kl, sl⟩ := kk h7
      obtain ⟨kr, sr⟩ := kk h8
      have cp := cpd_node (D := D) (top := z') (s := nI s) (l := l) (r := r) (m := nI m) (n := nI (1 + sz tl + sz tr))
      obtain ⟨t1, t2, t3, t4, t5⟩ := ndD_t (D := D) (top := z') (s := nI s) (l := l) (r := r) (m := nI m) (n := nI (1 + sz tl + sz tr))
      rw [E_node (by omega) h3 kl kr (by omega), Option.bind_some]
      dsimp only
      rw [xgrd_in (by omega) (by omega), nI_clamp (by omega), t5]
      generalize ndD D z' (nI s) l r (nI m) (nI (1 + sz tl + sz tr)) = D1 at cp t1 t2 t3 t4 t5 ⊢
      have f1 : rfr D0 D1 z0 := rfr_trans h4 h1 ⟨cp.1, fun j a _ => cp.2.1 j a, fun x hx j hj => cp.2.2.2 x hx j (by omega)⟩
      by_cases c2 : 1 + sz tl + sz tr ≤ 2000
      · rw [if_pos (show nI (1 + sz tl + sz tr) ≤ 2000 from (nI_leI (b := 2000) (by omega) (by omega)).mpr c2)]
        refine oK_some ⟨rfr_36 f1, Or.inr ⟨by dsimp only; rw [xup_at], z' + 1, by dsimp only; rw [xup_nk _ _ _ _ _ (by omega)]; exact cp.2.2.1, by omega, by omega, by omega, z', rfl, by omega, ?_, by rw [sz]; exact c2⟩⟩
        show nd (xup D1.1 241 36 0) 12800 (bn s m tl tr) z'
        have hsub : ∀ {t x}, lan D z' t x → (t = nil ∧ x = -2) ∨ ∃ j, j < z' ∧ x = nI j ∧ nd (xup D1.1 241 36 0) 12800 t j := fun {t x} q => by
          rcases q with q | ⟨i, q0, q1, q2, q3⟩
          · exact Or.inl q
          · exact Or.inr ⟨i, q1, q0, nd_congr (fun a ha hb k _ _ => by rw [xup_na _ _ _ _ _ (by omega)]) (nd_cpd cp q1 q2)⟩
        have x1 : ∀ x, x ≠ 241 → xup D1.1 241 36 0 x z' = D1.1 x z' := fun x hx => by rw [xup_na _ _ _ _ _ hx]
        refine ⟨by omega, by omega, by rw [x1 247 (by omega)]; exact t1, by rw [x1 250 (by omega)]; exact t4, by rw [x1 251 (by omega)]; exact t5, ?_, ?_⟩
        · rcases hsub h7 with ⟨q1, q2⟩ | ⟨j, q1, q2, q3⟩
          · exact Or.inl ⟨q1, by rw [x1 248 (by omega), t2]; exact q2⟩
          · exact Or.inr ⟨j, q1, by rw [x1 248 (by omega), t2]; exact q2, q3⟩
        · rcases hsub h8 with ⟨q1, q2⟩ | ⟨j, q1, q2, q3⟩
          · exact Or.inl ⟨q1, by rw [x1 249 (by omega), t3]; exact q2⟩
          · exact Or.inr ⟨j, q1, by rw [x1 249 (by omega), t3]; exact q2, q3⟩
      · rw [if_neg (show ¬ nI (1 + sz tl + sz tr) ≤ 2000 from fun q => c2 ((nI_leI (b := 2000) (by omega) (by omega)).mp q))]
        exact oK_some ⟨rfr_36 f1, Or.inl ⟨by dsimp only; rw [xup_at], fun q => by rw [sz] at q; exact absurd q c2⟩⟩
theorem E_pug {F P n : Nat} {D : xDt} {x y : Int32} (h : D.1 241 36 = 1) (hn : 0 < n) : (f_X12_reduced_all F P xS0 n).2 241 x y D = some (12800, D) := by
  obtain ⟨n', rfl⟩ : ∃ n', n = n' + 1 := ⟨n - 1, by omega⟩
  show f_X12_pushed_o F P xS0 (f_X12_reduced_all F P xS0 n').2 241 x y D = _
  rw [e_X12_pushed_o, h, if_neg (by decide)]
theorem E_rdg {F P n : Nat} {D : xDt} {x : Int32} (h : D.1 241 36 = 1) (hn : 0 < n) : (f_X12_reduced_all F P xS0 n).1 241 x D = some (12800, D) := by
  obtain ⟨n', rfl⟩ : ∃ n', n = n' + 1 := ⟨n - 1, by omega⟩
  show f_X12_reduced_o F P xS0 (f_X12_reduced_all F P xS0 n').1 (f_X12_reduced_all F P xS0 n').2 241 x D = _
  rw [e_X12_reduced_o, h, if_neg (by decide)]
/-- two results, one after the other -/
theorem E_two {D0 : xDt} {z0 W1 W2 : Nat} {t1 t2 : T} {S : Prop} {u1 : Int32 × xDt} {f : xDt → Option (Int32 × xDt)} (h1 : PQ D0 z0 W1 t1 u1) (hS1 : S → sz t1 ≤ 2000) (hS2 : S → sz t2 ≤ 2000) (hg : u1.2.1 241 36 = 1 → ∃ v, f u1.2 = some (v, u1.2)) (h2 : ∀ z1, u1.2.1 241 36 = 0 → u1.2.1 241 13 = nI z1 → z0 ≤ z1 → z1 ≤ 92800 → rfr D0 u1.2 z0 → lat u1.2 z1 t1 u1.1 → oK (f u1.2) (PQ u1.2 z1 W2 t2)) : oK (f u1.2) (fun u2 => GS D0 u2.2 z0 (W1 + W2) S (fun z' => lat u2.2 z' t1 u1.1 ∧ lat u2.2 z' t2 u2.1)) := by
  obtain ⟨a1, ⟨a2, a3⟩ | ⟨a2, z1, a3, a4, a5, a6, a7⟩⟩ := h1
  · obtain ⟨v, e⟩ := hg a2
    rw [e]
    exact oK_some ⟨a1, Or.inl ⟨a2, fun q => by have := a3 (hS1 q); omega⟩⟩
  · refine oK_mono (h2 z1 a2 a3 a4 a6 a1 a7) (fun u2 hu => ?_)
    obtain ⟨b1, ⟨b2, b3⟩ | ⟨b2, z2, b3, b4, b5, b6, b7⟩⟩ := hu
    · exact ⟨rfr_trans a4 a1 b1, Or.inl ⟨b2, fun q => by have := b3 (hS2 q); omega⟩⟩
    · exact ⟨rfr_trans a4 a1 b1, Or.inr ⟨b2, z2, b3, by omega, by omega, b6, lat_fr a7 b1 b4, b7⟩⟩
theorem E_pu {F P : Nat} {X : T} {vx : Int32} : ∀ (Y : T) (n z : Nat) (D : xDt) (vy : Int32), wfT Y → plT Y → tht Y < n → D.1 241 36 = 0 → D.1 241 13 = nI z → 12800 ≤ z → z ≤ 92800 → lat D z X vx → lat D z Y vy → oK ((f_X12_reduced_all F P xS0 n).2 241 vx vy D) (PQ D z (twk Y) (tpu X Y))
  | .leaf, _, _, _, _, h, _, _, _, _, _, _, _, _ => absurd h (by simp [wfT])
  | .inner s m () l r, 0, _, _, _, _, _, h, _, _, _, _, _, _ => absurd h (by omega)
  | .inner s m () l r, n + 1, z, D, vy, hw, hq, hh, h36, h13, hz, hz2, hx, hy => by
    obtain ⟨w1, w2, w3, w4⟩ := id hw
    obtain ⟨q1, q2, q3⟩ := id hq
    rw [tht] at hh
    obtain ⟨j, rfl, hj, hd, hs⟩ := id hy
    obtain ⟨d1, d2, d3, d4, d5, d6, d7⟩ := id hd
    have s9 : ∀ k, k < 16 → s ≠ k → ¬ nI s = nI k := fun k hk h q => h ((nI_eq (by omega) (by omega)).mp q)
    have kx : ∀ {D' : xDt} {z' : Nat}, rfr D D' z → z ≤ z' → lan D' z' X vx := fun h1 h2 => Or.inr (lat_fr hx h1 h2)
    have e0 : f_X12_pushed_o F P xS0 (f_X12_reduced_all F P xS0 n).2 241 vx (nI j) D = (f_X12_reduced_all F P xS0 (n + 1)).2 241 vx (nI j) D := rfl
    rw [← e0, e_X12_pushed_o, h36, if_pos rfl, xgrd_in (by omega) (by omega), nI_clamp (by omega), d3, xgrd_in (by omega) (by omega), xgrd_in (by omega) (by omega), xgrd_in (by omega) (by omega), xgrd_in (by omega) (by omega)]
    rw [tpu, twk]
    -- one part
    have part : (4 ≤ s ∧ s ≤ 6) → wfT l → oK ((f_X12_reduced_all F P xS0 n).2 241 vx (D.1 248 j) D) (PQ D z (twk l) (tpu X l)) := by
      intro c wl
      rcases d6 with ⟨rfl, _⟩ | ⟨i, hi, e, d6⟩
      · exact absurd wl (by simp [wfT])
      rw [e]
      rw [sz] at hs
      exact E_pu l n z D (nI i) wl q2 (by omega) h36 h13 hz hz2 hx ⟨i, rfl, by omega, d6, by omega⟩
    by_cases c1 : s = 4
    · subst c1
      obtain ⟨_, _, wl, rfl⟩ := (w4.resolve_left (fun c => by omega)).resolve_right (fun c => by omega)
      have hm0 : m = 0 := by unfold mOK at w3; omega
      subst hm0
      rw [if_pos (show nI 4 = 4 from rfl), if_pos (by omega), if_pos (by omega)]
      refine oK_bind (part (by omega) wl) (fun u hu => ?_)
      refine oK_bind (E_made (F := F) (P := P) (s := 4) (m := 0) (tl := tpu X l) (tr := nil) hz (GS_of hu (Nat.le_refl _) (fun q => by simp only [sz] at q; omega) (fun z' a1 a2 a3 => ⟨Or.inr a3, Or.inl ⟨rfl, rfl⟩⟩))) (fun u2 hu2 => ?_)
      rw [bind_eta]
      refine oK_mono (E_made (F := F) (P := P) (s := 11) (m := 0) (tl := X) (tr := bn 4 0 (tpu X l) nil) hz (GS_of hu2 (Nat.le_refl _) (fun q => by simp only [sz] at q ⊢; omega) (fun z' a1 a2 a3 => ⟨kx a2 a1, Or.inr a3⟩))) (fun u3 hu3 => ?_)
      rw [show 2 + twk l = twk l + 1 + 1 by omega]
      exact hu3
    rw [if_neg (show ¬ nI s = 4 from s9 4 (by omega) c1)]
    by_cases c2 : s = 5
    · subst c2
      obtain ⟨_, _, wl, rfl⟩ := (w4.resolve_left (fun c => by omega)).resolve_right (fun c => by omega)
      rw [if_pos (show nI 5 = 5 from rfl), if_pos (by omega), if_pos (by omega)]
      refine oK_bind (part (by omega) wl) (fun u hu => ?_)
      rw [xgrd_in (by omega) (by omega), hu.1.2.2 250 (by omega) j hj, d4]
      refine oK_bind (E_made (F := F) (P := P) (s := 5) (m := m) (tl := tpu X l) (tr := nil) hz (GS_of hu (Nat.le_refl _) (fun q => by simp only [sz] at q; omega) (fun z' a1 a2 a3 => ⟨Or.inr a3, Or.inl ⟨rfl, rfl⟩⟩))) (fun u2 hu2 => ?_)
      rw [bind_eta]
      refine oK_mono (E_made (F := F) (P := P) (s := 11) (m := 0) (tl := X) (tr := bn 5 m (tpu X l) nil) hz (GS_of hu2 (Nat.le_refl _) (fun q => by simp only [sz] at q ⊢; omega) (fun z' a1 a2 a3 => ⟨kx a2 a1, Or.inr a3⟩))) (fun u3 hu3 => ?_)
      rw [show 2 + twk l = twk l + 1 + 1 by omega]
      exact hu3
    rw [if_neg (show ¬ nI s = 5 from s9 5 (by omega) c2), if_neg (show ¬ (s = 4 ∨ s = 5) by omega), if_neg (show ¬ (s = 4 ∨ s = 5) by omega)]
    by_cases c3 : s = 6
    · subst c3
      obtain ⟨_, _, wl, rfl⟩ := (w4.resolve_left (fun c => by omega)).resolve_right (fun c => by omega)
      rw [if_pos (show nI 6 = 6 from rfl), if_pos rfl, if_pos rfl]
      refine oK_bind (part (by omega) wl) (fun u hu => ?_)
      refine oK_bind (E_made (F := F) (P := P) (s := 13) (m := 0) (tl := X) (tr := tpu X l) hz (GS_of hu (Nat.le_refl _) (fun q => by simp only [sz] at q; omega) (fun z' a1 a2 a3 => ⟨kx a2 a1, Or.inr a3⟩))) (fun u2 hu2 => ?_)
      rw [xgrd_in (by omega) (by omega), hu2.1.2.2 250 (by omega) j hj, d4]
      refine oK_bind (E_made (F := F) (P := P) (s := 6) (m := m) (tl := bn 13 0 X (tpu X l)) (tr := nil) hz (GS_of hu2 (Nat.le_refl _) (fun q => by simp only [sz] at q ⊢; omega) (fun z' a1 a2 a3 => ⟨Or.inr a3, Or.inl ⟨rfl, rfl⟩⟩))) (fun u3 hu3 => ?_)
      rw [bind_eta]
      refine oK_mono (E_made (F := F) (P := P) (s := 11) (m := 0) (tl := X) (tr := bn 6 m (bn 13 0 X (tpu X l)) nil) hz (GS_of hu3 (Nat.le_refl _) (fun q => by simp only [sz] at q ⊢; omega) (fun z' a1 a2 a3 => ⟨kx a2 a1, Or.inr a3⟩))) (fun u4 hu4 => ?_)
      rw [show 3 + twk l = twk l + 1 + 1 + 1 by omega]
      exact hu4
    rw [if_neg (show ¬ nI s = 6 from s9 6 (by omega) c3), if_neg c3, if_neg c3, if_neg (show ¬ nI s = 7 from s9 7 (by omega) (by omega)), if_neg (show ¬ nI s = 8 from s9 8 (by omega) (by omega)), if_neg (show ¬ nI s = 9 from s9 9 (by omega) (by omega))]
    by_cases c4 : 10 ≤ s
    · obtain ⟨_, wl, wr⟩ := (w4.resolve_left (fun c => by omega)).resolve_left (fun c => by omega)
      have hm0 : m = 0 := by unfold mOK at w3; omega
      subst hm0
      rw [if_pos c4, if_pos c4]
      have join : oK ((((f_X12_reduced_all F P xS0 n).2 241 vx (D.1 248 j) D).bind fun q21 => xgrd (xin (nI j) 92800) (xgrd (xin (nI j) 92800) (((f_X12_reduced_all F P xS0 n).2 241 vx (q21.2.1 249 j) q21.2).bind fun q24 => (f_X12_made F P xS0 241 (q21.2.1 247 j) q21.1 q24.1 0 q24.2).bind fun q25 => some (q25.1, q25.2))))) (PQ D z (1 + twk l + twk r) (bn s 0 (tpu X l) (tpu X r))) := by
        rcases d6 with ⟨rfl, _⟩ | ⟨i, hi, e, d6⟩
        · exact absurd wl (by simp [wfT])
        rcases d7 with ⟨rfl, _⟩ | ⟨i2, hi2, e2, d7⟩
        · exact absurd wr (by simp [wfT])
        rw [e]
        rw [sz] at hs
        refine oK_bind (E_pu l n z D (nI i) wl q2 (by omega) h36 h13 hz hz2 hx ⟨i, rfl, by omega, d6, by omega⟩) (fun u hu => ?_)
        rw [xgrd_in (by omega) (by omega), xgrd_in (by omega) (by omega), hu.1.2.2 249 (by omega) j hj, hu.1.2.2 247 (by omega) j hj, e2, d3]
        refine oK_bind (E_two (t2 := tpu X r) (W2 := twk r) (S := sz (bn s 0 (tpu X l) (tpu X r)) ≤ 2000) (f := fun D => (f_X12_reduced_all F P xS0 n).2 241 vx (nI i2) D) hu (fun q => by simp only [sz] at q; omega) (fun q => by simp only [sz] at q; omega) (fun q => ⟨_, E_pug q (by omega)⟩) (fun z1 a1 a2 a3 a4 a5 a6 => E_pu r n z1 u.2 (nI i2) wr q3 (by omega) a1 a2 (by omega) a4 (lat_fr hx a5 a3) (lat_fr ⟨i2, rfl, by omega, d7, by omega⟩ a5 a3))) (fun u2 hu2 => ?_)
        rw [bind_eta]
        obtain ⟨b1, b2⟩ := hu2
        refine oK_mono (E_made (F := F) (P := P) (s := s) (m := 0) (tl := tpu X l) (tr := tpu X r) (W := twk l + twk r) hz ⟨b1, b2.imp (fun q => q) (fun ⟨c1, z', c2, c3, c4, c5, c6, c7⟩ => ⟨c1, z', c2, c3, c4, c5, Or.inr c6, Or.inr c7⟩)⟩) (fun u3 hu3 => ?_)
        rw [show 1 + twk l + twk r = twk l + twk r + 1 by omega]
        exact hu3
      by_cases k1 : s = 10
      · rw [if_pos (show nI s = 10 by rw [k1]; rfl)]; exact join
      rw [if_neg (show ¬ nI s = 10 from s9 10 (by omega) k1)]
      by_cases k2 : s = 11
      · rw [if_pos (show nI s = 11 by rw [k2]; rfl)]; exact join
      rw [if_neg (show ¬ nI s = 11 from s9 11 (by omega) k2)]
      by_cases k3 : s = 12
      · rw [if_pos (show nI s = 12 by rw [k3]; rfl)]; exact join
      rw [if_neg (show ¬ nI s = 12 from s9 12 (by omega) k3), if_pos (show nI s = 13 by rw [show s = 13 by omega]; rfl)]
      exact join
    · rw [if_neg (show ¬ nI s = 10 from s9 10 (by omega) (by omega)), if_neg (show ¬ nI s = 11 from s9 11 (by omega) (by omega)), if_neg (show ¬ nI s = 12 from s9 12 (by omega) (by omega)), if_neg (show ¬ nI s = 13 from s9 13 (by omega) (by omega)), if_neg c4, if_neg c4, bind_eta]
      exact E_made (F := F) (P := P) (s := 11) (m := 0) (tl := X) (tr := bn s m l r) (W := 0) hz ⟨rfr_rfl _ _, Or.inr ⟨h36, z, h13, Nat.le_refl _, by omega, hz2, Or.inr hx, Or.inr hy⟩⟩
theorem E_gpu {F P n z0 W : Nat} {D0 D : xDt} {X Y : T} {x y : Int32} (hz0 : 12800 ≤ z0) (hw : wfT Y) (hp : plT Y) (hn : 0 < n) (hh : sz Y ≤ 2000 → tht Y < n) (h : GS D0 D z0 W (sz (tpu X Y) ≤ 2000) (fun z' => lat D z' X x ∧ lat D z' Y y)) : oK ((f_X12_reduced_all F P xS0 n).2 241 x y D) (PQ D0 z0 (W + twk Y) (tpu X Y)) := by
  obtain ⟨h1, ⟨h2, h3⟩ | ⟨h2, z', h3, h4, h5, h6, h7, h8⟩⟩ := h
  · rw [E_pug h2 hn]
    exact oK_some ⟨h1, Or.inl ⟨h2, fun q => by have := h3 q; omega⟩⟩
  · refine oK_mono (E_pu (F := F) (P := P) (X := X) (vx := x) Y n z' D y hw hp (hh (by obtain ⟨_, _, _, _, q⟩ := h8; exact q)) h2 h3 (by omega) h6 h7 h8) (fun u hu => ?_)
    obtain ⟨b1, ⟨b2, b3⟩ | ⟨b2, z2, b3, b4, b5, b6, b7⟩⟩ := hu
    · exact ⟨rfr_trans h4 h1 b1, Or.inl ⟨b2, fun q => by have := b3 q; omega⟩⟩
    · exact ⟨rfr_trans h4 h1 b1, Or.inr ⟨b2, z2, b3, by omega, by omega, b6, b7⟩⟩
theorem E_madeg {F P : Nat} {D : xDt} {a b c d : Int32} (h : D.1 241 36 = 1) : f_X12_made F P xS0 241 a b c d D = some (12800, D) := by
  rw [e_X12_made, h, if_neg (by decide)]
  simp only [xlet]
  rw [xup_same _ _ _ _ h]
theorem E_says {F P n z0 W : Nat} {D0 D : xDt} {X Y : T} {x y : Int32} (hz0 : 12800 ≤ z0) (hw : wfT Y) (hp : plT Y) (hn : 0 < n) (hh : sz Y ≤ 2000 → tht Y < n) (h : GS D0 D z0 W (sz (tpu X Y) ≤ 2000) (fun z' => lat D z' X x ∧ lat D z' Y y)) : oK (((f_X12_reduced_all F P xS0 n).2 241 x y D).bind fun q3 => (f_X12_made F P xS0 241 4 q3.1 (-2) 0 q3.2).bind fun q4 => (f_X12_made F P xS0 241 11 x q4.1 0 q4.2).bind fun q5 => (f_X12_made F P xS0 241 4 q5.1 (-2) 0 q5.2).bind fun q6 => some (q6.1, q6.2)) (PQ D0 z0 (W + twk Y + 3) (bn 4 0 (bn 11 0 X (bn 4 0 (tpu X Y) nil)) nil)) := by
  obtain ⟨h1, ⟨h2, h3⟩ | ⟨h2, z', h3, h4, h5, h6, h7, h8⟩⟩ := h
  · rw [E_pug h2 hn, Option.bind_some, E_madeg h2, Option.bind_some, E_madeg h2, Option.bind_some, E_madeg h2, Option.bind_some]
    exact oK_some ⟨h1, Or.inl ⟨h2, fun q => by simp only [sz] at q; have := h3 (by omega); omega⟩⟩
  · have hz' : 12800 ≤ z' := by omega
    refine oK_bind (E_pu (F := F) (P := P) (X := X) (vx := x) Y n z' D y hw hp (hh (by obtain ⟨_, _, _, _, q⟩ := h8; exact q)) h2 h3 (by omega) h6 h7 h8) (fun u hu => ?_)
    refine oK_bind (E_made (F := F) (P := P) (s := 4) (m := 0) (tl := tpu X Y) (tr := nil) hz' (GS_of hu (Nat.le_refl _) (fun q => by simp only [sz] at q; omega) (fun z' a1 a2 a3 => ⟨Or.inr a3, Or.inl ⟨rfl, rfl⟩⟩))) (fun u2 hu2 => ?_)
    refine oK_bind (E_made (F := F) (P := P) (s := 11) (m := 0) (tl := X) (tr := bn 4 0 (tpu X Y) nil) hz' (GS_of hu2 (Nat.le_refl _) (fun q => by simp only [sz] at q ⊢; omega) (fun z' a1 a2 a3 => ⟨Or.inr (lat_fr h7 a2 a1), Or.inr a3⟩))) (fun u3 hu3 => ?_)
    rw [bind_eta]
    refine oK_mono (E_made (F := F) (P := P) (s := 4) (m := 0) (tl := bn 11 0 X (bn 4 0 (tpu X Y) nil)) (tr := nil) hz' (GS_of hu3 (Nat.le_refl _) (fun q => by simp only [sz] at q ⊢; omega) (fun z' a1 a2 a3 => ⟨Or.inr a3, Or.inl ⟨rfl, rfl⟩⟩))) (fun u4 hu4 => ?_)
    obtain ⟨b1, ⟨b2, b3⟩ | ⟨b2, z2, b3, b4, b5, b6, b7⟩⟩ := hu4
    · exact ⟨rfr_trans h4 h1 b1, Or.inl ⟨b2, fun q => by have := b3 q; omega⟩⟩
    · exact ⟨rfr_trans h4 h1 b1, Or.inr ⟨b2, z2, b3, by omega, by omega, b6, b7⟩⟩
theorem E_rd {F P : Nat} : ∀ (t : T) (n z i : Nat) (D : xDt), wfT t → tnE t → (plT t ∨ sz t ≤ 150) → sz t < n → (plT t ∨ sz t + 1160 < n) → D.1 241 36 = 0 → D.1 241 13 = nI z → 12800 ≤ z → z ≤ 92800 → nd D.1 0 t i → i < 12800 → oK ((f_X12_reduced_all F P xS0 n).1 241 (nI i) D) (PQ D z (tmk t) (trd t))
  | .leaf, _, _, _, _, h, _, _, _, _, _, _, _, _, _, _ => absurd h (by simp [wfT])
  | .inner s m () l r, 0, _, _, _, _, _, _, h, _, _, _, _, _, _, _ => absurd h (by omega)
  | .inner s m () l r, n + 1, z, i, D, hw, hq, hp, hn, hn2, h36, h13, hz, hz2, hd, hi => by
    obtain ⟨w1, w2, w3, w4⟩ := id hw
    obtain ⟨q1, q2, q3⟩ := id hq
    obtain ⟨d1, d2, d3, d4, d5, d6, d7⟩ := id hd
    rw [sz] at hp hn hn2
    have s9 : ∀ k, k < 16 → s ≠ k → ¬ nI s = nI k := fun k hk h q => h ((nI_eq (by omega) (by omega)).mp q)
    have e0 : f_X12_reduced_o F P xS0 (f_X12_reduced_all F P xS0 n).1 (f_X12_reduced_all F P xS0 n).2 241 (nI i) D = (f_X12_reduced_all F P xS0 (n + 1)).1 241 (nI i) D := rfl
    rw [← e0, e_X12_reduced_o, h36, if_pos rfl, xgrd_in (by omega) (by omega), nI_clamp (by omega), d3]
    simp only [xlet]
    rw [trd, tmk]
    rcases w4 with ⟨c, rfl, rfl⟩ | ⟨c, c', wl, rfl⟩ | ⟨c, wl, wr⟩
    · rw [if_neg (show ¬ (4 : Int32) ≤ nI s from fun q => absurd ((nI_leI (a := 4) (by omega) (by omega)).mp q) (by omega)), xgrd_in (by omega) (by omega), d4, bind_eta, if_neg (by omega), if_neg (by omega), if_neg (by omega), if_neg (by omega)]
      exact E_made (F := F) (P := P) (s := s) (m := m) (tl := nil) (tr := nil) (W := 0) hz ⟨rfr_rfl _ _, Or.inr ⟨h36, z, h13, Nat.le_refl _, by omega, hz2, Or.inl ⟨rfl, rfl⟩, Or.inl ⟨rfl, rfl⟩⟩⟩
    · rw [if_pos (show (4 : Int32) ≤ nI s from (nI_leI (a := 4) (by omega) (by omega)).mpr c), xgrd_in (by omega) (by omega), if_neg (by omega), if_neg (by omega), if_neg (by omega), if_neg (by omega)]
      rcases d6 with ⟨rfl, _⟩ | ⟨i1, hi1, e, d6⟩
      · exact absurd wl (by simp [wfT])
      rcases d7 with ⟨_, e7⟩ | ⟨_, _, _, d7⟩
      rotate_left
      · exact absurd d7 (by simp [nd])
      rw [e]
      refine oK_bind (E_rd l n z i1 D wl q2 (hp.imp (fun q => q.2.1) (fun q => by omega)) (by omega) (hn2.imp (fun q => q.2.1) (fun q => by omega)) h36 h13 hz hz2 d6 (by omega)) (fun u hu => ?_)
      rw [xgrd_in (by omega) (by omega), hu.1.2.2 249 (by omega) i (by omega), e7, if_pos (by decide), e_X12_reduced_66, e_X12_reduced_81, if_neg (show ¬ nI s = 14 from s9 14 (by omega) (by omega)), if_neg (show ¬ nI s = 15 from s9 15 (by omega) (by omega)), xgrd_in (by omega) (by omega), nI_clamp (by omega), hu.1.2.2 250 (by omega) i (by omega), d4, bind_eta]
      refine oK_mono (E_made (F := F) (P := P) (s := s) (m := m) (tl := trd l) (tr := nil) hz (GS_of hu (Nat.le_refl _) (fun q => by simp only [sz] at q; omega) (fun z' a1 a2 a3 => ⟨Or.inr a3, Or.inl ⟨rfl, rfl⟩⟩))) (fun u2 hu2 => ?_)
      rw [show 1 + tmk l + tmk nil = tmk l + 1 by rw [tmk]; omega]
      exact hu2
    · rw [if_pos (show (4 : Int32) ≤ nI s from (nI_leI (a := 4) (by omega) (by omega)).mpr (by omega)), xgrd_in (by omega) (by omega)]
      rcases d6 with ⟨rfl, _⟩ | ⟨i1, hi1, e, d6⟩
      · exact absurd wl (by simp [wfT])
      rcases d7 with ⟨rfl, _⟩ | ⟨i2, hi2, e7, d7⟩
      · exact absurd wr (by simp [wfT])
      rw [e]
      obtain ⟨x1, x2⟩ := trd_w wl q2
      obtain ⟨x3, x4⟩ := trd_w wr q3
      refine oK_bind (E_rd l n z i1 D wl q2 (hp.imp (fun q => q.2.1) (fun q => by omega)) (by omega) (hn2.imp (fun q => q.2.1) (fun q => by omega)) h36 h13 hz hz2 d6 (by omega)) (fun u hu => ?_)
      rw [xgrd_in (by omega) (by omega), hu.1.2.2 249 (by omega) i (by omega), e7, if_neg (nI_pos (by omega)), xgrd_in (by omega) (by omega)]
      have ef : (if u.2.1 241 36 = 0 then (((f_X12_reduced_all F P xS0 n).1 241 (nI i2) u.2).bind fun q7 => f_X12_reduced_81 F P xS0 (f_X12_reduced_all F P xS0 n).1 (f_X12_reduced_all F P xS0 n).2 241 (nI i) (nI s) u.1 q7.1 q7.2) else f_X12_reduced_66 F P xS0 (f_X12_reduced_all F P xS0 n).1 (f_X12_reduced_all F P xS0 n).2 241 (nI i) (nI s) u.1 u.2) = (if u.2.1 241 36 = 0 then (f_X12_reduced_all F P xS0 n).1 241 (nI i2) u.2 else some (-2, u.2)).bind fun q7 => f_X12_reduced_81 F P xS0 (f_X12_reduced_all F P xS0 n).1 (f_X12_reduced_all F P xS0 n).2 241 (nI i) (nI s) u.1 q7.1 q7.2 := by
        by_cases k : u.2.1 241 36 = 0
        · rw [if_pos k, if_pos k]
        · rw [if_neg k, if_neg k, e_X12_reduced_66, Option.bind_some]
      rw [ef]
      -- the second part, then the NODE
      have two : ∀ S : Prop, (S → sz (trd l) ≤ 2000) → (S → sz (trd r) ≤ 2000) → oK (if u.2.1 241 36 = 0 then (f_X12_reduced_all F P xS0 n).1 241 (nI i2) u.2 else some (-2, u.2)) (fun u2 => GS D u2.2 z (tmk l + tmk r) S (fun z' => lat u2.2 z' (trd l) u.1 ∧ lat u2.2 z' (trd r) u2.1)) := by
        intro S hS1 hS2
        refine E_two (f := fun D => if D.1 241 36 = 0 then (f_X12_reduced_all F P xS0 n).1 241 (nI i2) D else some (-2, D)) hu hS1 hS2 (fun q => ⟨-2, by rw [if_neg (by rw [q]; decide)]⟩) (fun z1 a1 a2 a3 a4 a5 a6 => ?_)
        rw [if_pos a1]
        exact E_rd r n z1 i2 u.2 wr q3 (hp.imp (fun q => q.2.2) (fun q => by omega)) (by omega) (hn2.imp (fun q => q.2.2) (fun q => by omega)) a1 a2 (by omega) a4 (nd_congr (fun a ha hb k _ hk => a5.2.2 a (by omega) k (by omega)) d7) (by omega)
      have hpu := tpu_sz (sz_pos x1) x3 x4
      -- what is pushed
      have psh : ∀ {v : Int32} {D2 : xDt}, (s = 14 ∨ s = 15) → GS D D2 z (tmk l + tmk r) (sz (tpu (trd l) (trd r)) ≤ 2000) (fun z' => lat D2 z' (trd l) u.1 ∧ lat D2 z' (trd r) v) → oK ((f_X12_reduced_all F P xS0 n).2 241 u.1 v D2) (PQ D z (tmk l + tmk r + twk (trd r)) (tpu (trd l) (trd r))) := by
        intro v D2 k g
        have hnp : ¬ plT (bn s m l r) := fun q => by have := q.1; omega
        have h1 := hp.resolve_left hnp
        have h2 := hn2.resolve_left hnp
        refine E_gpu (F := F) (P := P) hz x3 x4 (by omega) (fun q => ?_) g
        have := tht_un x3
        have := tun_rd wr q3
        omega
      by_cases c1 : s = 14
      · rw [if_pos c1, if_pos c1]
        refine oK_bind (two (sz (tpu (trd l) (trd r)) ≤ 2000) (fun q => by omega) (fun q => by omega)) (fun u2 hu2 => ?_)
        rw [e_X12_reduced_81, if_pos (show nI s = 14 by rw [c1]; rfl), bind_eta]
        exact psh (Or.inl c1) hu2
      rw [if_neg c1, if_neg c1]
      by_cases c2 : s = 15
      · rw [if_pos c2, if_pos c2]
        refine oK_bind (two (sz (tpu (trd l) (trd r)) ≤ 2000) (fun q => by omega) (fun q => by omega)) (fun u2 hu2 => ?_)
        rw [e_X12_reduced_81, if_neg (show ¬ nI s = 14 from s9 14 (by omega) c1), if_pos (show nI s = 15 by rw [c2]; rfl)]
        have hnp : ¬ plT (bn s m l r) := fun q => by have := q.1; omega
        have h1 := hp.resolve_left hnp
        have h2 := hn2.resolve_left hnp
        exact E_says (F := F) (P := P) hz x3 x4 (by omega) (fun q => by
          have := tht_un x3
          have := tun_rd wr q3
          omega) hu2
      · rw [if_neg c2, if_neg c2]
        refine oK_bind (two (sz (bn s m (trd l) (trd r)) ≤ 2000) (fun q => by simp only [sz] at q; omega) (fun q => by simp only [sz] at q; omega)) (fun u2 hu2 => ?_)
        rw [e_X12_reduced_81, if_neg (show ¬ nI s = 14 from s9 14 (by omega) c1), if_neg (show ¬ nI s = 15 from s9 15 (by omega) c2), xgrd_in (by omega) (by omega), nI_clamp (by omega), hu2.1.2.2 250 (by omega) i (by omega), d4, bind_eta]
        refine oK_mono (E_made (F := F) (P := P) (s := s) (m := m) (tl := trd l) (tr := trd r) (W := tmk l + tmk r) hz ⟨hu2.1, hu2.2.imp (fun q => q) (fun ⟨a1, z', a2, a3, a4, a5, a6, a7⟩ => ⟨a1, z', a2, a3, a4, a5, Or.inr a6, Or.inr a7⟩)⟩) (fun u3 hu3 => ?_)
        rw [show 1 + tmk l + tmk r = tmk l + tmk r + 1 by omega]
        exact hu3
