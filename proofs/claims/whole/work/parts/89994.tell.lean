/-! tell -/
theorem E_trun {F P : Nat} (hF : 10000 < F) {N : Nat} (hN : N ≤ 2000) : ∀ (t : T) (i d : Nat) (D : xDt) (l : List Nat) (wh : Bool) (fu : Nat), wfT t → tkAt (D.1 203) i (tks t) → i + sz t ≤ N → D.1 202 1 = nI N → D.1 204 3 = nI d → d + sz t ≤ 2000 → txC D l → l.length + (txt t wh).length ≤ 4000 → wH D d wh → ∃ D' k, d < k ∧ tf d D D' ∧ txC D' (l ++ txt t wh) ∧ f_X9_write_12 F P xS0 (fu + sz t) 204 202 (nI i) D = (f_X9_finish_7 F P xS0 k 204 (nI d - 1) D').bind fun q => f_X9_write_12 F P xS0 fu 204 202 (nI (i + sz t)) q
  | .leaf, _, _, _, _, _, _, h, _, _, _, _, _, _, _, _ => absurd h (by simp [wfT])
  | .inner s m () l r, i, d, D, tx, wh, fu, hw, ht, hi, hn, h3, hd, hx, hl, hwh => by
    obtain ⟨w1, w2, w3, w4⟩ := hw
    have hm := m16 w3
    have hsg := sgn_lt s m
    rw [tks, tkAt_cons, tkAt_app] at ht
    obtain ⟨t1, t2, t3⟩ := ht
    rw [tks_len] at t3
    rw [sz] at hi hd
    have e0 : fu + sz (bn s m l r) = (fu + sz r + sz l) + 1 := by rw [sz]; omega
    rw [e0, e_X9_write_12, hn, if_neg (by rw [nI_leI (by omega) (by omega)]; omega), rr202, ll203, xgrd_in (by omega) (by omega), nI_clamp (by omega), t1]
    simp only [xlet]
    rw [E_signOf (by omega) hm, Option.bind_some, E_isLeaf w1 w2 w3, Option.bind_some]
    simp only [e_X9_write_57, xlet]
    rw [nI_1]
    have u203 : ∀ {e : Nat} {D1 : xDt}, tf e D D1 → D1.1 203 = D.1 203 := fun h => h.1.1 203 (by decide)
    have u202 : ∀ {e : Nat} {D1 : xDt}, tf e D D1 → D1.1 202 1 = nI N := fun h => by rw [h.1.1 202 (by decide)]; exact hn
    rw [txt] at hl ⊢
    rcases w4 with ⟨w4, rfl, rfl⟩ | w4
    · rw [if_pos w4] at hl ⊢
      rw [if_pos w4, if_neg (show ¬ (1 : Int32) = 0 by decide), E_signOf (by omega) hm, Option.bind_some]
      obtain ⟨D1, e1, c1, c2, c3⟩ := E_cput (F := F) (P := P) hx (by simp at hl; omega) hsg
      dsimp only
      rw [e1, Option.bind_some, e_X9_finish, c3, h3]
      exact ⟨D1, F, by omega, tf_p c2, c1, by simp only [xlet, sz, Nat.add_zero]⟩
    have hnl : ¬ s ≤ 3 := by omega
    rw [if_neg hnl] at hl ⊢
    rw [if_neg hnl, if_pos rfl]
    have wl : wfT l := w4.elim (fun h => h.2.2.1) (fun h => h.2.1)
    have hstart : f_X9_start F P xS0 204 (nI (tk s m)) D = (if (if 10 ≤ s ∧ s ≤ 13 then (1 : Int32) else 0) = 0 then ((f_X9_put F P xS0 204 (nI (sgn s m)) D).bind fun q6 => (f_X9_putAgents F P xS0 204 (nI (tk s m)) q6).bind fun q7 => f_X9_start_45 F P xS0 204 (nI (tk s m)) q7) else ((f_X9_isWhole F P xS0 204 D).bind fun q3 => if q3.1 = 0 then ((f_X9_put F P xS0 204 40 q3.2).bind fun q4 => f_X9_start_45 F P xS0 204 (nI (tk s m) ||| 131072) q4) else (f_X9_start_45 F P xS0 204 (nI (tk s m)) q3.2))) := by
      rw [e_X9_start, E_signOf (by omega) hm, Option.bind_some, E_isJoin w1 w2 w3, Option.bind_some]
      rfl
    -- behind the first part: the second one, and the end
    have sec : ∀ (b : Nat) (D1 : xDt) (tx1 : List Nat), b < 2 → 10 ≤ s → wfT r → tf d D D1 → txC D1 tx1 → D1.1 204 3 = nI (d + 1) → D1.1 206 d = nI (st4 s m b 1) → tx1.length + (txt r false).length + b ≤ 4000 → ∃ D' k, d < k ∧ tf d D D' ∧ txC D' (tx1 ++ txt r false ++ (if b = 1 then [41] else [])) ∧ f_X9_write_12 F P xS0 (fu + sz r) 204 202 (nI (i + 1 + sz l)) D1 = (f_X9_finish_7 F P xS0 k 204 (nI d - 1) D').bind fun q => f_X9_write_12 F P xS0 fu 204 202 (nI (i + sz (bn s m l r))) q := by
      intro b D1 tx1 hb h10 wr c1 c2 c3 c4 c5
      obtain ⟨D2, k, k1, k2, k3, k4⟩ := E_trun (P := P) hF hN r (i + 1 + sz l) (d + 1) D1 tx1 false fu wr (by rw [u203 c1]; exact t3) (by omega) (u202 c1) c3 (by omega) c2 (by omega) (Or.inr ⟨s, m, b, 1, by omega, w1, w2, w3, hb, by omega, by rw [Nat.add_sub_cancel]; exact c4, by simp⟩)
      obtain ⟨k', rfl⟩ : ∃ k', k = k' + 1 := ⟨k - 1, by omega⟩
      obtain ⟨D3, f1, f2, f3⟩ := fin_last (F := F) (P := P) (D := D2) (d := d) (k := k') (h := 1) (by omega) w1 w2 w3 hb (by omega) (by rw [k2.2 d (by omega)]; exact c4) (fun _ => rfl) k3 (by rw [List.length_append]; omega)
      refine ⟨D3, k', by omega, tf_trans c1 (tf_trans (tf_le k2 (by omega)) (tf_p f3)), f2, ?_⟩
      rw [k4, nI_s1 (by omega), Nat.add_sub_cancel, f1, sz, show i + 1 + sz l + sz r = i + (1 + sz l + sz r) by omega]
    by_cases hj : 10 ≤ s ∧ s ≤ 13
    · -- a join
      obtain ⟨_, wl2, wr⟩ := w4.resolve_left (fun c => by omega)
      rw [if_neg (by omega), if_pos hj.2] at hl ⊢
      rw [hstart, if_pos hj, if_neg (show ¬ (1 : Int32) = 0 by decide), E_isWhole (by omega) h3 hwh, Option.bind_some]
      -- with the token on the stack
      have go : ∀ (b : Nat) (D1 : xDt) (tx1 : List Nat), b < 2 → tf d D D1 → txC D1 tx1 → D1.1 204 3 = nI (d + 1) → D1.1 206 d = nI (st4 s m b 0) → tx1.length + (txt l false).length + 1 + (txt r false).length + b ≤ 4000 → ∃ D' k, d < k ∧ tf d D D' ∧ txC D' (tx1 ++ txt l false ++ [sgn s m] ++ txt r false ++ (if b = 1 then [41] else [])) ∧ f_X9_write_12 F P xS0 (fu + sz r + sz l) 204 202 (nI (i + 1)) D1 = (f_X9_finish_7 F P xS0 k 204 (nI d - 1) D').bind fun q => f_X9_write_12 F P xS0 fu 204 202 (nI (i + sz (bn s m l r))) q := by
        intro b D1 tx1 hb c1 c2 c3 c4 c5
        obtain ⟨D2, k, k1, k2, k3, k4⟩ := E_trun (P := P) hF hN l (i + 1) (d + 1) D1 tx1 false (fu + sz r) wl (by rw [u203 c1]; exact t2) (by omega) (u202 c1) c3 (by omega) c2 (by omega) (Or.inr ⟨s, m, b, 0, by omega, w1, w2, w3, hb, by omega, by rw [Nat.add_sub_cancel]; exact c4, by simp; omega⟩)
        obtain ⟨k', rfl⟩ : ∃ k', k = k' + 1 := ⟨k - 1, by omega⟩
        obtain ⟨D3, f1, f2, f3, f4, f5⟩ := fin_half (F := F) (P := P) (D := D2) (d := d) (k := k') (by omega) hj.1 w2 w3 hb (by rw [k2.2 d (by omega)]; exact c4) k3 (by rw [List.length_append]; omega)
        rw [if_neg (show ¬ s = 14 by omega), if_neg (show ¬ s = 15 by omega)] at f2
        obtain ⟨D4, k5, g1, g2, g3, g4⟩ := sec b D3 _ hb hj.1 wr (tf_trans c1 (tf_trans (tf_le k2 (by omega)) f3)) f2 f4 f5 (by simp only [List.length_append, List.length_cons, List.length_nil]; omega)
        refine ⟨D4, k5, g1, g2, g3, ?_⟩
        rw [k4, nI_s1 (by omega), Nat.add_sub_cancel, f1, Option.bind_some]
        exact g4
      obtain ⟨z1, z2⟩ := ts_3 s (by omega) m hm
      simp only [List.length_append, List.length_cons, List.length_nil] at hl
      cases wh
      · dsimp only
        rw [if_pos (show (if false = true then (1 : Int32) else 0) = 0 from rfl)]
        obtain ⟨D1, e1, c1, c2, c3⟩ := E_cput (F := F) (P := P) (c := 40) hx (by simp at hl; omega) (by omega)
        rw [show f_X9_put F P xS0 204 40 D = _ from e1, Option.bind_some, z1]
        obtain ⟨D2, e2, rfl⟩ := E_push (F := F) (P := P) (D := D1) (d := d) (x := st4 s m 1 0) (by omega) (by rw [c3]; exact h3)
        obtain ⟨p1, p2, p3, p4⟩ := push_p (d := d) (x := st4 s m 1 0) c1
        obtain ⟨D', k, g1, g2, g3, g4⟩ := go 1 _ _ (by omega) (tf_trans (tf_p c2) p1) p2 p3 p4 (by simp only [List.length_append, List.length_cons, List.length_nil]; simp at hl; omega)
        refine ⟨D', k, g1, g2, ?_, ?_⟩
        · simpa using g3
        · rw [e2, Option.bind_some]; exact g4
      · dsimp only
        rw [if_neg (show ¬ (if true = true then (1 : Int32) else 0) = 0 by decide), z2]
        obtain ⟨D2, e2, rfl⟩ := E_push (F := F) (P := P) (D := D) (d := d) (x := st4 s m 0 0) (by omega) h3
        obtain ⟨p1, p2, p3, p4⟩ := push_p (d := d) (x := st4 s m 0 0) hx
        obtain ⟨D', k, g1, g2, g3, g4⟩ := go 0 _ _ (by omega) p1 p2 p3 p4 (by simp at hl; omega)
        refine ⟨D', k, g1, g2, ?_, ?_⟩
        · simpa using g3
        · rw [e2, Option.bind_some]; exact g4
    · -- a sign ahead of its part, or of its parts
      have hs2 : s ≤ 9 ∨ 14 ≤ s := by omega
      have hm0 : (s = 4 ∨ 14 ≤ s) → m = 0 := by unfold mOK at w3; omega
      have h4 : 4 ≤ s := by omega
      rw [hstart, if_neg hj, if_pos rfl]
      have hag : (if 5 ≤ s ∧ s ≤ 9 then agT m 4 else []) = agT m 4 := by
        by_cases q : 5 ≤ s ∧ s ≤ 9
        · rw [if_pos q]
        · rw [if_neg q, hm0 (by omega), agT_0]
      have hroom : tx.length + 1 + (agT m 4).length ≤ 4000 := by
        by_cases q : s ≤ 9
        · rw [if_pos q] at hl
          by_cases q2 : 5 ≤ s
          · rw [if_pos q2] at hl
            simp only [List.length_append, List.length_cons, List.length_nil] at hl; omega
          · rw [hm0 (by omega), agT_0]
            simp only [List.length_append, List.length_cons, List.length_nil] at hl ⊢; omega
        · rw [if_neg q, if_neg (show ¬ s ≤ 13 by omega)] at hl
          rw [hm0 (by omega), agT_0]
          simp only [List.length_append, List.length_cons, List.length_nil] at hl ⊢; omega
      obtain ⟨D1, e1, c1, c2, c3⟩ := E_cput (F := F) (P := P) hx (by omega) hsg
      obtain ⟨D2, e2, c4, c5, c6⟩ := E_putAgents (F := F) (P := P) hF c1 (show s < 16 by omega) hm hm0 h4 hs2 (by simp only [List.length_append, List.length_cons, List.length_nil]; omega)
      obtain ⟨z1, z2⟩ := ts_3 s (by omega) m hm
      obtain ⟨D3, e3, hD3⟩ := E_push (F := F) (P := P) (D := D2) (d := d) (x := st4 s m 0 0) (by omega) (by rw [c6, c3]; exact h3)
      obtain ⟨p1, p2, p3, p4⟩ := push_p (d := d) (x := st4 s m 0 0) c4
      rw [← hD3] at p1 p2 p3 p4
      have q1 : tf d D D3 := tf_trans (tf_p c2) (tf_trans (tf_p c5) p1)
      rw [e1, Option.bind_some, e2, Option.bind_some, z2, e3, Option.bind_some]
      by_cases h9 : s ≤ 9
      · obtain ⟨_, _, _, rfl⟩ := w4.resolve_right (fun c => by omega)
        rw [if_pos h9] at hl ⊢
        have htx : tx ++ ([sgn s m] ++ (if 5 ≤ s then agT m 4 else []) ++ txt l false) = tx ++ [sgn s m] ++ agT m 4 ++ txt l false := by
          have : (if 5 ≤ s then agT m 4 else []) = agT m 4 := by
            by_cases q : 5 ≤ s
            · rw [if_pos q]
            · rw [if_neg q, hm0 (by omega), agT_0]
          rw [this]; simp
        have hlen := congrArg List.length htx
        simp only [List.length_append, List.length_cons, List.length_nil] at hl hlen
        obtain ⟨D4, k, k1, k2, k3, k4⟩ := E_trun (P := P) hF hN l (i + 1) (d + 1) D3 _ false (fu + sz nil) wl (by rw [u203 q1]; exact t2) (by omega) (u202 q1) p3 (by omega) p2 (by simp only [List.length_append, List.length_cons, List.length_nil]; omega) (Or.inr ⟨s, m, 0, 0, by omega, w1, w2, w3, by omega, by omega, by rw [Nat.add_sub_cancel]; exact p4, by simp; omega⟩)
        obtain ⟨k', rfl⟩ : ∃ k', k = k' + 1 := ⟨k - 1, by omega⟩
        obtain ⟨D5, f1, f2, f3⟩ := fin_last (F := F) (P := P) (D := D4) (d := d) (k := k') (b := 0) (h := 0) (by omega) w1 w2 w3 (by omega) (by omega) (by rw [k2.2 d (by omega)]; exact p4) (fun c => by omega) k3 (by simp only [List.length_append, List.length_cons, List.length_nil]; omega)
        refine ⟨D5, k', by omega, tf_trans q1 (tf_trans (tf_le k2 (by omega)) (tf_p f3)), ?_, ?_⟩
        · rw [htx]
          simpa using f2
        · rw [k4, nI_s1 (by omega), Nat.add_sub_cancel, f1]
          show (f_X9_finish_7 F P xS0 k' 204 (nI d - 1) D5).bind (fun q => f_X9_write_12 F P xS0 (fu + 0) 204 202 (nI (i + 1 + sz l)) q) = (f_X9_finish_7 F P xS0 k' 204 (nI d - 1) D5).bind (fun q => f_X9_write_12 F P xS0 fu 204 202 (nI (i + (1 + sz l + 0))) q)
          simp only [Nat.add_zero, Nat.add_assoc]
      · obtain ⟨_, wl2, wr⟩ := w4.resolve_left (fun c => by omega)
        rw [if_neg h9, if_neg (show ¬ s ≤ 13 by omega)] at hl ⊢
        rw [hm0 (by omega), agT_0, List.append_nil] at p2
        simp only [List.length_append, List.length_cons, List.length_nil] at hl
        have hm00 := hm0 (by omega)
        obtain ⟨D4, k, k1, k2, k3, k4⟩ := E_trun (P := P) hF hN l (i + 1) (d + 1) D3 _ true (fu + sz r) wl (by rw [u203 q1]; exact t2) (by omega) (u202 q1) p3 (by omega) p2 (by simp only [List.length_append, List.length_cons, List.length_nil]; omega) (Or.inr ⟨s, m, 0, 0, by omega, w1, w2, w3, by omega, by omega, by rw [Nat.add_sub_cancel]; exact p4, by simp; omega⟩)
        obtain ⟨k', rfl⟩ : ∃ k', k = k' + 1 := ⟨k - 1, by omega⟩
        obtain ⟨D5, f1, f2, f3, f4, f5⟩ := fin_half (F := F) (P := P) (D := D4) (d := d) (k := k') (b := 0) (by omega) (by omega) w2 w3 (by omega) (by rw [k2.2 d (by omega)]; exact p4) k3 (by simp only [List.length_append, List.length_cons, List.length_nil]; omega)
        obtain ⟨D6, k5, g1, g2, g3, g4⟩ := sec 0 D5 _ (by omega) (by omega) wr (tf_trans q1 (tf_trans (tf_le k2 (by omega)) f3)) f2 f4 f5 (by simp only [List.length_append, List.length_cons, List.length_nil]; omega)
        refine ⟨D6, k5, g1, g2, ?_, ?_⟩
        · have h15 : (if s = 14 then 93 else if s = 15 then 125 else sgn s m) = (if s = 14 then 93 else 125) := by
            by_cases q : s = 14
            · rw [if_pos q, if_pos q]
            · rw [if_neg q, if_neg q, if_pos (by omega)]
          rw [h15, if_neg (show ¬ 0 = 1 by omega), List.append_nil] at g3
          simpa [List.append_assoc, hm00] using g3
        · rw [k4, nI_s1 (by omega), Nat.add_sub_cancel, f1, Option.bind_some]
          exact g4
theorem M_tell {dA : T → Nat → Int32} {F P : Nat} (hF : 10000 < F) (hP : 2005 < P) {D : xDt} (h : Iv dA D) : Two dA D (f_X11_tell F P xS0 0) (f_X12_tell F P xS0 241) := by
  obtain ⟨W, L, t, E, sg, tx, a1, a2, a3, a4, a5, a6, a7, a8⟩ := id h
  obtain ⟨b1, b2, b3, b4, i, b5, b6, b7⟩ := id a3
  have hlen := txt_len b1 b2 b3 true
  -- the class
  generalize hD1 : ((xup (xup D.1 204 1 0) 204 3 0, D.2) : xDt) = D1
  have d1 : ch [204, 205, 206] [] D D1 := by rw [← hD1]; exact ch_i (D' := (xup D.1 204 1 0, D.2)) (by simp) (ch_i (by simp) (ch_rfl _ _ _))
  have d2 : txC D1 [] := ⟨by rw [← hD1]; dsimp only; rw [xup_nk _ _ _ _ _ (by omega), xup_at]; rfl, fun i hi => absurd hi (by simp)⟩
  have d3 : D1.1 204 3 = nI 0 := by rw [← hD1]; dsimp only; rw [xup_at]; rfl
  obtain ⟨fu, hfu⟩ : ∃ fu, F = (fu + 1) + sz t := ⟨F - 1 - sz t, by omega⟩
  obtain ⟨D2, k, k1, k2, k3, k4⟩ := E_trun (F := F) (P := P) hF b2 t 0 0 D1 [] true (fu + 1) b1 (by rw [d1.1 203 (by decide)]; exact b4.2) (by omega) (by rw [d1.1 202 (by decide)]; exact b4.1) d3 (by omega) d2 (by simpa using hlen) (Or.inl ⟨rfl, rfl⟩)
  rw [List.nil_append] at k3
  obtain ⟨k', rfl⟩ : ∃ k', k = k' + 1 := ⟨k - 1, by omega⟩
  generalize hD3 : ((xup D2.1 204 3 0, D2.2) : xDt) = D3
  have e3 : ch [204, 205, 206] [] D D3 := by rw [← hD3]; exact ch_i (by simp) (ch_trans d1 k2.1)
  have e4 : txC D3 (txt t true) := ⟨by rw [← hD3]; dsimp only; rw [xup_nk _ _ _ _ _ (by omega)]; exact k3.1, by rw [← hD3]; dsimp only; rw [xup_ne _ _ _ _ (by omega)]; exact k3.2⟩
  have c1 : f_X11_tell F P xS0 0 D = some (nI (txt t true).length, D3) := by
    rw [e_X11_tell, e_X9_write]
    simp only [xlet]
    rw [hD1]
    have e : f_X9_write_12 F P xS0 F 204 202 0 D1 = f_X9_write_12 F P xS0 ((fu + 1) + sz t) 204 202 (nI 0) D1 := by rw [← hfu]; rfl
    rw [e, k4, e_X9_finish_7, if_pos (by decide)]
    simp only [xlet, Option.bind_some]
    rw [hD3, e_X9_write_12, if_pos (by rw [e3.1 202 (by decide), b4.1, Nat.zero_add]; exact Int32.le_refl _), Option.bind_some, e4.1]
  -- the reference
  generalize hM1 : ((xup D3.1 241 21 0, D3.2) : xDt) = M1
  have m1 : mF D3 M1 := by
    rw [← hM1]
    exact ⟨ch_i (by simp) (ch_rfl _ _ _), fun j hj => by dsimp only; rw [xup_nk _ _ _ _ _ hj]⟩
  have m2 : txM M1 [] := ⟨by rw [← hM1]; dsimp only; rw [xup_at]; rfl, fun i hi => absurd hi (by simp)⟩
  have hnd : nd M1.1 0 t i := nd_congr (fun x hx hx2 j _ _ => by rw [m1.1.1 x (by simp; omega), e3.1 x (by simp; omega)]) b7
  obtain ⟨M2, f1, f2, f3⟩ := E_mwrite (F := F) (P := P) hF t i P true M1 [] b1 hnd (by omega) m2 (by simp; omega)
  rw [List.nil_append] at f2
  have h14 : M1.1 241 14 = nI i := by rw [m1.2 14 (by omega), e3.1 241 (by decide)]; exact b6
  have c2 : f_X12_tell F P xS0 241 D3 = some (nI (txt t true).length, M2) := by
    rw [e_X12_tell]
    simp only [xlet]
    rw [hM1, show xup D3.1 241 21 0 241 14 = nI i by rw [← hM1] at h14; exact h14, show f_X12_write F P xS0 P 241 (nI i) 1 M1 = _ from f1, Option.bind_some, f2.1]
  have mm := mF_trans m1 f3
  have q : ∀ x, x ≠ 204 → x ≠ 205 → x ≠ 206 → x ≠ 241 → x ≠ 253 → M2.1 x = D.1 x := fun x h1 h2 h3 h4 h5 => by rw [mm.1.1 x (by simp; omega), e3.1 x (by simp; omega)]
  have qL : ∀ x, M2.2 x = D.2 x := fun x => by rw [mm.1.2 x (by simp), e3.2 x (by simp)]
  have q1 : ∀ j, j ≠ 21 → M2.1 241 j = D.1 241 j := fun j hj => by rw [mm.2 j hj, e3.1 241 (by decide)]
  refine ⟨_, D3, M2, c1, c2, W, L, t, E, sg, txt t true, ?_, ?_, ?_, ?_, ?_, ⟨hlen, ?_, ?_, f2.1, f2.2⟩, ?_, ?_⟩
  · exact iW_congr (congrFun (q 1 (by omega) (by omega) (by omega) (by omega) (by omega)) 0) (qL 2) (qL 3) (q1 1 (by omega)) (q 242 (by omega) (by omega) (by omega) (by omega) (by omega)) (q 243 (by omega) (by omega) (by omega) (by omega) (by omega)) a1
  · exact iK_congr (q 4 (by omega) (by omega) (by omega) (by omega) (by omega)) (q1 7 (by omega)) (fun x hx hx2 => ⟨q x (by omega) (by omega) (by omega) (by omega) (by omega), qL x⟩) (fun x hx hx2 => q x (by omega) (by omega) (by omega) (by omega) (by omega)) a2
  · exact iT_congr (congrFun (q 202 (by omega) (by omega) (by omega) (by omega) (by omega)) 1) (q 203 (by omega) (by omega) (by omega) (by omega) (by omega)) (q1 14 (by omega)) (fun x hx hx2 j _ => congrFun (q x (by omega) (by omega) (by omega) (by omega) (by omega)) j) a3
  · exact iE_congr (congrFun (q 42 (by omega) (by omega) (by omega) (by omega) (by omega)) 0) (q1 25 (by omega)) (fun x hx => q x (by omega) (by omega) (by omega) (by omega) (by omega)) (fun x hx hx2 j _ _ => congrFun (q x (by omega) (by omega) (by omega) (by omega) (by omega)) j) a4
  · exact iS_congr (congrFun (q 192 (by omega) (by omega) (by omega) (by omega) (by omega)) 1) (q 193 (by omega) (by omega) (by omega) (by omega) (by omega)) (q1 16 (by omega)) (q 252 (by omega) (by omega) (by omega) (by omega) (by omega)) a5
  · rw [mm.1.1 204 (by decide)]; exact e4.1
  · rw [mm.1.1 205 (by decide)]; exact e4.2
  · exact iJ_congr (congrFun (q 0 (by omega) (by omega) (by omega) (by omega) (by omega)) 13) (qL 0) a7
  · exact iD_congr (congrFun (q 0 (by omega) (by omega) (by omega) (by omega) (by omega)) 14) (q 223 (by omega) (by omega) (by omega) (by omega) (by omega)) a8
