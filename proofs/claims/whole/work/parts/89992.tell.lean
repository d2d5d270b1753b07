/-! tell: the text of a formula -/
def agT (m : Nat) : Nat → List Nat
  | 0 => []
  | g + 1 => agT m g ++ (if m.testBit g then [49 + g] else [])
def txt : T → Bool → List Nat
  | .leaf, _ => []
  | .inner s m _ l r, wh =>
    if s ≤ 3 then [sgn s m]
    else if s ≤ 9 then [sgn s m] ++ (if 5 ≤ s then agT m 4 else []) ++ txt l false
    else if s ≤ 13 then (if wh then [] else [40]) ++ txt l false ++ [sgn s m] ++ txt r false ++ (if wh then [] else [41])
    else [sgn s m] ++ txt l true ++ [if s = 14 then 93 else 125] ++ txt r false
theorem agT_len (m : Nat) : ∀ g, (agT m g).length ≤ g
  | 0 => Nat.le_refl _
  | g + 1 => by
    have := agT_len m g
    rw [agT, List.length_append]
    split <;> simp <;> omega
theorem agT_1 : ∀ m, m < 16 → (m = 1 ∨ m = 2 ∨ m = 4 ∨ m = 8) → (agT m 4).length = 1 := by decide +kernel
theorem agT_e : ∀ m, m < 16 → ∀ x, x ∈ agT m 4 → x < 128 := by decide +kernel
theorem txt_5 : ∀ (t : T) (wh : Bool), (txt t wh).length ≤ 5 * sz t
  | .leaf, _ => by simp [txt]
  | .inner s m () l r, wh => by
    have h1 := txt_5 l
    have h2 := txt_5 r
    have h3 := agT_len m 4
    have a1 := h1 false
    have a2 := h2 false
    have a3 := h1 true
    rw [txt, sz]
    split
    · simp; omega
    · split
      · simp only [List.length_append, List.length_cons, List.length_nil]
        split <;> simp <;> omega
      · split
        · simp only [List.length_append, List.length_cons, List.length_nil]
          split <;> simp <;> omega
        · simp only [List.length_append, List.length_cons, List.length_nil]; omega
theorem txt_2 : ∀ (t : T) (wh : Bool), wfT t → plT t → (txt t wh).length + 1 ≤ 2 * sz t
  | .leaf, _, h, _ => absurd h (by simp [wfT])
  | .inner s m () l r, wh, ⟨w1, w2, w3, w4⟩, ⟨p1, p2, p3⟩ => by
    rw [txt, sz]
    rcases w4 with ⟨q1, rfl, rfl⟩ | ⟨q1, q2, q3, rfl⟩ | ⟨q1, q2, q3⟩
    · rw [if_pos q1]; simp [sz]
    · have a1 := txt_2 l false q3 p2
      rw [if_neg (by omega), if_pos q2]
      simp only [List.length_append, List.length_cons, List.length_nil, sz]
      by_cases h5 : 5 ≤ s
      · have hm : m = 1 ∨ m = 2 ∨ m = 4 ∨ m = 8 := by unfold mOK at w3; omega
        rw [if_pos h5, agT_1 m (m16 w3) hm]; omega
      · rw [if_neg h5]; simp; omega
    · have a1 := txt_2 l false q2 p2
      have a2 := txt_2 r false q3 p3
      rw [if_neg (by omega), if_neg (by omega), if_pos (by omega)]
      simp only [List.length_append, List.length_cons, List.length_nil]
      split <;> simp <;> omega
theorem txt_len {t : T} (hw : wfT t) (hz : sz t ≤ 2000) (h : sz t ≤ 150 ∨ plT t) (wh : Bool) : (txt t wh).length ≤ 4000 := by
  rcases h with h | h
  · have := txt_5 t wh; omega
  · have := txt_2 t wh hw h; omega
/-! the reference -/
def txM (D : xDt) (l : List Nat) : Prop := D.1 241 21 = nI l.length ∧ tkAt (D.1 253) 0 l
def mF (D D' : xDt) : Prop := ch [241, 253] [] D D' ∧ ∀ j, j ≠ 21 → D'.1 241 j = D.1 241 j
theorem mF_trans {D D' D'' : xDt} (h : mF D D') (h' : mF D' D'') : mF D D'' := ⟨ch_trans h.1 h'.1, fun j hj => (h'.2 j hj).trans (h.2 j hj)⟩
theorem E_mput {F P : Nat} {D : xDt} {l : List Nat} {c : Nat} (h : txM D l) (hl : l.length < 20000) (hc : c < 128) : oK (f_X12_put F P xS0 241 (nI c) D) (fun D' => txM D' (l ++ [c]) ∧ mF D D') := by
  rw [e_X12_put, h.1, if_neg (show ¬ 20000 ≤ nI l.length from fun q => by have := (nI_leI (a := 20000) (by omega) (by omega)).mp q; omega), xgrd_in (by omega) (by omega), nI_clamp (by omega), by_b2 c hc]
  simp only [xlet]
  rw [xup_na _ _ _ _ _ (show 241 ≠ 253 by omega), h.1, nI_1]
  refine oK_some ⟨⟨?_, ?_⟩, ch_i (D' := (xup D.1 253 l.length (nI c), D.2)) (by simp) (ch_i (by simp) (ch_rfl _ _ _)), fun j hj => ?_⟩
  · dsimp only
    rw [xup_at, List.length_append]; rfl
  · refine tkAt_more h.2 (fun i hi => ?_) ?_
    · dsimp only
      rw [xup_na _ _ _ _ _ (by omega), xup_nk _ _ _ _ _ (by omega)]
    · dsimp only
      rw [xup_na _ _ _ _ _ (by omega), xup_at]
  · dsimp only
    rw [xup_nk _ _ _ _ _ hj, xup_na _ _ _ _ _ (by omega)]
theorem E_charAt {F P : Nat} {S : xSt} {D : xDt} {s m : Nat} (h1 : 4 ≤ s) (h2 : s ≤ 15) (hm : m < 16) : f_J0_charAt_5068e F P S 3 (nI s) D = some (nI (sgn s m), D) := by
  have hs : ∀ s, s < 16 → 4 ≤ s → ∀ m, m < 16 → sgn s m = sgn s 0 := by decide +kernel
  rw [hs s (by omega) h1 m hm]
  rcases (show s = 4 ∨ s = 5 ∨ s = 6 ∨ s = 7 ∨ s = 8 ∨ s = 9 ∨ s = 10 ∨ s = 11 ∨ s = 12 ∨ s = 13 ∨ s = 14 ∨ s = 15 by omega) with rfl | rfl | rfl | rfl | rfl | rfl | rfl | rfl | rfl | rfl | rfl | rfl <;> rfl
theorem E_putGroup {F P : Nat} (hF : 10000 < F) {D : xDt} {l : List Nat} {m : Nat} (h : txM D l) (hl : l.length + 4 ≤ 20000) (hm : m < 16) : oK (f_X12_putGroup F P xS0 241 (nI m) D) (fun D' => txM D' (l ++ agT m 4) ∧ mF D D') := by
  rw [e_X12_putGroup]
  refine lpu (W := fun n g (D1 : xDt) => oK (f_X12_putGroup_2 F P xS0 n 241 (nI m) (nI (g + 1)) D1) _) (I := fun g D1 => txM D1 (l ++ agT m g) ∧ mF D D1) 4 ?_ ?_ 4 0 _ F (by omega) (by omega) ⟨by rw [agT, List.append_nil]; exact h, ch_rfl _ _ _, fun _ _ => rfl⟩
  · rintro n D1 ⟨i1, i2⟩
    rw [e_X12_putGroup_2, if_pos (by decide)]
    exact oK_some ⟨i1, i2⟩
  · rintro n g D1 hg ⟨i1, i2⟩ hk
    have hag := agT_len m g
    rw [e_X12_putGroup_2, k4, if_neg (by rw [nI_ltI (by omega) (by omega)]; omega), nI_s1 (by omega), Nat.add_sub_cancel]
    simp only [e_X12_putGroup_26, xlet]
    rw [nI_1]
    by_cases q : m.testBit g = true
    · rw [if_pos ((gr_bit m hm g hg).mpr q), show (48 : Int32) = nI 48 from rfl, nI_add]
      refine oK_bind (E_mput i1 (by rw [List.length_append]; omega) (by omega)) ?_
      rintro D2 ⟨j1, j2⟩
      refine hk D2 ⟨?_, mF_trans i2 j2⟩
      rw [agT, if_pos q, ← List.append_assoc, show 49 + g = 48 + (g + 1) by omega]; exact j1
    · rw [if_neg (fun c => q ((gr_bit m hm g hg).mp c))]
      refine hk D1 ⟨?_, i2⟩
      rw [agT, if_neg q, List.append_nil]; exact i1
theorem sgn_lt (s m : Nat) : sgn s m < 128 := Nat.mod_lt _ (by omega)
theorem E_mwrite {F P : Nat} (hF : 10000 < F) {lo : Nat} : ∀ (t : T) (i n : Nat) (wh : Bool) (D : xDt) (l : List Nat), wfT t → nd D.1 lo t i → sz t < n → txM D l → l.length + 5 * sz t ≤ 20000 → oK (f_X12_write F P xS0 n 241 (nI i) (if wh then 1 else 0) D) (fun D' => txM D' (l ++ txt t wh) ∧ mF D D')
  | .leaf, _, _, _, _, _, h, _, _, _, _ => absurd h (by simp [wfT])
  | .inner s m () l r, i, 0, _, _, _, _, _, h, _, _ => absurd h (by omega)
  | .inner s m () l r, i, n + 1, wh, D, tx, hw, hd, hs, ht, hl => by
    obtain ⟨w1, w2, w3, w4⟩ := hw
    obtain ⟨d1, d2, d3, d4, d5, d6, d7⟩ := hd
    have hi : xin (nI i) 92800 = true := xin_nI d2 (by omega)
    have hc : (nI i).toNatClampNeg = i := nI_clamp (by omega)
    have hm := m16 w3
    have hsg := sgn_lt s m
    rw [sz] at hs hl
    rw [txt]
    have x1 := txt_5 l false
    have x2 := txt_5 r false
    have x3 := txt_5 l true
    have hag := agT_len m 4
    have hif : (if 5 ≤ s then agT m 4 else []).length ≤ 4 := by
      split
      · exact hag
      · simp
    have hwb : (if wh then [] else [40] : List Nat).length ≤ 1 := by cases wh <;> simp
    show oK (f_X12_write_o F P xS0 (f_X12_write F P xS0 n) 241 (nI i) (if wh then 1 else 0) D) _
    rw [e_X12_write_o, hi, xgrd_t, hc, d3]
    simp only [xlet]
    -- what the NODES say stays
    have keep : ∀ D1, mF D D1 → ∀ x, 247 ≤ x → x ≤ 251 → D1.1 x = D.1 x := fun D1 h x h1 h2 => h.1.1 x (by simp; omega)
    have ndk : ∀ D1, mF D D1 → ∀ (t : T) j, nd D.1 lo t j → nd D1.1 lo t j := fun D1 h t j hn => nd_congr (fun x hx hx2 k _ _ => by rw [keep D1 h x hx hx2]) hn
    rcases w4 with ⟨w4, rfl, rfl⟩ | ⟨w4, w5, w6, rfl⟩ | ⟨w4, w5, w6⟩
    · rw [if_pos w4]
      rw [if_pos (show nI s < 10 from (nI_ltI (b := 10) (by omega) (by omega)).mpr (by omega)), e_X12_write_72, hi, hc, xgrd_t, if_neg (show ¬ 4 ≤ nI s from fun q => by have := (nI_leI (a := 4) (by omega) (by omega)).mp q; omega), d4]
      have fin : ∀ x : Int32, x = nI (sgn s m) → oK (f_X12_write_107 F P xS0 (f_X12_write F P xS0 n) x 241 D) (fun D' => txM D' (tx ++ [sgn s m]) ∧ mF D D') := by
        rintro x rfl
        unfold f_X12_write_107
        refine oK_bind (E_mput ht (by omega) hsg) ?_
        rintro D2 hD2
        exact oK_some hD2
      rcases (show s = 1 ∨ s = 2 ∨ s = 3 by omega) with rfl | rfl | rfl
      · have m8 : m < 8 := m_8 w3 rfl
        rw [if_pos (show nI 1 = 1 from rfl)]
        refine fin _ ?_
        rw [show (97 : Int32) = nI 97 from rfl, nI_add]
        congr 1
        show 97 + m = (97 + m) % 128
        omega
      · rw [if_neg (show ¬ nI 2 = 1 by decide), if_pos (show nI 2 = 2 from rfl)]
        exact fin _ rfl
      · rw [if_neg (show ¬ nI 3 = 1 by decide), if_neg (show ¬ nI 3 = 2 by decide)]
        exact fin _ rfl
    · rcases d6 with ⟨e, _⟩ | ⟨j, hj, e, hn⟩
      · subst e; exact absurd w6 (by simp [wfT])
      rw [if_neg (show ¬ s ≤ 3 by omega), if_pos w5]
      rw [if_pos (show nI s < 10 from (nI_ltI (b := 10) (by omega) (by omega)).mpr (by omega)), e_X12_write_72, if_pos (show 4 ≤ nI s from (nI_leI (a := 4) (by omega) (by omega)).mpr w4), E_charAt w4 w2 hm, Option.bind_some]
      refine oK_bind (E_mput ht (by omega) hsg) ?_
      rintro D1 ⟨c1, c2⟩
      rw [if_pos (show nI s < 14 from (nI_ltI (b := 14) (by omega) (by omega)).mpr (by omega)), hi, hc, xgrd_t, keep D1 c2 250 (by omega) (by omega), d4]
      have hgrp : oK (f_X12_putGroup F P xS0 241 (nI m) D1) (fun D' => txM D' (tx ++ [sgn s m] ++ (if 5 ≤ s then agT m 4 else [])) ∧ mF D1 D') := by
        by_cases h5 : 5 ≤ s
        · rw [if_pos h5]
          refine E_putGroup hF c1 ?_ hm
          simp only [List.length_append, List.length_cons, List.length_nil]
          omega
        · have hm0 : m = 0 := by unfold mOK at w3; omega
          rw [if_neg h5]
          subst hm0
          refine oK_mono (E_putGroup hF c1 ?_ hm) ?_
          · simp only [List.length_append, List.length_cons, List.length_nil]
            omega
          · intro D' h; exact h
      refine oK_bind hgrp ?_
      rintro D2 ⟨c3, c4⟩
      have c5 := mF_trans c2 c4
      rw [xgrd_t, keep D2 c5 248 (by omega) (by omega), e]
      refine oK_bind (E_mwrite (P := P) hF l j n false D2 _ w6 (ndk D2 c5 l j hn) (by omega) c3 (by simp only [List.length_append, List.length_cons, List.length_nil]; omega)) ?_
      rintro D3 ⟨c6, c7⟩
      exact oK_some ⟨by rw [← List.append_assoc, ← List.append_assoc]; exact c6, mF_trans c5 c7⟩
    · rcases d6 with ⟨e, _⟩ | ⟨j, hj, e, hn⟩
      · subst e; exact absurd w5 (by simp [wfT])
      rcases d7 with ⟨e9, _⟩ | ⟨j2, hj2, e9, hn2⟩
      · subst e9; exact absurd w6 (by simp [wfT])
      by_cases h13 : s ≤ 13
      · rw [if_neg (show ¬ s ≤ 3 by omega), if_neg (show ¬ s ≤ 9 by omega), if_pos h13]
        rw [if_neg (show ¬ nI s < 10 from fun q => by have := (nI_ltI (b := 10) (by omega) (by omega)).mp q; omega), if_neg (show ¬ 13 < nI s from fun q => by have := (nI_ltI (a := 13) (by omega) (by omega)).mp q; omega)]
        have body : ∀ (D1 : xDt) (tx1 : List Nat), mF D D1 → txM D1 tx1 → tx1.length = tx.length + (if wh then [] else [40]).length → oK (f_X12_write_29 F P xS0 (f_X12_write F P xS0 n) 241 (nI i) (if wh then 1 else 0) (nI s) D1) (fun D' => txM D' (tx1 ++ txt l false ++ [sgn s m] ++ txt r false ++ (if wh then [] else [41])) ∧ mF D D') := by
          intro D1 tx1 c1 c2 hlen
          rw [e_X12_write_29, hi, hc, xgrd_t, keep D1 c1 248 (by omega) (by omega), e]
          refine oK_bind (E_mwrite (P := P) hF l j n false D1 tx1 w5 (ndk D1 c1 l j hn) (by omega) c2 (by omega)) ?_
          rintro D2 ⟨c3, c4⟩
          have c5 := mF_trans c1 c4
          rw [E_charAt (by omega) w2 hm, Option.bind_some]
          refine oK_bind (E_mput c3 (by simp only [List.length_append]; omega) hsg) ?_
          rintro D3 ⟨c6, c7⟩
          have c8 := mF_trans c5 c7
          rw [xgrd_t, keep D3 c8 249 (by omega) (by omega), e9]
          refine oK_bind (E_mwrite (P := P) hF r j2 n false D3 _ w6 (ndk D3 c8 r j2 hn2) (by omega) c6 (by simp only [List.length_append, List.length_cons, List.length_nil]; omega)) ?_
          rintro D4 ⟨c9, c10⟩
          have c11 := mF_trans c8 c10
          cases wh
          · rw [if_pos (by rfl)]
            refine oK_bind (E_mput (c := 41) c9 (by simp only [List.length_append, List.length_cons, List.length_nil]; simp at hlen; omega) (by omega)) ?_
            rintro D5 ⟨c12, c13⟩
            exact oK_some ⟨by simpa using c12, mF_trans c11 c13⟩
          · rw [if_neg (by decide)]
            exact oK_some ⟨by simpa using c9, c11⟩
        cases wh
        · rw [if_pos (by rfl)]
          refine oK_bind (E_mput (c := 40) ht (by omega) (by omega)) ?_
          rintro D1 ⟨c1, c2⟩
          have := body D1 (tx ++ [40]) c2 c1 (by simp)
          simpa using this
        · rw [if_neg (by decide)]
          have := body D tx ⟨ch_rfl _ _ _, fun _ _ => rfl⟩ ht (by simp)
          simpa using this
      · rw [if_neg (show ¬ s ≤ 3 by omega), if_neg (show ¬ s ≤ 9 by omega), if_neg h13]
        rw [if_neg (show ¬ nI s < 10 from fun q => by have := (nI_ltI (b := 10) (by omega) (by omega)).mp q; omega), if_pos (show 13 < nI s from (nI_ltI (a := 13) (by omega) (by omega)).mpr (by omega)), e_X12_write_72, if_pos (show 4 ≤ nI s from (nI_leI (a := 4) (by omega) (by omega)).mpr (by omega)), E_charAt (by omega) w2 hm, Option.bind_some]
        refine oK_bind (E_mput ht (by omega) hsg) ?_
        rintro D1 ⟨c1, c2⟩
        rw [if_neg (show ¬ nI s < 14 from fun q => by have := (nI_ltI (b := 14) (by omega) (by omega)).mp q; omega), hi, hc, xgrd_t, keep D1 c2 248 (by omega) (by omega), e]
        refine oK_bind (E_mwrite (P := P) hF l j n true D1 _ w5 (ndk D1 c2 l j hn) (by omega) c1 (by simp only [List.length_append, List.length_cons, List.length_nil]; omega)) ?_
        rintro D2 ⟨c3, c4⟩
        have c5 := mF_trans c2 c4
        have h152 : ∀ (c : Nat), c < 128 → oK (f_X12_write_152 F P xS0 (f_X12_write F P xS0 n) 241 (nI i) (nI c) 241 D2) (fun D' => txM D' (tx ++ [sgn s m] ++ txt l true ++ [c] ++ txt r false) ∧ mF D D') := by
          intro c hc128
          rw [e_X12_write_152]
          refine oK_bind (E_mput c3 (by simp only [List.length_append, List.length_cons, List.length_nil]; omega) hc128) ?_
          rintro D3 ⟨c6, c7⟩
          have c8 := mF_trans c5 c7
          rw [hi, hc, xgrd_t, keep D3 c8 249 (by omega) (by omega), e9]
          refine oK_bind (E_mwrite (P := P) hF r j2 n false D3 _ w6 (ndk D3 c8 r j2 hn2) (by omega) c6 (by simp only [List.length_append, List.length_cons, List.length_nil]; omega)) ?_
          rintro D4 ⟨c9, c10⟩
          exact oK_some ⟨c9, mF_trans c8 c10⟩
        by_cases h14 : s = 14
        · rw [if_pos (by rw [h14]; rfl), if_pos h14]
          have := h152 93 (by omega)
          rw [show nI 93 = 93 from rfl] at this
          simpa using this
        · rw [if_neg (show ¬ nI s = 14 from fun q => h14 ((nI_eq (b := 14) (by omega) (by omega)).mp q)), if_neg h14]
          have := h152 125 (by omega)
          rw [show nI 125 = 125 from rfl] at this
          simpa using this
