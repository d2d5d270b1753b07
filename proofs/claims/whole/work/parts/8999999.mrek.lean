/-! decide: the reference reckons -/
def bI (b : Bool) : Int32 := if b = true then 1 else 0
theorem bi_nI (u : Nat) {i : Nat} (hi : i < 32) : bi (nI u) i = u.testBit i := by
  show (BitVec.ofNat 32 u).getLsbD i = _
  rw [BitVec.getLsbD_ofNat]
  simp [hi]
theorem bi_one (i : Nat) : bi 1 i = decide (i = 0) := by
  by_cases h : i < 32
  · revert h; revert i; decide +kernel
  · rw [bi_big (by omega)]
    have : ¬ i = 0 := by omega
    simp [this]
theorem bi_zero (i : Nat) : bi 0 i = false := by simp [bi]
theorem sh_bit (u : Nat) {k : Nat} (hk : k < 32) : jishr (nI u) (nI k) &&& 1 = bI (u.testBit k) := by
  apply bi_ext
  intro i hi
  rw [bi_and, bi_sshr k hk _ hi, bi_one]
  unfold bI
  by_cases c : i = 0
  · subst c
    rw [if_pos (by omega), bi_nI u (by omega), Nat.add_zero]
    cases u.testBit k
    · rw [if_neg (by simp), bi_zero]; rfl
    · rw [if_pos rfl, bi_one]; rfl
  · cases u.testBit k
    · rw [show (if false = true then (1 : Int32) else 0) = 0 from rfl, bi_zero]; simp [c]
    · rw [show (if true = true then (1 : Int32) else 0) = 1 from rfl, bi_one]; simp [c]
theorem nI_and (a b : Nat) : nI a &&& nI b = nI (a &&& b) := by
  apply Int32.toBitVec_inj.mp
  rw [Int32.toBitVec_and]
  show BitVec.ofNat 32 a &&& BitVec.ofNat 32 b = BitVec.ofNat 32 (a &&& b)
  apply BitVec.eq_of_getLsbD_eq
  intro i hi
  simp [BitVec.getLsbD_ofNat, hi]
theorem sh_1 : ∀ k, k < 31 → jishl 1 (nI k) = nI (2 ^ k) := by decide +kernel
theorem bI_1 (b : Bool) : bI b = 1 ↔ b = true := by cases b <;> decide
theorem bI_0 (b : Bool) : bI b = 0 ↔ b = false := by cases b <;> decide
theorem bI_a (b : Bool) : bI b &&& 1 = bI b := by cases b <;> decide
def evs (s : Nat) (x y : Bool) : Bool := if s = 3 then true else if s = 4 then !x else if s = 10 then decide (x = y) else if s = 11 then !x || y else if s = 12 then x || y else if s = 13 then x && y else false
theorem evt_b (v : T → Bool) (s m : Nat) (l r : T) : evt v (bn s m l r) = if isB s = true then v (bn s m l r) else evs s (evt v l) (evt v r) := by
  rw [evt]; rfl
section
variable {F P : Nat} {D : xDt} {N B : List T}
theorem E_place {i k : Nat} {x : T} (hN : rN D.1 N) (hz : N.length ≤ 8000) (hB : rB D.1 N B) (hb : B.length ≤ 13) (hx : N[i]? = some x) (hk : B[k]? = some x) : ∀ (d j n : Nat) (v : Int32), j + d = B.length → d < n → f_X12_placeInBase_5 F P xS0 n 241 (nI (12800 + i)) v (nI j) D = some (if j ≤ k then nI k else v, D)
  | _, _, 0, _, _, h => absurd h (by omega)
  | 0, j, n + 1, v, h1, _ => by
    have := lt_of_at hk
    rw [e_X12_placeInBase_5, hB.2.1, if_pos (by rw [nI_leI (by omega) (by omega)]; omega), if_neg (by omega)]
  | d + 1, j, n + 1, v, h1, h2 => by
    have hj : j < B.length := by omega
    obtain ⟨y, hy⟩ : ∃ y, B[j]? = some y := ⟨B[j], List.getElem?_eq_getElem hj⟩
    obtain ⟨q, hq, hq2⟩ := hB.2.2 j y hy
    have := lt_of_at hq
    have := lt_of_at hx
    have := lt_of_at hk
    rw [e_X12_placeInBase_5, hB.2.1, if_neg (by rw [nI_leI (by omega) (by omega)]; omega), xgrd_in (by omega) (by omega), nI_clamp (by omega), hq2]
    by_cases c : y = x
    · subst c
      have e1 : q = i := (List.getElem?_inj (lt_of_at hq) hN.1).mp (by rw [hq, hx])
      have e2 : j = k := (List.getElem?_inj (lt_of_at hy) hB.1).mp (by rw [hy, hk])
      subst e1 e2
      rw [if_pos rfl, e_X12_placeInBase_28, nI_1]
      simp only [xlet]
      rw [E_place hN hz hB hb hx hk d (j + 1) n (nI j) (by omega) (by omega), if_neg (by omega), if_pos (by omega)]
    · have hjk : j ≠ k := fun q => c (by subst q; rw [hy] at hk; injection hk)
      rw [if_neg (fun q' => by
        rw [nI_eq (by omega) (by omega)] at q'
        have : q = i := by omega
        subst this
        rw [hq] at hx; injection hx with hx; exact c hx), e_X12_placeInBase_28, nI_1]
      simp only [xlet]
      rw [E_place hN hz hB hb hx hk d (j + 1) n v (by omega) (by omega)]
      by_cases c2 : j ≤ k
      · rw [if_pos (by omega), if_pos c2]
      · rw [if_neg (by omega), if_neg c2]
end
theorem e75 {F P : Nat} {rec : Nat → Int32 → Int32 → Int32 → xDt → Option (xDt)} {v1 v2 : Int32} {i s : Nat} {x y : Bool} {D : xDt} (hi : i < 8000) (hs : s < 16) (h : D.1 247 (12800 + i) = nI s) : f_X12_reckon_75 F P xS0 rec 241 v1 v2 (nI (12800 + i)) (bI x) (bI y) D = f_X12_reckon_172 F P xS0 rec 241 v1 v2 (nI (12800 + i)) (nI s) (bI (evs s x y)) D := by
  rw [e_X12_reckon_75, xgrd_in (by omega) (by omega), nI_clamp (by omega), h]
  simp only [xlet, e_X12_reckon_167, e_X12_reckon_102, e_X12_reckon_116, e_X12_reckon_133, e_X12_reckon_150, e_X12_reckon_171]
  have : s = 0 ∨ s = 1 ∨ s = 2 ∨ s = 3 ∨ s = 4 ∨ s = 5 ∨ s = 6 ∨ s = 7 ∨ s = 8 ∨ s = 9 ∨ s = 10 ∨ s = 11 ∨ s = 12 ∨ s = 13 ∨ s = 14 ∨ s = 15 := by omega
  rcases this with rfl | rfl | rfl | rfl | rfl | rfl | rfl | rfl | rfl | rfl | rfl | rfl | rfl | rfl | rfl | rfl <;> cases x <;> cases y <;> rfl
/-- what a NODE's part tells -/
theorem pv {f : Nat → Nat → Int32} {N : List T} {i : Nat} {x : T} {v : Int32} {w : T → Bool} (hz : N.length ≤ 8000) (hi : i ≤ N.length) (h : rkc N i x v) (hh : ∀ j y, j < i → N[j]? = some y → f 272 j = bI (evt w y)) : (v < 0 ∧ evt w x = false) ∨ ∃ j, j < i ∧ v = nI (12800 + j) ∧ f 272 j = bI (evt w x) := by
  rcases h with ⟨rfl, rfl⟩ | ⟨j, h1, h2, rfl⟩
  · exact Or.inl ⟨by decide, rfl⟩
  · exact Or.inr ⟨j, h1, rfl, hh j x h1 h2⟩
theorem E_rk {F P : Nat} (hF : 100000 < F) {N B : List T} {u : Nat} (hz : N.length ≤ 8000) (hb : B.length ≤ 13) (hBN : ∀ x, x ∈ N → isB (tsr x) = true → x ∈ B) : ∀ (d i n : Nat) (D : xDt), i + d = N.length → d < n → rN D.1 N → rB D.1 N B → (∀ j y, j < i → N[j]? = some y → D.1 272 j = bI (evt (val B u) y)) → ∃ D', f_X12_reckon_4 F P xS0 n 241 (nI u) (nI (12800 + N.length)) (nI (12800 + i)) D = some D' ∧ (∀ j y, N[j]? = some y → D'.1 272 j = bI (evt (val B u) y)) ∧ ch [272] [] D D'
  | _, _, 0, _, _, h, _, _, _ => absurd h (by omega)
  | 0, i, n + 1, D, h1, _, _, _, h3 => by
    refine ⟨D, ?_, fun j y hy => h3 j y (by have := lt_of_at hy; omega) hy, ch_rfl _ _ _⟩
    rw [e_X12_reckon_4, if_pos (by rw [nI_leI (by omega) (by omega)]; omega)]
  | d + 1, i, n + 1, D, h1, h2, hN, hB, h3 => by
    have hi : i < N.length := by omega
    obtain ⟨x, hx⟩ : ∃ x, N[i]? = some x := ⟨N[i], List.getElem?_eq_getElem hi⟩
    obtain ⟨s, m, l, r, e, g1, g2, g3, g4, g5, g6⟩ := hN.2.2 i x hx
    have c12 : (12800 : Int32) = nI 12800 := rfl
    have e1 : f_X12_reckon_4 F P xS0 (n + 1) 241 (nI u) (nI (12800 + N.length)) (nI (12800 + i)) D = f_X12_reckon_41 F P xS0 (f_X12_reckon_4 F P xS0 n) 241 (nI u) (nI (12800 + N.length)) (nI (12800 + i)) (bI (evt (val B u) l)) D := by
      rw [e_X12_reckon_4, if_neg (by rw [nI_leI (by omega) (by omega)]; omega), xgrd_in (by omega) (by omega), nI_clamp (by omega)]
      rcases pv (f := D.1) hz (by omega) g5 h3 with ⟨q1, q2⟩ | ⟨j, q1, q2, q3⟩
      · rw [if_pos q1, e_X12_reckon_40, q2]; rfl
      · rw [q2, if_neg (nI_pos (by omega)), xgrd_in (by omega) (by omega), c12, nI_sub (by omega), Nat.add_sub_cancel_left, xgrd_in (by omega) (by omega), nI_clamp (by omega), q3]
        rcases evt (val B u) l with _ | _
        · rw [if_pos (show bI false = 0 from rfl), e_X12_reckon_40]; rfl
        · rw [if_neg (by decide)]; rfl
    have e2 : f_X12_reckon_41 F P xS0 (f_X12_reckon_4 F P xS0 n) 241 (nI u) (nI (12800 + N.length)) (nI (12800 + i)) (bI (evt (val B u) l)) D = f_X12_reckon_75 F P xS0 (f_X12_reckon_4 F P xS0 n) 241 (nI u) (nI (12800 + N.length)) (nI (12800 + i)) (bI (evt (val B u) l)) (bI (evt (val B u) r)) D := by
      rw [e_X12_reckon_41, xgrd_in (by omega) (by omega), nI_clamp (by omega)]
      rcases pv (f := D.1) hz (by omega) g6 h3 with ⟨q1, q2⟩ | ⟨j, q1, q2, q3⟩
      · rw [if_pos q1, e_X12_reckon_74, q2]; rfl
      · rw [q2, if_neg (nI_pos (by omega)), xgrd_in (by omega) (by omega), c12, nI_sub (by omega), Nat.add_sub_cancel_left, xgrd_in (by omega) (by omega), nI_clamp (by omega), q3]
        rcases evt (val B u) r with _ | _
        · rw [if_pos (show bI false = 0 from rfl), e_X12_reckon_74]; rfl
        · rw [if_neg (by decide)]; rfl
    have fin : ∀ b : Bool, b = evt (val B u) x → ∃ D', f_X12_reckon_213 F P xS0 (f_X12_reckon_4 F P xS0 n) 241 (nI u) (nI (12800 + N.length)) (nI (12800 + i)) (bI b) D = some D' ∧ (∀ j y, N[j]? = some y → D'.1 272 j = bI (evt (val B u) y)) ∧ ch [272] [] D D' := by
      intro b hbx
      have h272 : ∀ a, a ≠ 272 → ((xup D.1 272 i (bI b), D.2) : xDt).1 a = D.1 a := fun a ha => by dsimp only; rw [xup_ne _ _ _ _ ha]
      obtain ⟨D', e', a1, a2⟩ := E_rk (P := P) hF (u := u) hz hb hBN d (i + 1) n (xup D.1 272 i (bI b), D.2) (by omega) (by omega) (rN_congr (by rw [h272 241 (by omega)]) (fun a q1 q2 => h272 a (by omega)) hN) (rB_congr (by rw [h272 241 (by omega)]) (h272 267 (by omega)) (fun _ _ h => h) hB) (fun j y hj hy => by
        dsimp only
        by_cases c : j = i
        · subst c
          rw [xup_at]
          rw [hx] at hy; injection hy with hy; subst hy; rw [hbx]
        · rw [xup_nk _ _ _ _ _ c]; exact h3 j y (by omega) hy)
      refine ⟨D', ?_, a1, ch_trans (ch_i (by simp) (ch_rfl _ _ _)) a2⟩
      rw [e_X12_reckon_213, c12, nI_sub (by omega), Nat.add_sub_cancel_left, xgrd_in (by omega) (by omega), nI_clamp (by omega), bI_a, nI_1]
      exact e'
    have hsx : tsr x = s := by rw [e]; rfl
    rw [e1, e2, e75 (by omega) g1 g3, e_X12_reckon_172]
    by_cases cb : isB s = true
    · have hxB : x ∈ B := hBN x (List.mem_of_getElem? hx) (by rw [hsx]; exact cb)
      obtain ⟨k, hk⟩ := List.mem_iff_getElem?.mp hxB
      have hkl := lt_of_at hk
      have hev : evt (val B u) x = u.testBit k := by
        rw [e, evt_b, if_pos cb, ← e, val_at hB.1 hk]
      have e193 : f_X12_reckon_193 F P xS0 (f_X12_reckon_4 F P xS0 n) 241 (nI u) (nI (12800 + N.length)) (nI (12800 + i)) D = f_X12_reckon_213 F P xS0 (f_X12_reckon_4 F P xS0 n) 241 (nI u) (nI (12800 + N.length)) (nI (12800 + i)) (bI (u.testBit k)) D := by
        rw [e_X12_reckon_193, e_X12_placeInBase, show f_X12_placeInBase_5 F P xS0 F 241 (nI (12800 + i)) (-2) 0 D = some (nI k, D) from by
          have := E_place (F := F) (P := P) hN hz hB hb hx hk B.length 0 F (-2) (by omega) (by omega)
          rw [if_pos (by omega)] at this
          exact this, Option.bind_some]
        dsimp only
        rw [sh_bit u (by omega)]
        rcases u.testBit k with _ | _
        · rw [if_neg (by decide), e_X12_reckon_211]; rfl
        · rw [if_pos (show bI true = 1 from rfl), e_X12_reckon_211]; rfl
      have hs3 : s = 1 ∨ s = 5 ∨ s = 8 := by
        unfold isB at cb
        simp only [Bool.or_eq_true, decide_eq_true_eq] at cb
        omega
      rw [e193]
      have := fin (u.testBit k) hev.symm
      rcases hs3 with q | q | q
      · rw [if_pos (by rw [q]; rfl)]; exact this
      · rw [q, if_neg (show ¬ nI 5 = 1 by decide), if_pos (show nI 5 = 5 from rfl)]; exact this
      · rw [q, if_neg (show ¬ nI 8 = 1 by decide), if_neg (show ¬ nI 8 = 5 by decide), if_pos (show nI 8 = 8 from rfl)]; exact this
    · have hns : s ≠ 1 ∧ s ≠ 5 ∧ s ≠ 8 := by
        unfold isB at cb
        simp only [Bool.or_eq_true, decide_eq_true_eq] at cb
        omega
      rw [if_neg (show ¬ nI s = 1 from fun q => hns.1 ((nI_eq (b := 1) (by omega) (by omega)).mp q)), if_neg (show ¬ nI s = 5 from fun q => hns.2.1 ((nI_eq (b := 5) (by omega) (by omega)).mp q)), if_neg (show ¬ nI s = 8 from fun q => hns.2.2 ((nI_eq (b := 8) (by omega) (by omega)).mp q))]
      exact fin _ (by rw [e, evt_b, if_neg cb])
/-! whether it is a type -/
def tyc (v : T → Bool) (x : T) : Prop := v x = true → tsr x ≠ 1 → evt v (lft x) = true ∧ (tsr x = 8 → ∀ a, a < 4 → (mrk x).testBit a = true → v (tK a x) = true)
theorem E_i59 {F P : Nat} (hF : 100000 < F) {rec : Nat → Int32 → Int32 → xDt → Option (Int32 × xDt)} {v1 v2 : Int32} {N B : List T} {u g m : Nat} {l : T} {D : xDt} (hz : N.length ≤ 8000) (hN : rN D.1 N) (hh : ∀ j y, N[j]? = some y → D.1 272 j = bI (evt (val B u) y)) (hg : N[g]? = some (bn 8 m l nil)) (hK : ∀ a, a < 4 → m.testBit a = true → tK a (bn 8 m l nil) ∈ N) : ∀ (d a n : Nat), a + d = 4 → d < n → ((∀ b, a ≤ b → b < 4 → m.testBit b = true → val B u (tK b (bn 8 m l nil)) = true) ∧ f_X12_isType_59 F P xS0 rec n 241 v1 v2 (nI (12800 + g)) (nI a) D = f_X12_isType_123 F P xS0 rec 241 v1 v2 D) ∨ (¬ (∀ b, a ≤ b → b < 4 → m.testBit b = true → val B u (tK b (bn 8 m l nil)) = true) ∧ f_X12_isType_59 F P xS0 rec n 241 v1 v2 (nI (12800 + g)) (nI a) D = some (0, D))
  | _, _, 0, _, h => absurd h (by omega)
  | 0, a, n + 1, h1, _ => by
    refine Or.inl ⟨fun b q1 q2 => absurd q2 (by omega), ?_⟩
    rw [e_X12_isType_59, if_pos (show (4 : Int32) ≤ nI a from (nI_leI (a := 4) (by omega) (by omega)).mpr (by omega))]
  | d + 1, a, n + 1, h1, h2 => by
    have ha : a < 4 := by omega
    have hgl := lt_of_at hg
    obtain ⟨s', m', l', r', e, g1, g2, g3, g4, g5, g6⟩ := hN.2.2 g _ hg
    injection e with a1 a2 a3 a4 a5
    subst a1 a2
    have ih := E_i59 (F := F) (P := P) hF (rec := rec) (v1 := v1) (v2 := v2) hz hN hh hg hK d (a + 1) n (by omega) (by omega)
    have stp : ∀ q : (m.testBit a = true → val B u (tK a (bn 8 m l nil)) = true), (∀ b, a ≤ b → b < 4 → m.testBit b = true → val B u (tK b (bn 8 m l nil)) = true) ↔ (∀ b, a + 1 ≤ b → b < 4 → m.testBit b = true → val B u (tK b (bn 8 m l nil)) = true) := by
      intro q
      constructor
      · intro h b h1 h2; exact h b (by omega) h2
      · intro h b h1 h2 h3
        by_cases c : b = a
        · subst c; exact q h3
        · exact h b (by omega) h2 h3
    rw [e_X12_isType_59, if_neg (show ¬ (4 : Int32) ≤ nI a from fun q => by have := (nI_leI (a := 4) (by omega) (by omega)).mp q; omega), xgrd_in (by omega) (by omega), nI_clamp (by omega), g3, if_pos (show nI 8 = 8 from rfl), xgrd_in (by omega) (by omega), g4, a_bit a ha]
    by_cases c : m.testBit a = true
    · rw [if_pos ((m_bit m g2 a ha).mpr c)]
      obtain ⟨D1, N1, k1, e1, b1, b2, b3, b4, b5, b6, b7⟩ := E_sh (F := F) (P := P) hF (s := 5) (m := 2 ^ a) (l := bn 8 m l nil) (r := nil) (xr := -2) hN (by omega) (by omega) (a_16 a ha) (rkc_at hg) (Or.inl ⟨rfl, rfl⟩)
      obtain ⟨eD, eN⟩ := b7 (hK a ha c)
      rw [eD] at e1
      rw [eN] at b3
      have hk1 := lt_of_at b3
      rw [show f_X12_shared F P xS0 241 5 (nI (12800 + g)) (-2) (nI (2 ^ a)) D = some (nI (12800 + k1), D) from e1, Option.bind_some]
      dsimp only
      rw [show (12800 : Int32) = nI 12800 from rfl, nI_sub (by omega), Nat.add_sub_cancel_left, xgrd_in (by omega) (by omega), nI_clamp (by omega), hh k1 _ b3, evt_b, if_pos (show isB 5 = true from rfl)]
      rcases hv : val B u (bn 5 (2 ^ a) (bn 8 m l nil) nil) with _ | _
      · rw [if_pos (show bI false = 0 from rfl)]
        refine Or.inr ⟨fun h => ?_, rfl⟩
        have := h a (Nat.le_refl _) ha c
        rw [hv] at this; cases this
      · rw [if_neg (by decide), e_X12_isType_117, nI_1]
        simp only [xlet]
        rw [stp (fun _ => hv)]
        exact ih
    · rw [if_neg (fun q => c ((m_bit m g2 a ha).mp q)), e_X12_isType_117, nI_1]
      simp only [xlet]
      rw [stp (fun q => absurd q c)]
      exact ih
theorem E_it {F P : Nat} (hF : 100000 < F) {N B : List T} {u : Nat} {D : xDt} (hz : N.length ≤ 8000) (hb : B.length ≤ 13) (hN : rN D.1 N) (hB : rB D.1 N B) (hBs : ∀ x, x ∈ B → isB (tsr x) = true) (hnd : ∀ y, y ∈ N → tsr y = 8 → ∃ m l, y = bn 8 m l nil) (hnl : ∀ x, x ∈ B → tsr x ≠ 1 → lft x ≠ nil) (hh : ∀ j y, N[j]? = some y → D.1 272 j = bI (evt (val B u) y)) (hK : ∀ y, y ∈ B → tsr y = 8 → ∀ a, a < 4 → (mrk y).testBit a = true → tK a y ∈ N) : ∀ (d k n : Nat), k + d = B.length → d < n → ∃ r : Bool, f_X12_isType_2 F P xS0 n 241 (nI u) (nI k) D = some (bI r, D) ∧ (r = true ↔ ∀ j x, k ≤ j → B[j]? = some x → tyc (val B u) x)
  | _, _, 0, _, h => absurd h (by omega)
  | 0, k, n + 1, h1, _ => by
    refine ⟨true, ?_, fun _ j x hj hx => absurd (lt_of_at hx) (by omega), fun _ => rfl⟩
    rw [e_X12_isType_2, hB.2.1, if_pos (by rw [nI_leI (by omega) (by omega)]; omega)]
    rfl
  | d + 1, k, n + 1, h1, h2 => by
    have hk : k < B.length := by omega
    obtain ⟨x, hx⟩ : ∃ x, B[k]? = some x := ⟨B[k], List.getElem?_eq_getElem hk⟩
    have hxB : x ∈ B := List.mem_of_getElem? hx
    obtain ⟨g, hg, hg2⟩ := hB.2.2 k x hx
    have hgl := lt_of_at hg
    obtain ⟨s, m, l, r, e, g1, g2, g3, g4, g5, g6⟩ := hN.2.2 g x hg
    obtain ⟨r', er, hr⟩ := E_it (F := F) (P := P) hF (u := u) hz hb hN hB hBs hnd hnl hh hK d (k + 1) n (by omega) (by omega)
    have hsx : tsr x = s := by rw [e]; rfl
    have hlx : lft x = l := by rw [e]; rfl
    have hmx : mrk x = m := by rw [e]; rfl
    have hvx : val B u x = u.testBit k := val_at hB.1 hx
    -- this one does
    have ok : tyc (val B u) x → ∃ r : Bool, f_X12_isType_123 F P xS0 (f_X12_isType_2 F P xS0 n) 241 (nI u) (nI k) D = some (bI r, D) ∧ (r = true ↔ ∀ j x, k ≤ j → B[j]? = some x → tyc (val B u) x) := by
      intro hc
      refine ⟨r', by rw [e_X12_isType_123, nI_1]; exact er, hr.trans ⟨fun h j y hj hy => ?_, fun h j y hj hy => h j y (by omega) hy⟩⟩
      by_cases c : j = k
      · subst c; rw [hx] at hy; injection hy with hy; subst hy; exact hc
      · exact h j y (by omega) hy
    have no : ¬ tyc (val B u) x → ∃ r : Bool, (some (0, D) : Option (Int32 × xDt)) = some (bI r, D) ∧ (r = true ↔ ∀ j x, k ≤ j → B[j]? = some x → tyc (val B u) x) := by
      intro hc
      exact ⟨false, rfl, fun h => (by cases h), fun h => absurd (h k x (Nat.le_refl _) hx) hc⟩
    rw [e_X12_isType_2, hB.2.1, if_neg (by rw [nI_leI (by omega) (by omega)]; omega), xgrd_in (by omega) (by omega), nI_clamp (by omega), hg2]
    simp only [xlet]
    rw [xgrd_in (by omega) (by omega), nI_clamp (by omega), g3]
    by_cases c1 : s = 1
    · rw [if_pos (by rw [c1]; rfl)]
      exact ok (fun _ q => absurd (hsx.trans c1) q)
    rw [if_neg (show ¬ nI s = 1 from fun q => c1 ((nI_eq (b := 1) (by omega) (by omega)).mp q)), sh_bit u (by omega)]
    rcases hu : u.testBit k with _ | _
    · rw [if_neg (by decide)]
      exact ok (fun q => by rw [hvx, hu] at q; cases q)
    rw [if_pos (by decide), xgrd_in (by omega) (by omega)]
    obtain ⟨j, hj, hj2, hj3⟩ : ∃ j, j < g ∧ N[j]? = some l ∧ D.1 248 (12800 + g) = nI (12800 + j) := by
      rcases g5 with ⟨q, _⟩ | q
      · exact absurd (hlx.trans q) (hnl x hxB (by omega))
      · exact q
    rw [hj3, show (12800 : Int32) = nI 12800 from rfl, nI_sub (by omega), Nat.add_sub_cancel_left, xgrd_in (by omega) (by omega), nI_clamp (by omega), hh j l hj2]
    rcases hl : evt (val B u) l with _ | _
    · rw [if_pos (show bI false = 0 from rfl)]
      exact no (fun h => by
        have := (h (by rw [hvx]; exact hu) (by omega)).1
        rw [hlx, hl] at this; cases this)
    rw [if_neg (by decide)]
    by_cases c8 : s = 8
    · obtain ⟨m', l', ey⟩ := hnd x (List.mem_of_getElem? hg) (by omega)
      have ey2 := ey
      rw [e] at ey2
      injection ey2 with q1 q2 q3 q4 q5
      subst q2
      have hmm : mrk x = m := hmx
      rcases E_i59 (F := F) (P := P) hF (rec := f_X12_isType_2 F P xS0 n) (v1 := nI u) (v2 := nI k) (B := B) (u := u) (g := g) (m := m) (l := l') hz hN hh (by rw [← ey]; exact hg) (fun a ha hab => by rw [← ey]; exact hK x hxB (by omega) a ha (by rw [hmm]; exact hab)) 4 0 F (by omega) (by omega) with ⟨p1, p2⟩ | ⟨p1, p2⟩
      · rw [show f_X12_isType_59 F P xS0 (f_X12_isType_2 F P xS0 n) F 241 (nI u) (nI k) (nI (12800 + g)) 0 D = _ from p2]
        refine ok (fun _ _ => ⟨by rw [hlx]; exact hl, fun _ a ha hab => ?_⟩)
        rw [ey]
        exact p1 a (by omega) ha (by rw [← hmm]; exact hab)
      · rw [show f_X12_isType_59 F P xS0 (f_X12_isType_2 F P xS0 n) F 241 (nI u) (nI k) (nI (12800 + g)) 0 D = _ from p2]
        refine no (fun h => p1 (fun b _ hb hbt => ?_))
        have := (h (by rw [hvx]; exact hu) (by omega)).2 (by omega) b hb (by rw [hmm]; exact hbt)
        rw [ey] at this
        exact this
    · have e59 : f_X12_isType_59 F P xS0 (f_X12_isType_2 F P xS0 n) F 241 (nI u) (nI k) (nI (12800 + g)) 0 D = f_X12_isType_123 F P xS0 (f_X12_isType_2 F P xS0 n) 241 (nI u) (nI k) D := by
        obtain ⟨n', hn'⟩ : ∃ n', F = n' + 1 := ⟨F - 1, by omega⟩
        have : ∀ n', f_X12_isType_59 F P xS0 (f_X12_isType_2 F P xS0 n) (n' + 1) 241 (nI u) (nI k) (nI (12800 + g)) 0 D = f_X12_isType_123 F P xS0 (f_X12_isType_2 F P xS0 n) 241 (nI u) (nI k) D := fun n' => by
          rw [e_X12_isType_59, if_neg (show ¬ (4 : Int32) ≤ 0 by decide), xgrd_in (by omega) (by omega), nI_clamp (by omega), g3, if_neg (show ¬ nI s = 8 from fun q => c8 ((nI_eq (b := 8) (by omega) (by omega)).mp q))]
        have h := this n'
        rw [← hn'] at h
        exact h
      rw [e59]
      exact ok (fun _ _ => ⟨by rw [hlx]; exact hl, fun q => absurd (hsx.symm.trans q) c8⟩)
