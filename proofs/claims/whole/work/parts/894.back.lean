/-! back -/
theorem upP_t0 {α : Type} {f : Nat → Nat → α} {a n : Nat} {p : Nat → Bool} {g : Nat → α} (h : p n = true) {v : α} (hv : v = g n) : xup (upP f a 0 n p g) a n v = upP f a 0 (n + 1) p g := by
  have := upP_t (f := f) (a := a) (lo := 0) (n := n) (p := p) (g := g) h hv
  rw [Nat.zero_add] at this
  exact this
theorem upP_in0 {α : Type} {f : Nat → Nat → α} {a n : Nat} {p : Nat → Bool} {g : Nat → α} {u : Nat} (hu : u < n) (hp : p u = true) : upP f a 0 n p g a u = g u := by
  have := upP_in (f := f) (a := a) (lo := 0) (n := n) (p := p) (g := g) hu hp
  rw [Nat.zero_add] at this
  exact this
theorem wM_slot {D : xDt} {j : Nat} {m : Int32} {fa fc : Nat → Int32} {W : Wd} (hn : W.1 ≤ 64) (hs : slot D j m fa fc) (h : wM m fa fc W) : wM (D.1 244 j) (fun w => D.1 245 (64 * j + w)) (fun c => D.1 246 (256 * j + c)) W := ⟨by rw [hs.1]; exact h.1, fun w hw => by dsimp only; rw [hs.2.1 w (by omega)]; exact h.2.1 w hw, fun g hg w hw => by dsimp only; rw [hs.2.2 _ (by omega)]; exact h.2.2 g hg w hw⟩
/-- both have kept their worlds -/
theorem iK_keep {D D1 D2 : xDt} {W : Wd} {L : List Wd} {p : Nat} (hW : iW D W) (hp : p < 12) (hL : L.length ≤ 12)
    (hK : ∀ i (hi : i < L.length), wOK L[i] ∧ wC D (6 + 3 * ((p + 11 - i) % 12)) (7 + 3 * ((p + 11 - i) % 12)) (8 + 3 * ((p + 11 - i) % 12)) L[i] ∧ wM (D.1 244 (L.length - 1 - i)) (fun w => D.1 245 (64 * (L.length - 1 - i) + w)) (fun k => D.1 246 (256 * (L.length - 1 - i) + k)) L[i])
    (c1 : ∀ x, 6 ≤ x → x < 42 → x ≠ 6 + 3 * p → D1.1 x = D.1 x) (c2 : ∀ x, 6 ≤ x → x < 42 → x ≠ 7 + 3 * p → x ≠ 8 + 3 * p → D1.2 x = D.2 x)
    (b1 : D1.1 (6 + 3 * p) 0 = D.1 1 0) (b2 : ∀ j, j < 8 → D1.2 (7 + 3 * p) j = D.2 2 j) (b3 : ∀ j, j < 256 → D1.2 (8 + 3 * p) j = D.2 3 j)
    (d1 : ∀ x, 6 ≤ x → x < 42 → D2.1 x = D1.1 x ∧ D2.2 x = D1.2 x) (e1 : D2.1 4 1 = nI ((p + 1) % 12)) (e2 : D2.1 4 2 = nI (min (L.length + 1) 12)) (e3 : D2.1 241 7 = nI (min (L.length + 1) 12))
    (s1 : slot D2 (min (L.length + 1) 12 - 1) (D.1 241 1) (D.1 242) (D.1 243))
    (s2 : ∀ i, i < min (L.length + 1) 12 - 1 → slot D2 i (D.1 244 (if L.length = 12 then i + 1 else i)) (fun w => D.1 245 (64 * (if L.length = 12 then i + 1 else i) + w)) (fun c => D.1 246 (256 * (if L.length = 12 then i + 1 else i) + c))) : iK D2 ((W :: L).take 12) := by
  have hl : ((W :: L).take 12).length = min (L.length + 1) 12 := by rw [List.length_take, List.length_cons, Nat.min_comm]
  refine ⟨by rw [hl]; omega, (p + 1) % 12, Nat.mod_lt _ (by omega), e1, by rw [hl]; exact e2, by rw [hl]; exact e3, fun i hi => ?_⟩
  rw [hl] at hi ⊢
  rw [List.getElem_take]
  cases i with
  | zero =>
    have h0 : ((p + 1) % 12 + 11 - 0) % 12 = p := by omega
    rw [h0]
    refine ⟨hW.1, ?_, ?_⟩
    · have := wC_copy (D' := D1) (a := 6 + 3 * p) (ta := 7 + 3 * p) (ca := 8 + 3 * p) hW.1.1 b1 b2 b3 hW.2.1
      exact wC_congr (by rw [(d1 _ (by omega) (by omega)).1]) (d1 _ (by omega) (by omega)).2 (d1 _ (by omega) (by omega)).2 this
    · exact wM_slot hW.1.1 s1 hW.2.2
  | succ i =>
    have hi2 : i < L.length := by omega
    have hx : ((p + 1) % 12 + 11 - (i + 1)) % 12 = (p + 11 - i) % 12 := by omega
    rw [hx]
    obtain ⟨k1, k2, k3⟩ := hK i hi2
    have hne : (p + 11 - i) % 12 ≠ p := by omega
    have hlt : (p + 11 - i) % 12 < 12 := Nat.mod_lt _ (by omega)
    refine ⟨k1, ?_, ?_⟩
    · refine wC_congr ?_ ?_ ?_ k2
      · rw [(d1 _ (by omega) (by omega)).1, c1 _ (by omega) (by omega) (by omega)]
      · rw [(d1 _ (by omega) (by omega)).2, c2 _ (by omega) (by omega) (by omega) (by omega)]
      · rw [(d1 _ (by omega) (by omega)).2, c2 _ (by omega) (by omega) (by omega) (by omega)]
    · have s := s2 (min (L.length + 1) 12 - 1 - (i + 1)) (by omega)
      have hidx : (if L.length = 12 then min (L.length + 1) 12 - 1 - (i + 1) + 1 else min (L.length + 1) 12 - 1 - (i + 1)) = L.length - 1 - i := by
        by_cases c : L.length = 12
        · rw [if_pos c]; omega
        · rw [if_neg c]; omega
      rw [hidx] at s
      exact wM_slot k1.1 s k3
theorem M_back {dA : T → Nat → Int32} {F P : Nat} (hF : 10000 < F) {D : xDt} (h : Iv dA D) : Two dA D (f_X11_back F P xS0 0) (f_X12_back F P xS0 241) := by
  obtain ⟨W, L, t, E, sg, tx, a1, a2, a3, a4, a5, a6, a7, a8⟩ := id h
  obtain ⟨hL, p, hp, p1, p2, p3, p4⟩ := id a2
  by_cases h0 : L.length = 0
  · refine Iv_same (r := -1) h ?_ ?_
    · rw [e_X11_back, p2, h0, if_pos (show nI 0 = 0 from rfl)]
    · rw [e_X12_back, p3, h0, if_pos (show nI 0 = 0 from rfl)]
  · obtain ⟨k1, k2, k3⟩ := p4 0 (by omega)
    simp only [Nat.sub_zero] at k2 k3
    generalize hW0 : L[0] = W0 at k1 k2 k3
    have hn := k1.1
    generalize hq : (p + 11) % 12 = q at k2
    have hq12 : q < 12 := by omega
    -- the class
    have hnext : ∀ D', f_X5_restore F P xS0 4 1 D' = (if (D'.1 4 1) ≤ 0 then (f_X5_restore_19 F P xS0 4 1 11 4 D') else (f_X5_restore_19 F P xS0 4 1 ((D'.1 4 1) - 1) 4 D')) := fun D' => e_X5_restore F P 1 D'
    have e19 : f_X5_restore F P xS0 4 1 D = f_X5_restore_19 F P xS0 4 1 (nI q) 4 D := by
      rw [hnext, p1]
      by_cases c : p = 0
      · subst c
        rw [if_pos (show nI 0 ≤ 0 by decide)]
        have : q = 11 := by omega
        rw [this]; rfl
      · rw [if_neg (nI_nle (by omega) (by omega)), nI_s1 (by omega)]
        have : q = p - 1 := by omega
        rw [this]
    obtain ⟨D', ec, q1, q2, q3, q4⟩ := E_copy (F := F) (P := P) (D := (xup (xup D.1 4 1 (nI q)) 4 2 (nI (L.length - 1)), D.2)) oW1 (rg_o q hq12) (by omega) (by omega)
    dsimp only at q1 q2 q3 q4
    have hD'1 : ∀ x, x ≠ 1 → x ≠ 4 → D'.1 x = D.1 x := fun x hx hx4 => by rw [q1, xup_ne _ _ _ _ hx, xup_ne _ _ _ _ hx4, xup_ne _ _ _ _ hx4]
    have hw1 : D'.1 1 0 = nI W0.1 := by
      rw [q1, xup_at, xup_na _ _ _ _ _ (by omega), xup_na _ _ _ _ _ (by omega)]; exact k2.1
    have e1 : f_X11_back F P xS0 0 D = some (nI W0.1, (xup D'.1 0 13 0, D'.2)) := by
      rw [e_X11_back, p2, if_neg (nI_ne0 (by omega) (by omega)), e19, e_X5_restore_19]
      simp only [xlet]
      rw [xup_nk _ _ _ _ _ (show 2 ≠ 1 by omega), p2, nI_s1 (by omega), xup_nk _ _ _ _ _ (show 1 ≠ 2 by omega), xup_at, xgrd_in hq12 (by omega), nI_clamp (by omega), rg_r q hq12, ec]
      simp only [Option.bind_some]
      rw [xup_na _ _ _ _ _ (by omega), hw1]
    -- the reference
    generalize hE1 : ((xup D'.1 0 13 0, D'.2) : xDt) = D1 at e1
    have hD1 : ∀ x, x ≠ 0 → x ≠ 1 → x ≠ 4 → D1.1 x = D.1 x := fun x h0 h1 h4 => by
      rw [← hE1]
      dsimp only
      rw [xup_ne _ _ _ _ h0]; exact hD'1 x h1 h4
    have e2 : f_X12_back F P xS0 241 D1 = some (nI W0.1, (upP (upP (xup (xup D1.1 241 7 (nI (L.length - 1))) 241 1 (D1.1 244 (L.length - 1))) 242 0 64 tt (fun w => D1.1 245 (64 * (L.length - 1) + w))) 243 0 256 tt (fun c => D1.1 246 (256 * (L.length - 1) + c)), D1.2)) := by
      rw [e_X12_back, hD1 241 (by omega) (by omega) (by omega), p3, if_neg (nI_ne0 (by omega) (by omega)), nI_s1 (by omega)]
      simp only [xlet]
      rw [xup_at, xgrd_in (by omega) (by omega), nI_clamp (by omega), xup_na _ _ _ _ _ (by omega)]
      refine lpu (W := fun n i (D2 : xDt) => f_X12_back_34 F P xS0 n 241 (nI i) D2 = _) (I := fun i D2 => D2 = (upP (xup (xup D1.1 241 7 (nI (L.length - 1))) 241 1 (D1.1 244 (L.length - 1))) 242 0 i tt (fun w => D1.1 245 (64 * (L.length - 1) + w)), D1.2)) 64 ?_ ?_ 64 0 _ F (by omega) (by omega) (by rw [upP_0])
      · rintro n D2 rfl
        rw [e_X12_back_34, if_pos (by decide)]
        refine lpu (W := fun n i (D3 : xDt) => f_X12_back_68 F P xS0 n 241 (nI i) D3 = _) (I := fun i D3 => D3 = (upP (upP (xup (xup D1.1 241 7 (nI (L.length - 1))) 241 1 (D1.1 244 (L.length - 1))) 242 0 64 tt (fun w => D1.1 245 (64 * (L.length - 1) + w))) 243 0 i tt (fun c => D1.1 246 (256 * (L.length - 1) + c)), D1.2)) 256 ?_ ?_ 256 0 _ F (by omega) (by omega) (by rw [upP_0])
        · rintro n D3 rfl
          rw [e_X12_back_68, if_pos (by decide)]
          dsimp only
          rw [upP_na (by omega), upP_na (by omega), xup_at, hD1 244 (by omega) (by omega) (by omega), k3.1]
        · rintro n i D3 hi rfl hk
          rw [e_X12_back_68, k256, if_neg (by rw [nI_leI (by omega) (by omega)]; omega)]
          dsimp only
          rw [upP_na (by omega), upP_na (by omega), xup_nk _ _ _ _ _ (show 7 ≠ 1 by omega), xup_at, nI_mul, nI_add, xgrd_in (by omega) (by omega), xgrd_in (by omega) (by omega), nI_clamp (by omega), nI_clamp (by omega)]
          simp only [xlet, nI_1]
          refine hk _ ?_
          rw [upP_na (by omega), upP_na (by omega), xup_na _ _ _ _ _ (by omega), xup_na _ _ _ _ _ (by omega), upP_t0 rfl rfl]
      · rintro n i D2 hi rfl hk
        rw [e_X12_back_34, k64, if_neg (by rw [nI_leI (by omega) (by omega)]; omega)]
        dsimp only
        rw [upP_na (by omega), xup_nk _ _ _ _ _ (show 7 ≠ 1 by omega), xup_at, nI_mul, nI_add, xgrd_in (by omega) (by omega), xgrd_in (by omega) (by omega), nI_clamp (by omega), nI_clamp (by omega)]
        simp only [xlet, nI_1]
        refine hk _ ?_
        rw [upP_na (by omega), xup_na _ _ _ _ _ (by omega), xup_na _ _ _ _ _ (by omega), upP_t0 rfl rfl]
    generalize hE2 : ((upP (upP (xup (xup D1.1 241 7 (nI (L.length - 1))) 241 1 (D1.1 244 (L.length - 1))) 242 0 64 tt (fun w => D1.1 245 (64 * (L.length - 1) + w))) 243 0 256 tt (fun c => D1.1 246 (256 * (L.length - 1) + c)), D1.2) : xDt) = D2 at e2
    have hD2 : ∀ x, x ≠ 0 → x ≠ 1 → x ≠ 4 → x ≠ 241 → x ≠ 242 → x ≠ 243 → D2.1 x = D.1 x := fun x h0 h1 h4 ha hb hc => by
      rw [← hE2]
      funext j
      dsimp only
      rw [upP_na hc, upP_na hb, xup_na _ _ _ _ _ ha, xup_na _ _ _ _ _ ha, hD1 x h0 h1 h4]
    have h241 : ∀ j, j ≠ 1 → j ≠ 7 → D2.1 241 j = D.1 241 j := fun j h1 h7 => by
      rw [← hE2]
      dsimp only
      rw [upP_na (by omega), upP_na (by omega), xup_nk _ _ _ _ _ h1, xup_nk _ _ _ _ _ h7, hD1 241 (by omega) (by omega) (by omega)]
    have h2L : D2.2 = D'.2 := by rw [← hE2, ← hE1]
    have h2c : ∀ x, x < 5 → x ≠ 1 ∨ x = 1 → D2.1 x = D1.1 x := fun x hx _ => by
      rw [← hE2]
      funext j
      dsimp only
      rw [upP_na (by omega), upP_na (by omega), xup_na _ _ _ _ _ (by omega), xup_na _ _ _ _ _ (by omega)]
    have h00 : ∀ j, D2.1 0 j = xup D'.1 0 13 0 0 j := fun j => by rw [h2c 0 (by omega) (by omega), ← hE1]
    refine ⟨_, D1, D2, e1, e2, W0, L.tail, t, E, sg, tx, ⟨k1, ?_, ?_⟩, ?_, ?_, ?_, ?_, ?_, Or.inl ?_, ?_⟩
    · refine wC_copy (D := D) (b := 6 + 3 * q) (tb := 7 + 3 * q) (cb := 8 + 3 * q) hn ?_ ?_ ?_ k2
      · rw [h2c 1 (by omega) (by omega), ← hE1]
        dsimp only
        rw [xup_na _ _ _ _ _ (by omega), hw1, k2.1]
      · intro j hj
        rw [h2L]; exact q3 j hj
      · intro j hj
        rw [h2L]; exact q4 j hj
    · refine ⟨?_, fun w hw => ?_, fun g hg w hw => ?_⟩
      · rw [← hE2]
        dsimp only
        rw [upP_na (by omega), upP_na (by omega), xup_at, hD1 244 (by omega) (by omega) (by omega)]; exact k3.1
      · rw [← hE2]
        dsimp only
        rw [upP_na (by omega)]
        have := upP_in (f := xup (xup D1.1 241 7 (nI (L.length - 1))) 241 1 (D1.1 244 (L.length - 1))) (a := 242) (lo := 0) (n := 64) (p := tt) (g := fun w => D1.1 245 (64 * (L.length - 1) + w)) (u := w) (by omega) rfl
        rw [Nat.zero_add] at this
        rw [this, hD1 245 (by omega) (by omega) (by omega)]
        exact k3.2.1 w hw
      · rw [← hE2]
        dsimp only
        have := upP_in (f := upP (xup (xup D1.1 241 7 (nI (L.length - 1))) 241 1 (D1.1 244 (L.length - 1))) 242 0 64 tt (fun w => D1.1 245 (64 * (L.length - 1) + w))) (a := 243) (lo := 0) (n := 256) (p := tt) (g := fun c => D1.1 246 (256 * (L.length - 1) + c)) (u := 64 * g + w) (by omega) rfl
        rw [Nat.zero_add] at this
        rw [this, hD1 246 (by omega) (by omega) (by omega)]
        exact k3.2.2 g hg w hw
    · have hlt : L.tail.length = L.length - 1 := List.length_tail
      refine ⟨by omega, q, hq12, ?_, ?_, ?_, fun i hi => ?_⟩
      · rw [h2c 4 (by omega) (by omega), ← hE1]
        dsimp only
        rw [xup_na _ _ _ _ _ (by omega), q1, xup_na _ _ _ _ _ (by omega), xup_nk _ _ _ _ _ (by omega), xup_at]
      · rw [h2c 4 (by omega) (by omega), ← hE1, hlt]
        dsimp only
        rw [xup_na _ _ _ _ _ (by omega), q1, xup_na _ _ _ _ _ (by omega), xup_at]
      · rw [← hE2, hlt]
        dsimp only
        rw [upP_na (by omega), upP_na (by omega), xup_nk _ _ _ _ _ (by omega), xup_at]
      · have hi2 : i + 1 < L.length := by omega
        obtain ⟨r1, r2, r3⟩ := p4 (i + 1) hi2
        have hm : (q + 11 - i) % 12 = (p + 11 - (i + 1)) % 12 := by omega
        have hm2 : L.tail.length - 1 - i = L.length - 1 - (i + 1) := by omega
        have hlt2 : (p + 11 - (i + 1)) % 12 < 12 := Nat.mod_lt _ (by omega)
        rw [List.getElem_tail, hm, hm2]
        refine ⟨r1, ?_, ?_⟩
        · refine wC_congr ?_ ?_ ?_ r2
          · rw [hD2 _ (by omega) (by omega) (by omega) (by omega) (by omega) (by omega)]
          · rw [h2L, q2 _ (by omega) (by omega)]
          · rw [h2L, q2 _ (by omega) (by omega)]
        · rw [hD2 244 (by omega) (by omega) (by omega) (by omega) (by omega) (by omega), hD2 245 (by omega) (by omega) (by omega) (by omega) (by omega) (by omega), hD2 246 (by omega) (by omega) (by omega) (by omega) (by omega) (by omega)]
          exact r3
    · exact iT_congr (congrFun (hD2 202 (by omega) (by omega) (by omega) (by omega) (by omega) (by omega)) 1) (hD2 203 (by omega) (by omega) (by omega) (by omega) (by omega) (by omega)) (h241 14 (by omega) (by omega)) (fun x hx hx2 j _ => congrFun (hD2 x (by omega) (by omega) (by omega) (by omega) (by omega) (by omega)) j) a3
    · exact iE_congr (congrFun (hD2 42 (by omega) (by omega) (by omega) (by omega) (by omega) (by omega)) 0) (h241 25 (by omega) (by omega)) (fun x hx => hD2 x (by omega) (by omega) (by omega) (by omega) (by omega) (by omega)) (fun x hx hx2 j _ _ => congrFun (hD2 x (by omega) (by omega) (by omega) (by omega) (by omega) (by omega)) j) a4
    · exact iS_congr (congrFun (hD2 192 (by omega) (by omega) (by omega) (by omega) (by omega) (by omega)) 1) (hD2 193 (by omega) (by omega) (by omega) (by omega) (by omega) (by omega)) (h241 16 (by omega) (by omega)) (hD2 252 (by omega) (by omega) (by omega) (by omega) (by omega) (by omega)) a5
    · exact iX_congr (congrFun (hD2 204 (by omega) (by omega) (by omega) (by omega) (by omega) (by omega)) 1) (hD2 205 (by omega) (by omega) (by omega) (by omega) (by omega) (by omega)) (h241 21 (by omega) (by omega)) (hD2 253 (by omega) (by omega) (by omega) (by omega) (by omega) (by omega)) a6
    · rw [h00, xup_at]
    · refine iD_congr ?_ (hD2 223 (by omega) (by omega) (by omega) (by omega) (by omega) (by omega)) a8
      rw [h00, xup_nk _ _ _ _ _ (by omega), hD'1 0 (by omega) (by omega)]
