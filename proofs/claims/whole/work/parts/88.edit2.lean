/-! alone, atom, told -/
theorem lst_bit {w : Nat} (hw : w < 64) : lst (bt (jlshl 1 (nI w))) 64 = w := lst_eq hw (by rw [bt_bit hw]; simp) (fun j hj => by rw [bt_bit hw]; simp; omega)
theorem M_alone {dA : T → Nat → Int32} {F P : Nat} (hF : 10000 < F) {D : xDt} (h : Iv dA D) (x y : Int32) : Two dA D (f_X11_alone F P xS0 0 x y) (f_X12_alone F P xS0 241 x y) := by
  obtain ⟨W, L, t, E, sg, tx, ⟨hW, hC, hM⟩, _⟩ := id h
  have hn := hW.1
  rcases ag_in x with ⟨g, hg, rfl⟩ | hx
  rotate_left
  · exact Iv_same (r := -1) h (by rw [e_X11_alone, E_ag0 hx]; rfl) (by rw [e_X12_alone, E_mag0 hx]; rfl)
  rcases i_in W.1 y with ⟨w, hw, _, rfl⟩ | hy
  rotate_left
  · refine Iv_same (r := -1) h ?_ ?_
    · rw [e_X11_alone, E_ag1 hg]
      simp only [Option.bind_some]
      rw [if_neg (by decide), E_has0 hC.1 hn hy]
      rfl
    · rw [e_X12_alone, E_mag1 hg]
      simp only [Option.bind_some]
      rw [if_neg (by decide), E_isW0 hM.1 hn hy]
      rfl
  have hC1 := eD_C hC
  generalize hX : cs W g w &&& (jlshl 1 (nI w) ^^^ (-1)) = X
  have aX := al_X hW hw hX.symm
  have e1 : f_X11_alone F P xS0 0 (nI (g + 1)) (nI w) D = some (nI (cn (bt X) 64), ((eD D).1, upP (upP D.2 3 (g * 64) W.1 (bt X) (fun _ => X)) 3 (g * 64) W.1 (bt (jlshl 1 (nI w))) (fun _ => jlshl 1 (nI w)))) := by
    rw [e_X11_alone, E_ag1 hg]
    simp only [Option.bind_some]
    rw [if_neg (by decide), E_has1 hC.1 hn hw]
    simp only [Option.bind_some]
    rw [if_neg (by decide), E_edited]
    simp only [Option.bind_some]
    rw [nI_s1 (by omega), Nat.add_sub_cancel, E_part (by omega) oW1 (n := W.1) (by exact hC1.1) hn hg (by omega) (x := X) (by
      show _ = D.2 3 _ &&& _
      rw [hC.2.2 g hg w hw, hX])]
    rfl
  have hM1 : wM ((eD D).1 241 1) ((eD D).1 242) ((eD D).1 243) W := by
    rw [eD_x D (by omega) (by omega), eD_x D (by omega) (by omega), eD_x D (by omega) (by omega)]; exact hM
  generalize hD1 : (((eD D).1, upP (upP D.2 3 (g * 64) W.1 (bt X) (fun _ => X)) 3 (g * 64) W.1 (bt (jlshl 1 (nI w))) (fun _ => jlshl 1 (nI w))) : xDt) = D1 at *
  have hM2 : wM (D1.1 241 1) (D1.1 242) (D1.1 243) W := by rw [← hD1]; exact hM1
  have hM3 : wM (((xup D1.1 241 7 0, D1.2) : xDt).1 241 1) (((xup D1.1 241 7 0, D1.2) : xDt).1 242) (((xup D1.1 241 7 0, D1.2) : xDt).1 243) W := by
    dsimp only
    rw [xup_nk _ _ _ _ _ (by omega), xup_ne _ _ _ _ (by omega), xup_ne _ _ _ _ (by omega)]; exact hM2
  generalize hf1 : upP (xup D1.1 241 7 0) 243 (64 * g) W.1 (bt (jlshl 1 (nI w))) (fun _ => nI (lst (bt (jlshl 1 (nI w))) 64)) = f1
  have f1a : f1 241 1 = nI W.1 := by
    rw [← hf1, upP_na (by omega)]; exact hM3.1
  have e2 : f_X12_alone F P xS0 241 (nI (g + 1)) (nI w) D1 = some (nI (cn (bt X) 64), (upP f1 243 (64 * g) W.1 (bt X) (fun _ => nI (lst (bt X) 64)), D1.2)) := by
    rw [e_X12_alone, E_mag1 hg]
    simp only [Option.bind_some]
    rw [if_neg (by decide), E_isW1 hM2.1 hn hw]
    simp only [Option.bind_some]
    rw [if_neg (by decide)]
    simp only [xlet]
    rw [E_cellOf (by omega) hW hM3 hg hw]
    simp only [Option.bind_some]
    rw [hX, E_gather (by omega) hM3.1 hn hg]
    simp only [Option.bind_some]
    rw [hf1]
    have hsz : ∀ D', f_X12_alone_57 F P xS0 X D' = some (nI (cn (bt X) 64), D') := by
      intro D'
      unfold f_X12_alone_57
      rw [E_size (by omega)]; rfl
    by_cases hz : X = 0
    · rw [if_pos (by rw [cmp0]; exact hz), hsz]
      have : upP f1 243 (64 * g) W.1 (bt X) (fun _ => nI (lst (bt X) 64)) = f1 := by
        funext a j
        unfold upP
        rw [if_neg]
        rintro ⟨_, _, _, c⟩
        rw [hz, bt_0] at c; cases c
      rw [this]
    · rw [if_neg (by rw [cmp0]; exact hz), E_gather (by omega) f1a hn hg]
      simp only [Option.bind_some]
      rw [hsz]
  refine ⟨_, D1, _, e1, e2, Iv_both h hD1.symm ?_ ?_ ?_ ?_ (W' := wAl W g w X) ⟨wAl_ok hW hg hw aX, ?_, ?_⟩⟩
  · intro x h2 h3
    funext j
    rw [upP_na h3, upP_na h3]
  · rw [← hf1]
    exact ch_ip (D' := (upP (xup D1.1 241 7 0) 243 (64 * g) W.1 (bt (jlshl 1 (nI w))) (fun _ => nI (lst (bt (jlshl 1 (nI w))) 64)), D1.2)) (by simp) (ch_ip (D' := (xup D1.1 241 7 0, D1.2)) (by simp) (ch_i (by simp) (ch_rfl _ _ _)))
  · intro j h1 h7
    dsimp only
    rw [upP_na (by omega), ← hf1, upP_na (by omega), xup_nk _ _ _ _ _ h7]
  · dsimp only
    rw [upP_na (by omega), ← hf1, upP_na (by omega), xup_at]
  · have hw2 := wAl_C hW hg hw aX (by omega) hC1 rfl
    refine wC_congr (D := ((eD D).1, upP (upP D.2 3 (g * 64) W.1 (bt X) (fun _ => X)) 3 (g * 64) W.1 (bt (jlshl 1 (nI w))) (fun _ => jlshl 1 (nI w)))) ?_ ?_ ?_ hw2
    · dsimp only
      rw [upP_na (by omega), ← hf1, upP_na (by omega), xup_na _ _ _ _ _ (by omega), ← hD1]
    · rw [← hD1]
    · rw [← hD1]
  · refine ⟨?_, ?_, ?_⟩
    · dsimp only
      rw [upP_na (by omega)]; exact f1a
    · intro y hy
      dsimp only
      rw [upP_na (by omega), ← hf1, upP_na (by omega), xup_na _ _ _ _ _ (by omega)]
      exact hM2.2.1 y hy
    · intro k hk y hy
      have hy2 : y < W.1 := hy
      dsimp only
      by_cases e : k = g
      · subst e
        rcases wAl_r hW hk hw aX hy2 with ⟨rfl, q1⟩ | ⟨q0, q1, q2⟩ | ⟨q0, q1, q2, q3⟩
        · have hb : bt X y = false := by
            cases hc : bt X y
            · rfl
            · exact absurd rfl ((aX y).mp hc).2.1
          rw [q1, upP_np hb, ← hf1, upP_in hy2 (by rw [bt_bit (by omega)]; simp), lst_bit (by omega)]
        · rw [q2, upP_in hy2 q1]
        · rw [q3, upP_np (by simpa using q1), ← hf1, upP_np (by rw [bt_bit (by omega)]; simp [q0]), xup_na _ _ _ _ _ (by omega)]
          exact hM2.2.2 k hk y hy2
      · rw [wAl_k e, upP_out (by omega), ← hf1, upP_out (by omega), xup_na _ _ _ _ _ (by omega)]
        exact hM2.2.2 k hk y hy2
/-! one ATOM of a world -/
def sb (x k : Nat) (b : Bool) : Nat := (x - (if x.testBit k then 2 ^ k else 0)) + (if b then 2 ^ k else 0)
theorem sb_val : ∀ x, x < 256 → ∀ k, k < 8 → ∀ b : Bool, sb x k b < 256 ∧ ((nI x &&& (jishl 1 (nI k) ^^^ (-1))) ||| (if b then jishl 1 (nI k) else 0)) = nI (sb x k b) := by decide +kernel
theorem sb_bit : ∀ x, x < 256 → ∀ k, k < 8 → ∀ b : Bool, ∀ j, j < 8 → (sb x k b).testBit j = if j = k then b else x.testBit j := by decide +kernel
theorem at_is : ∀ x, x < 256 → ∀ k, k < 8 → jishr (nI x) (nI k) &&& 1 = if x.testBit k then 1 else 0 := by decide +kernel
theorem M_atom {dA : T → Nat → Int32} {F P : Nat} (hF : 10000 < F) {D : xDt} (h : Iv dA D) (x y z : Int32) : Two dA D (f_X11_atom F P xS0 0 x y (if z = 0 then 0 else 1)) (f_X12_atom F P xS0 241 x y (if z = 0 then 0 else 1)) := by
  obtain ⟨W, L, t, E, sg, tx, ⟨hW, hC, hM⟩, _⟩ := id h
  have hn := hW.1
  rcases i_in W.1 x with ⟨w, hw, _, rfl⟩ | hx
  rotate_left
  · refine Iv_same (r := -1) h ?_ ?_
    · rw [e_X11_atom, E_has0 hC.1 hn hx]; rfl
    · rw [e_X12_atom, E_isW0 hM.1 hn hx]; rfl
  rcases i_in 8 y with ⟨k, hk, _, rfl⟩ | hy
  rotate_left
  · refine Iv_same (r := -1) h ?_ ?_
    · rw [e_X11_atom, E_has1 hC.1 hn hw]
      simp only [Option.bind_some]
      rw [if_neg (by decide), E_at0 hy]; rfl
    · rw [e_X12_atom, E_isW1 hM.1 hn hw]
      simp only [Option.bind_some]
      rw [if_neg (by decide), show f_X12_in F P xS0 y 0 7 D = some (0, D) from in_f (hi := 7) (by omega) hy]; rfl
  have hC1 := eD_C hC
  have hA := hW.2.1 w hw
  generalize hb : (if z = 0 then (0 : Int32) else 1) = b
  have e1 : f_X11_atom F P xS0 0 (nI w) (nI k) b D = some (if (W.2.1 w).testBit k then 1 else 0, ((eD D).1, xup D.2 2 k (sa (D.2 2 k) w b))) := by
    rw [e_X11_atom, E_has1 hC.1 hn hw]
    simp only [Option.bind_some]
    rw [if_neg (by decide), E_at1 hk]
    simp only [Option.bind_some]
    rw [if_neg (by decide), E_edited]
    simp only [Option.bind_some, xlet]
    rw [xgrd_in hk (by omega), nI_clamp (by omega), test1i _ (by omega), hC.2.1 k hk w hw, E_setAtom oW1 hk]
    simp only [Option.bind_some]
  have hM1 : wM ((eD D).1 241 1) ((eD D).1 242) ((eD D).1 243) W := by
    rw [eD_x D (by omega) (by omega), eD_x D (by omega) (by omega), eD_x D (by omega) (by omega)]; exact hM
  generalize hD1 : (((eD D).1, xup D.2 2 k (sa (D.2 2 k) w b)) : xDt) = D1 at *
  have hM2 : wM (D1.1 241 1) (D1.1 242) (D1.1 243) W := by rw [← hD1]; exact hM1
  have e2 : f_X12_atom F P xS0 241 (nI w) (nI k) b D1 = some (if (W.2.1 w).testBit k then 1 else 0, (xup (xup D1.1 241 7 0) 242 w (nI (sb (W.2.1 w) k (!decide (b = 0)))), D1.2)) := by
    rw [e_X12_atom, E_isW1 hM2.1 hn hw]
    simp only [Option.bind_some]
    rw [if_neg (by decide), show f_X12_in F P xS0 (nI k) 0 7 D1 = some (1, D1) from E_in1 (lo := 0) (hi := 7) (by omega) (by omega) (by omega)]
    simp only [Option.bind_some, xlet]
    rw [if_neg (by decide), xgrd_in (by omega) (by omega), nI_clamp (by omega), xgrd_in (by omega) (by omega), xup_na _ _ _ _ _ (by omega), hM2.2.1 w hw, at_is _ hA k hk]
    have := sb_val _ hA k hk (!decide (b = 0))
    by_cases hc : b = 0
    · rw [if_pos hc, xgrd_in (by omega) (by omega), ← this.2]
      simp [hc]
    · rw [if_neg hc, xgrd_in (by omega) (by omega), ← this.2]
      simp [hc]
  refine ⟨_, D1, _, e1, e2, Iv_both h hD1.symm ?_ ?_ ?_ ?_ (W' := (W.1, fun y => if y = w then sb (W.2.1 w) k (!decide (b = 0)) else W.2.1 y, W.2.2)) ⟨⟨hW.1, ?_, hW.2.2⟩, ?_, ?_⟩⟩
  · intro x h2 h3
    rw [xup_ne _ _ _ _ h2]
  · exact ch_i (D' := (xup D1.1 241 7 0, D1.2)) (by simp) (ch_i (by simp) (ch_rfl _ _ _))
  · intro j h1 h7
    dsimp only
    rw [xup_na _ _ _ _ _ (by omega), xup_nk _ _ _ _ _ h7]
  · dsimp only
    rw [xup_na _ _ _ _ _ (by omega), xup_at]
  · intro y hy
    dsimp only
    split
    · exact (sb_val _ hA k hk _).1
    · exact hW.2.1 y hy
  · refine ⟨?_, ?_, ?_⟩
    · dsimp only
      rw [xup_na _ _ _ _ _ (by omega), xup_na _ _ _ _ _ (by omega), ← hD1]; exact hC1.1
    · intro k' hk' y hy
      dsimp only
      rw [← hD1]
      dsimp only
      by_cases e : k' = k
      · subst e
        rw [xup_at, bt_sa _ (by omega)]
        by_cases e2 : y = w
        · subst e2
          rw [if_pos rfl, if_pos rfl, sb_bit _ hA k' hk' _ k' hk', if_pos rfl]
        · rw [if_neg e2, if_neg e2]
          exact hC.2.1 k' hk' y hy
      · rw [xup_nk _ _ _ _ _ e]
        by_cases e2 : y = w
        · subst e2
          rw [if_pos rfl, sb_bit _ hA k hk _ k' hk', if_neg e]
          exact hC.2.1 k' hk' y hy
        · rw [if_neg e2]
          exact hC.2.1 k' hk' y hy
    · intro g hg y hy
      dsimp only
      rw [← hD1]
      dsimp only
      rw [xup_na _ _ _ _ _ (by omega)]
      exact hC.2.2 g hg y hy
  · refine ⟨?_, ?_, ?_⟩
    · dsimp only
      rw [xup_na _ _ _ _ _ (by omega), xup_nk _ _ _ _ _ (by omega)]; exact hM2.1
    · intro y hy
      dsimp only
      by_cases e : y = w
      · subst e
        rw [if_pos rfl, xup_at]
      · rw [if_neg e, xup_nk _ _ _ _ _ e, xup_na _ _ _ _ _ (by omega)]
        exact hM2.2.1 y hy
    · intro g hg y hy
      dsimp only
      rw [xup_na _ _ _ _ _ (by omega), xup_na _ _ _ _ _ (by omega)]
      exact hM2.2.2 g hg y hy
theorem lst_cs {W : Wd} (h : wOK W) {g w : Nat} (hg : g < 4) (hw : w < W.1) : lst (bt (cs W g w)) 64 = W.2.2 g w := by
  have hn := h.1
  have h1 := h.2.2 g hg w hw
  apply lst_eq (by omega)
  · rw [bt_cs _ hn, h1.2]
    have : W.2.2 g w < W.1 := by omega
    simp [this]
  · intro j hj
    rw [bt_cs _ hn]
    by_cases hj2 : j < W.1
    · have := (h.2.2 g hg j hj2).1
      have e : ¬ W.2.2 g j = W.2.2 g w := by omega
      simp [e]
    · simp [hj2]
theorem M_told {dA : T → Nat → Int32} {F P : Nat} (hF : 10000 < F) {D : xDt} (h : Iv dA D) (x y : Int32) : Two dA D (f_X11_told F P xS0 0 x y) (f_X12_told F P xS0 241 x y) := by
  obtain ⟨W, L, t, E, sg, tx, ⟨hW, hC, hM⟩, _⟩ := id h
  have hn := hW.1
  rcases i_in W.1 x with ⟨w, hw, _, rfl⟩ | hx
  rotate_left
  · refine Iv_same (r := -1) h ?_ ?_
    · rw [e_X11_told, E_has0 hC.1 hn hx]; rfl
    · rw [e_X12_told, E_isW0 hM.1 hn hx]; rfl
  have u1 : f_X11_told F P xS0 0 (nI w) y D = (if y < 0 then some (-1, D) else if y ≤ 4 then (if y = 0 then ((f_X10_atomsOf F P xS0 1 (nI w) D).bind fun q4 => some (q4.1, q4.2)) else ((f_X10_cell F P xS0 1 (y - 1) (nI w) D).bind fun q2 => (f_X11_lowest F P xS0 q2.1 q2.2).bind fun q3 => some (q3.1, q3.2))) else some (-1, D)) := by
    rw [e_X11_told, E_has1 hC.1 hn hw]
    simp only [Option.bind_some]
    rw [if_neg (by decide)]
  have u2 : f_X12_told F P xS0 241 (nI w) y D = (f_X12_in F P xS0 y 0 4 D).bind fun q2 => if q2.1 = 0 then (f_X12_told_17 F P xS0 q2.2) else (if y = 0 then (some (q2.2.1 242 w, q2.2)) else ((f_X12_cell F P xS0 241 y (nI w) q2.2).bind fun q3 => some (q3.1, q3.2))) := by
    rw [e_X12_told, E_isW1 hM.1 hn hw]
    simp only [Option.bind_some]
    rw [if_neg (by decide)]
    simp only [xin_nI (show w < 64 by omega) (show 64 < 2 ^ 31 by omega), xgrd_t, nI_clamp (show w < 2 ^ 31 by omega)]
  rcases i_in 5 y with ⟨k, hk, _, rfl⟩ | hy
  rotate_left
  · refine Iv_same (r := -1) h ?_ ?_
    · rw [u1]
      rcases hy with h1 | ⟨j, h1, h2, rfl⟩
      · rw [if_pos h1]
      · rw [if_neg (nI_pos h2), if_neg (by rw [k4, nI_leI h2 (by omega)]; omega)]
    · rw [u2, show f_X12_in F P xS0 y 0 4 D = some (0, D) from in_f (hi := 4) (by omega) hy]; rfl
  rw [show f_X12_in F P xS0 (nI k) 0 4 D = some (1, D) from E_in1 (lo := 0) (hi := 4) (by omega) (by omega) (by omega)] at u2
  simp only [Option.bind_some] at u2
  rw [if_neg (show ¬ (1 : Int32) = 0 by decide)] at u2
  rw [if_neg (nI_pos (by omega)), if_pos (show nI k ≤ 4 from by rw [k4, nI_leI (by omega) (by omega)]; omega)] at u1
  by_cases h0 : k = 0
  · subst h0
    refine Iv_same (r := nI (W.2.1 w)) h ?_ ?_
    · rw [u1, if_pos (show nI 0 = 0 from rfl), E_atomsOf (by omega) oW1 (by omega) (hW.2.1 w hw) (fun k hk => hC.2.1 k hk w hw)]
      rfl
    · rw [u2, if_pos (show nI 0 = 0 from rfl), hM.2.1 w hw]
  · obtain ⟨g, rfl⟩ : ∃ g, k = g + 1 := ⟨k - 1, by omega⟩
    refine Iv_same (r := nI (W.2.2 g w)) h ?_ ?_
    · rw [u1, if_neg (by rw [nI_eq0 (by omega)]; omega), nI_s1 (by omega), Nat.add_sub_cancel, E_cell oW1 (by omega) (by omega)]
      simp only [Option.bind_some]
      rw [E_lowest, hC.2.2 g (by omega) w hw, lst_cs hW (by omega) hw]
      rfl
    · rw [u2, if_neg (by rw [nI_eq0 (by omega)]; omega), E_mcell (by omega) (by omega), hM.2.2 g (by omega) w hw]
      rfl
