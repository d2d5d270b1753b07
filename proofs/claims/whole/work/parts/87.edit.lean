/-! tie, alone, atom, told -/
theorem ag_in (x : Int32) : (∃ g, g < 4 ∧ x = nI (g + 1)) ∨ (x < 1 ∨ 4 < x) := by
  rcases i_cases x with h | ⟨j, hj, rfl⟩
  · exact Or.inr (Or.inl (neg_lt (j := 1) h (by omega)))
  · by_cases h0 : j = 0
    · subst h0; exact Or.inr (Or.inl (by decide))
    · by_cases h4 : j ≤ 4
      · exact Or.inl ⟨j - 1, by omega, by rw [Nat.sub_add_cancel (by omega)]⟩
      · exact Or.inr (Or.inr ((nI_ltI (a := 4) (by omega) hj).mpr (by omega)))
section
variable {F P : Nat} {S : xSt} {D : xDt}
theorem E_ag1 {g : Nat} (hg : g < 4) : f_X11_isAgent F P S (nI (g + 1)) D = some (1, D) := by
  unfold f_X11_isAgent
  rw [k1, if_neg (by rw [nI_ltI (by omega) (by omega)]; omega), k4, if_neg (by rw [nI_ltI (by omega) (by omega)]; omega)]
theorem E_ag0 {x : Int32} (h : x < 1 ∨ 4 < x) : f_X11_isAgent F P S x D = some (0, D) := by
  unfold f_X11_isAgent f_X11_isAgent_14
  by_cases h1 : x < 1
  · rw [if_pos h1]
  · rw [if_neg h1, if_pos (h.resolve_left h1)]
theorem E_mag1 {g : Nat} (hg : g < 4) : f_X12_isAgent F P S (nI (g + 1)) D = some (1, D) := by
  rw [E_isAgent, k1, if_neg (by rw [nI_ltI (by omega) (by omega)]; omega), k4, if_neg (by rw [nI_ltI (by omega) (by omega)]; omega)]
theorem E_mag0 {x : Int32} (h : x < 1 ∨ 4 < x) : f_X12_isAgent F P S x D = some (0, D) := by
  rw [E_isAgent]
  by_cases h1 : x < 1
  · rw [if_pos h1]
  · rw [if_neg h1, if_pos (h.resolve_left h1)]
theorem E_at1 {k : Nat} (hk : k < 8) : f_X11_isAtom F P S (nI k) D = some (1, D) := by
  unfold f_X11_isAtom
  rw [if_neg (nI_pos (by omega)), k8, if_neg (by rw [nI_leI (by omega) (by omega)]; omega)]
theorem E_at0 {x : Int32} (hx : x < 0 ∨ ∃ j, 8 ≤ j ∧ j < 2 ^ 31 ∧ x = nI j) : f_X11_isAtom F P S x D = some (0, D) := by
  unfold f_X11_isAtom f_X11_isAtom_14
  rcases hx with h | ⟨j, h1, h2, rfl⟩
  · rw [if_pos h]
  · rw [if_neg (nI_pos h2), if_pos (by rw [k8, nI_leI (by omega) h2]; exact h1)]
theorem in_f {x : Int32} {hi : Nat} (h : hi + 1 < 2 ^ 31) (hx : x < 0 ∨ ∃ j, hi + 1 ≤ j ∧ j < 2 ^ 31 ∧ x = nI j) : f_X12_in F P S x (nI 0) (nI hi) D = some (0, D) := by
  apply E_in0
  rcases hx with h1 | ⟨j, h1, h2, rfl⟩
  · exact Or.inl h1
  · exact Or.inr ((nI_ltI (by omega) h2).mpr (by omega))
end
/-- the ints of the cells behind an edit of worlds -/
abbrev eD (D : xDt) : xDt := (xup (xup D.1 4 2 0) 0 13 0, D.2)
theorem eD_x (D : xDt) {x : Nat} (h0 : x ≠ 0) (h4 : x ≠ 4) : (eD D).1 x = D.1 x := by
  show xup (xup D.1 4 2 0) 0 13 0 x = _
  rw [xup_ne _ _ _ _ h0, xup_ne _ _ _ _ h4]
theorem eD_C {D : xDt} {W : Wd} (h : wC D 1 2 3 W) : wC (eD D) 1 2 3 W := wC_congr (by rw [eD_x D (by omega) (by omega)]) rfl rfl h
/-- from an edit of both sides to what holds between the calls -/
theorem Iv_both {dA : T → Nat → Int32} {D D1 D2 : xDt} (h : Iv dA D) {D1L : Nat → Nat → Int64} (e1 : D1 = ((eD D).1, D1L)) (hL : ∀ x, x ≠ 2 → x ≠ 3 → D1L x = D.2 x) (hc : ch [241, 242, 243] [] D1 D2) (h5 : ∀ j, j ≠ 1 → j ≠ 7 → D2.1 241 j = D1.1 241 j) (h5' : D2.1 241 7 = 0) {W' : Wd} (hW : iW D2 W') : Iv dA D2 := by
  subst e1
  refine Iv_edit h ⟨fun x hx => ?_, fun x hx => ?_⟩ ?_ ?_ ?_ ?_ ?_ h5' hW
  · simp only [List.mem_cons, List.not_mem_nil, or_false, not_or] at hx
    rw [hc.1 x (by simp; omega)]
    exact eD_x D (by omega) (by omega)
  · simp only [List.mem_cons, List.not_mem_nil, or_false, not_or] at hx
    rw [hc.2 x (by simp)]
    exact hL x hx.1 hx.2
  · intro j hj
    rw [hc.1 0 (by simp)]
    show xup (xup D.1 4 2 0) 0 13 0 0 j = _
    rw [xup_nk _ _ _ _ _ hj, xup_na _ _ _ _ _ (by omega)]
  · rw [hc.1 0 (by simp)]
    show xup (xup D.1 4 2 0) 0 13 0 0 13 = _
    rw [xup_at]
  · rw [hc.1 4 (by simp)]
    show xup (xup D.1 4 2 0) 0 13 0 4 1 = _
    rw [xup_na _ _ _ _ _ (by omega), xup_nk _ _ _ _ _ (by omega)]
  · rw [hc.1 4 (by simp)]
    show xup (xup D.1 4 2 0) 0 13 0 4 2 = _
    rw [xup_na _ _ _ _ _ (by omega), xup_at]
  · intro j h1 h7
    rw [h5 j h1 h7]
    show (eD D).1 241 j = _
    rw [eD_x D (by omega) (by omega)]
theorem M_tie {dA : T → Nat → Int32} {F P : Nat} (hF : 10000 < F) {D : xDt} (h : Iv dA D) (x y z : Int32) : Two dA D (f_X11_tie F P xS0 0 x y z) (f_X12_tie F P xS0 241 x y z) := by
  obtain ⟨W, L, t, E, sg, tx, ⟨hW, hC, hM⟩, _⟩ := id h
  have hn := hW.1
  rcases ag_in x with ⟨g, hg, rfl⟩ | hx
  rotate_left
  · exact Iv_same (r := -1) h (by rw [e_X11_tie, E_ag0 hx]; rfl) (by rw [e_X12_tie, E_mag0 hx]; rfl)
  rcases i_in W.1 y with ⟨u, hu, _, rfl⟩ | hy
  rotate_left
  · refine Iv_same (r := -1) h ?_ ?_
    · rw [e_X11_tie, E_ag1 hg]
      simp only [Option.bind_some]
      rw [if_neg (by decide), E_has0 hC.1 hn hy]
      rfl
    · rw [e_X12_tie, E_mag1 hg]
      simp only [Option.bind_some]
      rw [if_neg (by decide), E_isW0 hM.1 hn hy]
      rfl
  rcases i_in W.1 z with ⟨v, hv, _, rfl⟩ | hz
  rotate_left
  · refine Iv_same (r := -1) h ?_ ?_
    · rw [e_X11_tie, E_ag1 hg]
      simp only [Option.bind_some]
      rw [if_neg (by decide), E_has1 hC.1 hn hu]
      simp only [Option.bind_some]
      rw [if_neg (by decide), E_has0 hC.1 hn hz]
      rfl
    · rw [e_X12_tie, E_mag1 hg]
      simp only [Option.bind_some]
      rw [if_neg (by decide), E_isW1 hM.1 hn hu]
      simp only [Option.bind_some]
      rw [if_neg (by decide), E_isW0 hM.1 hn hz]
      rfl
  have hC1 := eD_C hC
  generalize hX : cs W g u ||| cs W g v = X
  have hcl : cl W g (bt X) := by rw [← hX]; exact cl_tie hW
  have e1 : f_X11_tie F P xS0 0 (nI (g + 1)) (nI u) (nI v) D = some (nI (cn (bt X) 64), ((eD D).1, upP D.2 3 (g * 64) W.1 (bt X) (fun _ => X))) := by
    rw [e_X11_tie, E_ag1 hg]
    simp only [Option.bind_some]
    rw [if_neg (by decide), E_has1 hC.1 hn hu]
    simp only [Option.bind_some]
    rw [if_neg (by decide), E_has1 hC.1 hn hv]
    simp only [Option.bind_some]
    rw [if_neg (by decide), E_edited]
    simp only [Option.bind_some]
    rw [nI_s1 (by omega), Nat.add_sub_cancel, E_merge (by omega) oW1 (n := W.1) (by exact hC1.1) hn hg (by omega) (by omega) (x := X) (by
      show _ = D.2 3 _ ||| D.2 3 _
      rw [hC.2.2 g hg u hu, hC.2.2 g hg v hv, hX])]
    rfl
  have hM1 : wM ((eD D).1 241 1) ((eD D).1 242) ((eD D).1 243) W := by
    rw [eD_x D (by omega) (by omega), eD_x D (by omega) (by omega), eD_x D (by omega) (by omega)]; exact hM
  generalize hD1 : (((eD D).1, upP D.2 3 (g * 64) W.1 (bt X) (fun _ => X)) : xDt) = D1 at *
  have hM2 : wM (D1.1 241 1) (D1.1 242) (D1.1 243) W := by rw [← hD1]; exact hM1
  have hM3 : wM (((xup D1.1 241 7 0, D1.2) : xDt).1 241 1) (((xup D1.1 241 7 0, D1.2) : xDt).1 242) (((xup D1.1 241 7 0, D1.2) : xDt).1 243) W := by
    dsimp only
    rw [xup_nk _ _ _ _ _ (by omega), xup_ne _ _ _ _ (by omega), xup_ne _ _ _ _ (by omega)]; exact hM2
  have e2 : f_X12_tie F P xS0 241 (nI (g + 1)) (nI u) (nI v) D1 = some (nI (cn (bt X) 64), (upP (xup D1.1 241 7 0) 243 (64 * g) W.1 (bt X) (fun _ => nI (lst (bt X) 64)), D1.2)) := by
    rw [e_X12_tie, E_mag1 hg]
    simp only [Option.bind_some]
    rw [if_neg (by decide), E_isW1 hM2.1 hn hu]
    simp only [Option.bind_some]
    rw [if_neg (by decide), E_isW1 hM2.1 hn hv]
    simp only [Option.bind_some]
    rw [if_neg (by decide)]
    simp only [xlet]
    rw [E_cellOf (by omega) hW hM3 hg hu]
    simp only [Option.bind_some]
    rw [E_cellOf (by omega) hW hM3 hg hv]
    simp only [Option.bind_some]
    rw [hX, E_gather (by omega) hM3.1 hn hg]
    simp only [Option.bind_some]
    rw [E_size (by omega)]
    rfl
  refine ⟨_, D1, _, e1, e2, Iv_both h hD1.symm ?_ ?_ ?_ ?_ (W' := wG W g (bt X)) ⟨wG_ok hW hg hcl, ?_, ?_⟩⟩
  · intro x h2 h3
    funext j
    rw [upP_na h3]
  · exact ch_ip (D' := (xup D1.1 241 7 0, D1.2)) (by simp) (ch_i (by simp) (ch_rfl _ _ _))
  · intro j h1 h7
    dsimp only
    rw [upP_na (by omega), xup_nk _ _ _ _ _ h7]
  · dsimp only
    rw [upP_na (by omega), xup_at]
  · have hw := wG_C hW hg hcl (by omega) hC1 rfl
    refine wC_congr (D := ((eD D).1, upP D.2 3 (g * 64) W.1 (bt X) (fun _ => X))) ?_ ?_ ?_ hw
    · dsimp only
      rw [upP_na (by omega), xup_na _ _ _ _ _ (by omega), ← hD1]
    · rw [← hD1]
    · rw [← hD1]
  · dsimp only
    have q := wG_M (m := D1.1 241 1) (fa := D1.1 242) (fc := D1.1 243) (x := X) hn hg hM2 (fc' := fun j => upP (xup D1.1 241 7 0) 243 (64 * g) W.1 (bt X) (fun _ => nI (lst (bt X) 64)) 243 j) (by
      intro j
      rw [upP_f2, xup_na _ _ _ _ _ (by omega)])
    have a1 : upP (xup D1.1 241 7 0) 243 (64 * g) W.1 (bt X) (fun _ => nI (lst (bt X) 64)) 241 1 = D1.1 241 1 := by rw [upP_na (by omega), xup_nk _ _ _ _ _ (by omega)]
    have a2 : upP (xup D1.1 241 7 0) 243 (64 * g) W.1 (bt X) (fun _ => nI (lst (bt X) 64)) 242 = D1.1 242 := by
      funext j
      rw [upP_na (by omega), xup_na _ _ _ _ _ (by omega)]
    rw [a1, a2]; exact q
/-- one world is taken out of its cell -/
def wAl (W : Wd) (g w : Nat) (X : Int64) : Wd := (W.1, W.2.1, fun k y => if k = g ∧ y = w then w else if k = g ∧ bt X y = true then lst (bt X) 64 else W.2.2 k y)
theorem al_X {W : Wd} (h : wOK W) {g w : Nat} (hw : w < W.1) {X : Int64} (hX : X = cs W g w &&& (jlshl 1 (nI w) ^^^ (-1))) (j : Nat) : bt X j = true ↔ j < W.1 ∧ j ≠ w ∧ W.2.2 g j = W.2.2 g w := by
  have hn := h.1
  rw [hX, bt_andn, bt_bit (by omega), bt_cs _ h.1, Bool.and_eq_true, Bool.and_eq_true, decide_eq_true_iff, decide_eq_true_iff]
  constructor
  · rintro ⟨⟨a, b⟩, c⟩; exact ⟨a, by simpa using c, b⟩
  · rintro ⟨a, b, c⟩; exact ⟨⟨a, c⟩, by simpa using b⟩
theorem al_l {W : Wd} (h : wOK W) {g w : Nat} (hg : g < 4) (hw : w < W.1) {X : Int64} (hX : ∀ j, bt X j = true ↔ j < W.1 ∧ j ≠ w ∧ W.2.2 g j = W.2.2 g w) {j : Nat} (hj : bt X j = true) : bt X (lst (bt X) 64) = true ∧ lst (bt X) 64 ≤ j := by
  have hn := h.1
  have := (hX j).mp hj
  exact ⟨lst_yes _ _ (lst_lt (by omega) hj), lst_lej hj (by omega)⟩
/-- a world outside the cell: its least one lies outside, too -/
theorem al_o {W : Wd} (h : wOK W) {g w : Nat} (hg : g < 4) {X : Int64} (hX : ∀ j, bt X j = true ↔ j < W.1 ∧ j ≠ w ∧ W.2.2 g j = W.2.2 g w) {y : Nat} (hy : y < W.1) (h1 : ¬ W.2.2 g y = W.2.2 g w) : W.2.2 g y ≠ w ∧ ¬ bt X (W.2.2 g y) = true := by
  have hy2 := h.2.2 g hg y hy
  constructor
  · intro e
    apply h1
    have := hy2.2
    rw [e] at this
    rw [e, this]
  · intro c
    have := ((hX _).mp c).2.2
    rw [hy2.2] at this
    exact h1 this
theorem wAl_r {W : Wd} (h : wOK W) {g w : Nat} (hg : g < 4) (hw : w < W.1) {X : Int64} (hX : ∀ j, bt X j = true ↔ j < W.1 ∧ j ≠ w ∧ W.2.2 g j = W.2.2 g w) {y : Nat} (hy : y < W.1) : (y = w ∧ (wAl W g w X).2.2 g y = w) ∨ (y ≠ w ∧ bt X y = true ∧ (wAl W g w X).2.2 g y = lst (bt X) 64) ∨ (y ≠ w ∧ ¬ bt X y = true ∧ ¬ W.2.2 g y = W.2.2 g w ∧ (wAl W g w X).2.2 g y = W.2.2 g y) := by
  show (y = w ∧ (if g = g ∧ y = w then w else if g = g ∧ bt X y = true then lst (bt X) 64 else W.2.2 g y) = w) ∨ (y ≠ w ∧ bt X y = true ∧ (if g = g ∧ y = w then w else if g = g ∧ bt X y = true then lst (bt X) 64 else W.2.2 g y) = lst (bt X) 64) ∨ (y ≠ w ∧ ¬ bt X y = true ∧ ¬ W.2.2 g y = W.2.2 g w ∧ (if g = g ∧ y = w then w else if g = g ∧ bt X y = true then lst (bt X) 64 else W.2.2 g y) = W.2.2 g y)
  by_cases h1 : y = w
  · exact Or.inl ⟨h1, by rw [if_pos ⟨rfl, h1⟩]⟩
  · rw [if_neg (fun c => h1 c.2)]
    by_cases h2 : bt X y = true
    · exact Or.inr (Or.inl ⟨h1, h2, by rw [if_pos ⟨rfl, h2⟩]⟩)
    · refine Or.inr (Or.inr ⟨h1, h2, fun c => h2 ((hX y).mpr ⟨hy, h1, c⟩), by rw [if_neg (fun c => h2 c.2)]⟩)
theorem wAl_k {W : Wd} {g w : Nat} {X : Int64} {k : Nat} (hk : k ≠ g) (y : Nat) : (wAl W g w X).2.2 k y = W.2.2 k y := by
  show (if k = g ∧ y = w then w else if k = g ∧ bt X y = true then lst (bt X) 64 else W.2.2 k y) = _
  rw [if_neg (fun c => hk c.1), if_neg (fun c => hk c.1)]
theorem wAl_ok {W : Wd} (h : wOK W) {g w : Nat} (hg : g < 4) (hw : w < W.1) {X : Int64} (hX : ∀ j, bt X j = true ↔ j < W.1 ∧ j ≠ w ∧ W.2.2 g j = W.2.2 g w) : wOK (wAl W g w X) := by
  refine ⟨h.1, h.2.1, fun k hk y hy => ?_⟩
  have hy2 : y < W.1 := hy
  by_cases e : k = g
  · subst e
    rcases wAl_r h hk hw hX hy2 with ⟨a, b⟩ | ⟨a, b, c⟩ | ⟨a, b, c, d⟩
    · rw [b]
      refine ⟨by omega, ?_⟩
      rcases wAl_r h hk hw hX hw with ⟨_, b⟩ | ⟨a, _⟩ | ⟨a, _⟩
      · exact b
      · exact absurd rfl a
      · exact absurd rfl a
    · rw [c]
      obtain ⟨q1, q2⟩ := al_l h hk hw hX b
      refine ⟨q2, ?_⟩
      have q3 := (hX _).mp q1
      rcases wAl_r h hk hw hX q3.1 with ⟨a, _⟩ | ⟨_, _, c⟩ | ⟨_, b, _⟩
      · exact absurd a q3.2.1
      · exact c
      · exact absurd q1 b
    · rw [d]
      have h2 := h.2.2 k hk y hy2
      refine ⟨h2.1, ?_⟩
      obtain ⟨q1, q2⟩ := al_o h hk hX hy2 c
      rcases wAl_r h hk hw hX (show W.2.2 k y < W.1 by omega) with ⟨a, _⟩ | ⟨_, a, _⟩ | ⟨_, _, _, c⟩
      · exact absurd a q1
      · exact absurd a q2
      · rw [c]; exact h2.2
  · rw [wAl_k e, wAl_k e]
    exact h.2.2 k hk y hy2
theorem wAl_C {D : xDt} {D2 : Nat → Nat → Int64} {a ta ce : Nat} {W : Wd} (h : wOK W) {g w : Nat} (hg : g < 4) (hw : w < W.1) {X : Int64} (hX : ∀ j, bt X j = true ↔ j < W.1 ∧ j ≠ w ∧ W.2.2 g j = W.2.2 g w) (hd : ta ≠ ce) (hC : wC D a ta ce W) (hD : D2 = upP (upP D.2 ce (g * 64) W.1 (bt X) (fun _ => X)) ce (g * 64) W.1 (bt (jlshl 1 (nI w))) (fun _ => jlshl 1 (nI w))) : wC (D.1, D2) a ta ce (wAl W g w X) := by
  subst hD
  have hn := h.1
  refine ⟨hC.1, ?_, ?_⟩
  · intro k hk y hy
    dsimp only
    rw [upP_na hd, upP_na hd]
    exact hC.2.1 k hk y hy
  · intro k hk y hy
    have hy2 : y < W.1 := hy
    dsimp only
    by_cases e : k = g
    · subst e
      have hbit : ∀ j, bt (cs (wAl W k w X) k y) j = true ↔ j < W.1 ∧ (wAl W k w X).2.2 k j = (wAl W k w X).2.2 k y := by
        intro j
        rw [bt_cs (wAl W k w X) h.1, Bool.and_eq_true, decide_eq_true_iff, decide_eq_true_iff]
        exact Iff.rfl
      rcases wAl_r h hk hw hX hy2 with ⟨rfl, q1⟩ | ⟨q0, q1, q2⟩ | ⟨q0, q1, q2, q3⟩
      · rw [upP_in hy2 (by rw [bt_bit (by omega)]; simp)]
        apply bt_ext
        intro j hj
        apply b_iff
        rw [hbit, bt_bit (by omega), decide_eq_true_iff, q1]
        constructor
        · rintro rfl; exact ⟨hw, q1⟩
        · rintro ⟨c1, c2⟩
          rcases wAl_r h hk hw hX c1 with ⟨d1, _⟩ | ⟨_, d2, d3⟩ | ⟨_, _, d3, d4⟩
          · exact d1
          · have := (al_l h hk hw hX d2).1
            rw [← d3, c2] at this
            exact absurd rfl ((hX _).mp this).2.1
          · rw [d4] at c2
            exact absurd c2 (al_o h hk hX c1 d3).1
      · rw [upP_np (by rw [bt_bit (by omega)]; simp [q0]), upP_in hy2 q1]
        apply bt_ext
        intro j hj
        apply b_iff
        rw [hbit, q2]
        constructor
        · intro c
          have c1 := (hX j).mp c
          rcases wAl_r h hk hw hX c1.1 with ⟨d1, _⟩ | ⟨_, _, d3⟩ | ⟨_, d2, _⟩
          · exact absurd d1 c1.2.1
          · exact ⟨c1.1, d3⟩
          · exact absurd c d2
        · rintro ⟨c1, c2⟩
          have q4 := (al_l h hk hw hX q1).1
          rcases wAl_r h hk hw hX c1 with ⟨_, d1⟩ | ⟨_, d2, _⟩ | ⟨_, _, d3, d4⟩
          · rw [d1] at c2
            exact absurd c2.symm ((hX _).mp q4).2.1
          · exact d2
          · rw [d4] at c2
            have := (al_o h hk hX c1 d3).2
            rw [c2] at this
            exact absurd q4 this
      · rw [upP_np (by rw [bt_bit (by omega)]; simp [q0]), upP_np (by simpa using q1), hC.2.2 k hk y hy2]
        apply bt_ext
        intro j hj
        apply b_iff
        rw [hbit, q3, bt_cs W h.1, Bool.and_eq_true, decide_eq_true_iff, decide_eq_true_iff]
        have o := al_o h hk hX hy2 q2
        constructor
        · rintro ⟨c1, c2⟩
          refine ⟨c1, ?_⟩
          rcases wAl_r h hk hw hX c1 with ⟨d1, _⟩ | ⟨_, d2, _⟩ | ⟨_, _, _, d4⟩
          · subst d1; exact absurd c2.symm q2
          · have := ((hX _).mp d2).2.2
            rw [c2] at this; exact absurd this q2
          · rw [d4]; exact c2
        · rintro ⟨c1, c2⟩
          refine ⟨c1, ?_⟩
          rcases wAl_r h hk hw hX c1 with ⟨_, d1⟩ | ⟨_, d2, d3⟩ | ⟨_, _, _, d4⟩
          · rw [d1] at c2; exact absurd c2.symm o.1
          · rw [d3] at c2
            have := (al_l h hk hw hX d2).1
            rw [c2] at this; exact absurd this o.2
          · rw [← d4]; exact c2
    · rw [upP_out (by omega), upP_out (by omega), hC.2.2 k hk y hy2]
      unfold cs
      apply mkS_congr
      intro j hj
      rw [wAl_k e, wAl_k e]
      rfl
