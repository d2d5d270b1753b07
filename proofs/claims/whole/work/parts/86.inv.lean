/-! what holds between the calls: the class's cells, the reference's cells, and what both mean -/
def iW (D : xDt) (W : Wd) : Prop := wOK W ∧ wC D 1 2 3 W ∧ wM (D.1 241 1) (D.1 242) (D.1 243) W
theorem iW_congr {D D' : xDt} {W : Wd} (h1 : D'.1 1 0 = D.1 1 0) (h2 : D'.2 2 = D.2 2) (h3 : D'.2 3 = D.2 3) (h4 : D'.1 241 1 = D.1 241 1) (h5 : D'.1 242 = D.1 242) (h6 : D'.1 243 = D.1 243) (h : iW D W) : iW D' W := ⟨h.1, wC_congr h1 h2 h3 h.2.1, by rw [h4, h5, h6]; exact h.2.2⟩
/-- the steps that can be taken back, the last one first -/
def iK (D : xDt) (L : List Wd) : Prop := L.length ≤ 12 ∧ ∃ p, p < 12 ∧ D.1 4 1 = nI p ∧ D.1 4 2 = nI L.length ∧ D.1 241 7 = nI L.length ∧ ∀ i (hi : i < L.length), wOK L[i] ∧ wC D (6 + 3 * ((p + 11 - i) % 12)) (7 + 3 * ((p + 11 - i) % 12)) (8 + 3 * ((p + 11 - i) % 12)) L[i] ∧ wM (D.1 244 (L.length - 1 - i)) (fun w => D.1 245 (64 * (L.length - 1 - i) + w)) (fun k => D.1 246 (256 * (L.length - 1 - i) + k)) L[i]
theorem iK_nil {D : xDt} {p : Nat} (hp : p < 12) (h1 : D.1 4 1 = nI p) (h2 : D.1 4 2 = 0) (h3 : D.1 241 7 = 0) : iK D [] := ⟨by simp, p, hp, h1, h2, h3, fun i hi => absurd hi (by simp)⟩
theorem iK_congr {D D' : xDt} {L : List Wd} (h1 : D'.1 4 = D.1 4) (h2 : D'.1 241 7 = D.1 241 7) (h3 : ∀ x, 6 ≤ x → x < 42 → D'.1 x = D.1 x ∧ D'.2 x = D.2 x) (h4 : ∀ x, 244 ≤ x → x ≤ 246 → D'.1 x = D.1 x) (h : iK D L) : iK D' L := by
  obtain ⟨a0, p, a1, a2, a3, a4, a5⟩ := h
  refine ⟨a0, p, a1, by rw [h1]; exact a2, by rw [h1]; exact a3, by rw [h2]; exact a4, fun i hi => ?_⟩
  obtain ⟨b1, b2, b3⟩ := a5 i hi
  have hm : (p + 11 - i) % 12 < 12 := Nat.mod_lt _ (by omega)
  refine ⟨b1, wC_congr (by rw [(h3 _ (by omega) (by omega)).1]) (h3 _ (by omega) (by omega)).2 (h3 _ (by omega) (by omega)).2 b2, ?_⟩
  rw [h4 244 (by omega) (by omega), h4 245 (by omega) (by omega), h4 246 (by omega) (by omega)]
  exact b3
/-- the formula in hand -/
def iT (D : xDt) (t : T) : Prop := wfT t ∧ sz t ≤ 2000 ∧ (sz t ≤ 150 ∨ plT t) ∧ fmC D 202 203 t ∧ ∃ h, h < 2000 ∧ D.1 241 14 = nI h ∧ nd D.1 0 t h
theorem iT_congr {D D' : xDt} {t : T} (h1 : D'.1 202 1 = D.1 202 1) (h2 : D'.1 203 = D.1 203) (h3 : D'.1 241 14 = D.1 241 14) (h4 : ∀ x, 247 ≤ x → x ≤ 251 → ∀ j, j < 2000 → D'.1 x j = D.1 x j) (h : iT D t) : iT D' t := by
  obtain ⟨a1, a2, a3, a4, i, a5, a6, a7⟩ := h
  exact ⟨a1, a2, a3, fmC_congr h1 (fun i _ => by rw [h2]) a4, i, a5, by rw [h3]; exact a6, nd_congr (fun x hx hx2 j _ hj => h4 x hx hx2 j (by omega)) a7⟩
/-- the events: how many, what must hold, what tells each ATOM, cells -/
abbrev Ev : Type := Nat × (Nat → T) × (Nat → Nat → T) × (Nat → Nat → Nat)
def bm (p : Nat → Bool) : Nat → Nat
  | 0 => 0
  | n + 1 => bm p n + (if p n then 2 ^ n else 0)
/-- a formula of an event: the class's row, the reference's NODES from lo on -/
def sl (D : xDt) (r : Nat) (t : T) : Prop := wfT t ∧ sz t ≤ 150 ∧ fmC D (48 + 2 * r) (49 + 2 * r) t
def sm (D : xDt) (r : Nat) (t : T) (x : Int32) : Prop := ∃ i, x = nI i ∧ i < 2150 + 150 * r ∧ nd D.1 (2000 + 150 * r) t i
def iE (D : xDt) (E : Ev) : Prop := E.1 ≤ 8 ∧ D.1 42 0 = nI E.1 ∧ D.1 241 25 = nI E.1 ∧ (∀ e, e < E.1 → sl D (9 * e) (E.2.1 e) ∧ sm D (9 * e) (E.2.1 e) (D.1 257 e)) ∧ (∀ e, e < E.1 → ∀ k, k < 8 → (E.2.2.1 e k = nil ∧ D.1 (48 + 2 * (9 * e + 1 + k)) 1 = 0 ∧ D.1 258 (8 * e + k) = -2) ∨ (sl D (9 * e + 1 + k) (E.2.2.1 e k) ∧ sm D (9 * e + 1 + k) (E.2.2.1 e k) (D.1 258 (8 * e + k)))) ∧ (∀ g, g < 4 → ∀ e, e < E.1 → E.2.2.2 g e ≤ e ∧ E.2.2.2 g (E.2.2.2 g e) = E.2.2.2 g e ∧ D.1 259 (8 * g + e) = nI (E.2.2.2 g e) ∧ D.1 44 (g * 8 + e) = nI (bm (fun f => decide (f < E.1) && decide (E.2.2.2 g f = E.2.2.2 g e)) 8))
theorem sl_congr {D D' : xDt} {r : Nat} {t : T} (h : ∀ x, 48 + 2 * r ≤ x → x ≤ 49 + 2 * r → D'.1 x = D.1 x) (h2 : sl D r t) : sl D' r t := ⟨h2.1, h2.2.1, fmC_congr (by rw [h _ (by omega) (by omega)]) (fun i _ => by rw [h _ (by omega) (by omega)]) h2.2.2⟩
theorem sm_congr {D D' : xDt} {r : Nat} {t : T} {x : Int32} (h : ∀ a, 247 ≤ a → a ≤ 251 → ∀ j, 2000 + 150 * r ≤ j → j < 2150 + 150 * r → D'.1 a j = D.1 a j) (h2 : sm D r t x) : sm D' r t x := by
  obtain ⟨i, e, hi, hd⟩ := h2
  exact ⟨i, e, hi, nd_congr (fun a ha hb j hj hj2 => h a ha hb j hj (by omega)) hd⟩
theorem iE_congr {D D' : xDt} {E : Ev} (h0 : D'.1 42 0 = D.1 42 0) (h1 : D'.1 241 25 = D.1 241 25) (h2 : ∀ x, x = 44 ∨ (48 ≤ x ∧ x < 192) ∨ (257 ≤ x ∧ x ≤ 259) → D'.1 x = D.1 x) (h3 : ∀ x, 247 ≤ x → x ≤ 251 → ∀ j, 2000 ≤ j → j < 12800 → D'.1 x j = D.1 x j) (h : iE D E) : iE D' E := by
  obtain ⟨a0, a1, a2, a3, a4, a5⟩ := h
  refine ⟨a0, by rw [h0]; exact a1, by rw [h1]; exact a2, fun e he => ?_, fun e he k hk => ?_, fun g hg e he => ?_⟩
  · obtain ⟨b1, b2⟩ := a3 e he
    refine ⟨sl_congr (fun x hx hx2 => h2 x (by omega)) b1, ?_⟩
    rw [h2 257 (by omega)]
    exact sm_congr (fun x hx hx2 j hj hj2 => h3 x hx hx2 j (by omega) (by omega)) b2
  · rcases a4 e he k hk with ⟨b1, b2, b3⟩ | ⟨b1, b2⟩
    · exact Or.inl ⟨b1, by rw [h2 _ (by omega)]; exact b2, by rw [h2 258 (by omega)]; exact b3⟩
    · refine Or.inr ⟨sl_congr (fun x hx hx2 => h2 x (by omega)) b1, ?_⟩
      rw [h2 258 (by omega)]
      exact sm_congr (fun x hx hx2 j hj hj2 => h3 x hx hx2 j (by omega) (by omega)) b2
  · obtain ⟨b1, b2, b3, b4⟩ := a5 g hg e he
    exact ⟨b1, b2, by rw [h2 259 (by omega)]; exact b3, by rw [h2 44 (by omega)]; exact b4⟩
/-- the signs that are collected -/
def iS (D : xDt) (sg : List Nat) : Prop := sg.length ≤ 200 ∧ (∀ x, x ∈ sg → 32 ≤ x ∧ x ≤ 126) ∧ D.1 192 1 = nI sg.length ∧ tkAt (D.1 193) 0 sg ∧ D.1 241 16 = nI sg.length ∧ tkAt (D.1 252) 0 sg
theorem iS_congr {D D' : xDt} {sg : List Nat} (h1 : D'.1 192 1 = D.1 192 1) (h2 : D'.1 193 = D.1 193) (h3 : D'.1 241 16 = D.1 241 16) (h4 : D'.1 252 = D.1 252) (h : iS D sg) : iS D' sg := ⟨h.1, h.2.1, by rw [h1]; exact h.2.2.1, by rw [h2]; exact h.2.2.2.1, by rw [h3]; exact h.2.2.2.2.1, by rw [h4]; exact h.2.2.2.2.2⟩
/-- the text that was told last -/
def iX (D : xDt) (tx : List Nat) : Prop := tx.length ≤ 4000 ∧ D.1 204 1 = nI tx.length ∧ tkAt (D.1 205) 0 tx ∧ D.1 241 21 = nI tx.length ∧ tkAt (D.1 253) 0 tx
theorem iX_congr {D D' : xDt} {tx : List Nat} (h1 : D'.1 204 1 = D.1 204 1) (h2 : D'.1 205 = D.1 205) (h3 : D'.1 241 21 = D.1 241 21) (h4 : D'.1 253 = D.1 253) (h : iX D tx) : iX D' tx := ⟨h.1, by rw [h1]; exact h.2.1, by rw [h2]; exact h.2.2.1, by rw [h3]; exact h.2.2.2.1, by rw [h4]; exact h.2.2.2.2⟩
/-- what was judged, what was decided -/
def iJ (D : xDt) (W : Wd) (t : T) : Prop := D.1 0 13 = 0 ∨ (D.1 0 13 = 1 ∧ D.2 0 12 = ev W t (aS W))
def iD (dA : T → Nat → Int32) (D : xDt) (t : T) : Prop := D.1 0 14 = 0 ∨ (D.1 0 14 = 1 ∧ ∀ i, i < 6 → D.1 223 i = dA t i)
theorem iD_congr {dA : T → Nat → Int32} {D D' : xDt} {t : T} (h1 : D'.1 0 14 = D.1 0 14) (h2 : D'.1 223 = D.1 223) (h : iD dA D t) : iD dA D' t := by
  unfold iD; rw [h1, h2]; exact h
theorem iJ_congr {D D' : xDt} {W : Wd} {t : T} (h1 : D'.1 0 13 = D.1 0 13) (h2 : D'.2 0 = D.2 0) (h : iJ D W t) : iJ D' W t := by
  unfold iJ; rw [h1, h2]; exact h
def Iv (dA : T → Nat → Int32) (D : xDt) : Prop := ∃ (W : Wd) (L : List Wd) (t : T) (E : Ev) (sg tx : List Nat), iW D W ∧ iK D L ∧ iT D t ∧ iE D E ∧ iS D sg ∧ iX D tx ∧ iJ D W t ∧ iD dA D t
/-- both answer alike, and what holds between the calls holds again -/
def Two (dA : T → Nat → Int32) (D : xDt) (f g : xDt → Option (Int32 × xDt)) : Prop := ∃ (r : Int32) (D1 D2 : xDt), f D = some (r, D1) ∧ g D1 = some (r, D2) ∧ Iv dA D2
/-- the worlds are edited -/
theorem Iv_edit {dA : T → Nat → Int32} {D D2 : xDt} (h : Iv dA D) (hc : ch [0, 1, 4, 241, 242, 243] [2, 3] D D2) (h0 : ∀ j, j ≠ 13 → D2.1 0 j = D.1 0 j) (h0' : D2.1 0 13 = 0) (h4 : D2.1 4 1 = D.1 4 1) (h4' : D2.1 4 2 = 0) (h5 : ∀ j, j ≠ 1 → j ≠ 7 → D2.1 241 j = D.1 241 j) (h5' : D2.1 241 7 = 0) {W' : Wd} (hW : iW D2 W') : Iv dA D2 := by
  obtain ⟨W, L, t, E, sg, tx, a1, a2, a3, a4, a5, a6, a7, a8⟩ := h
  obtain ⟨p, hp, hp2, _⟩ := a2.2
  have c1 : ∀ x, x ∉ [0, 1, 4, 241, 242, 243] → D2.1 x = D.1 x := hc.1
  refine ⟨W', [], t, E, sg, tx, hW, iK_nil hp (by rw [h4]; exact hp2) h4' h5', ?_, ?_, ?_, ?_, Or.inl h0', ?_⟩
  · exact iT_congr (by rw [c1 202 (by decide)]) (c1 203 (by decide)) (h5 14 (by omega) (by omega)) (fun x hx hx2 j _ => by rw [c1 x (by simp; omega)]) a3
  · exact iE_congr (by rw [c1 42 (by decide)]) (h5 25 (by omega) (by omega)) (fun x hx => c1 x (by simp; omega)) (fun x hx hx2 j _ _ => by rw [c1 x (by simp; omega)]) a4
  · exact iS_congr (by rw [c1 192 (by decide)]) (c1 193 (by decide)) (h5 16 (by omega) (by omega)) (c1 252 (by decide)) a5
  · exact iX_congr (by rw [c1 204 (by decide)]) (c1 205 (by decide)) (h5 21 (by omega) (by omega)) (c1 253 (by decide)) a6
  · exact iD_congr (h0 14 (by omega)) (c1 223 (by decide)) a8
theorem E_has1 {F P : Nat} {D : xDt} {a n j : Nat} (h : D.1 a 0 = nI n) (hn : n ≤ 64) (hj : j < n) : f_X10_has F P xS0 a (nI j) D = some (1, D) := by
  rw [E_has h hn, if_neg (nI_pos (by omega)), if_neg (by rw [nI_leI (by omega) (by omega)]; omega)]
theorem E_has0 {F P : Nat} {D : xDt} {a n : Nat} {x : Int32} (h : D.1 a 0 = nI n) (hn : n ≤ 64) (hx : x < 0 ∨ ∃ j, n ≤ j ∧ j < 2 ^ 31 ∧ x = nI j) : f_X10_has F P xS0 a x D = some (0, D) := by
  rw [E_has h hn]
  rcases hx with h1 | ⟨j, h1, h2, rfl⟩
  · rw [if_pos h1]
  · rw [if_neg (nI_pos h2), if_pos (by rw [nI_leI (by omega) h2]; exact h1)]
theorem oW1 : oW 1 2 3 := ⟨by decide +kernel, by decide +kernel, by decide +kernel, by decide +kernel⟩
theorem E_edited {F P : Nat} (D : xDt) : f_X11_worldsEdited F P xS0 0 D = some (xup (xup D.1 4 2 0) 0 13 0, D.2) := by
  rw [e_X11_worldsEdited]
  rfl
theorem Iv_same {dA : T → Nat → Int32} {D : xDt} {f g : xDt → Option (Int32 × xDt)} {r : Int32} (h : Iv dA D) (h1 : f D = some (r, D)) (h2 : g D = some (r, D)) : Two dA D f g := ⟨r, D, D, h1, h2, h⟩
/-! world -/
theorem M_world {dA : T → Nat → Int32} {F P : Nat} (hF : 10000 < F) {D : xDt} (h : Iv dA D) (x : Int32) : Two dA D (f_X11_world F P xS0 0 x) (f_X12_world F P xS0 241 x) := by
  obtain ⟨W, L, t, E, sg, tx, ⟨hW, hC, hM⟩, _⟩ := id h
  have hn := hW.1
  rcases i_in 256 x with ⟨b, hb, _, rfl⟩ | hx
  · by_cases hc : W.1 < 64
    · have hC' := hC.1
      have e1 : f_X11_world F P xS0 0 (nI b) D = (f_X10_add F P xS0 1 (nI b) (xup (xup D.1 4 2 0) 0 13 0, D.2)) := by
        rw [e_X11_world, if_neg (nI_pos (by omega)), if_neg (by rw [k256, nI_leI (by omega) (by omega)]; omega), if_pos (by rw [hC', k64, nI_ltI (by omega) (by omega)]; exact hc), E_edited]
        simp only [Option.bind_some]
        cases f_X10_add F P xS0 1 (nI b) (xup (xup D.1 4 2 0) 0 13 0, D.2) <;> rfl
      have hn1 : ((xup (xup D.1 4 2 0) 0 13 0, D.2) : xDt).1 1 0 = nI W.1 := by
        dsimp only
        rw [xup_na _ _ _ _ _ (by omega), xup_na _ _ _ _ _ (by omega)]; exact hC'
      obtain ⟨⟨r, D1⟩, e2, q1, q2, q3, q4, q5⟩ := E_add (F := F) (P := P) (by omega) oW1 (by omega) hn1 hc hb
      dsimp only at q1 q2 q3 q4 q5
      subst q1
      have hm1 : D1.1 241 1 = nI W.1 := by
        rw [q3.1 241 (by decide)]
        dsimp only
        rw [xup_na _ _ _ _ _ (by omega), xup_na _ _ _ _ _ (by omega)]; exact hM.1
      obtain ⟨⟨r2, D2⟩, e3, p1, p2, p3, p4, p5⟩ := E_mworld (F := F) (P := P) (by omega) hm1 hc hb
      dsimp only at p1 p2 p3 p4 p5
      subst p1
      have cI : ∀ x, x ∉ [0, 1, 4, 241, 242, 243] → D2.1 x = D.1 x := by
        intro x hx
        simp only [List.mem_cons, List.not_mem_nil, or_false, not_or] at hx
        rw [p2.1 x (by simp; omega), q3.1 x (by simp; omega)]
        dsimp only
        rw [xup_ne _ _ _ _ (by omega), xup_ne _ _ _ _ (by omega)]
      have b0 : ∀ j, D2.1 0 j = xup (xup D.1 4 2 0) 0 13 0 0 j := by
        intro j
        rw [p2.1 0 (by simp), q3.1 0 (by simp)]
      have b4 : ∀ j, D2.1 4 j = xup (xup D.1 4 2 0) 0 13 0 4 j := by
        intro j
        rw [p2.1 4 (by simp), q3.1 4 (by simp)]
      have b241 : ∀ j, D1.1 241 j = D.1 241 j := by
        intro j
        rw [q3.1 241 (by decide)]
        dsimp only
        rw [xup_na _ _ _ _ _ (by omega), xup_na _ _ _ _ _ (by omega)]
      have b242 : ∀ x, 242 ≤ x → D1.1 x = D.1 x := by
        intro x hx
        rw [q3.1 x (by simp; omega)]
        dsimp only
        rw [xup_ne _ _ _ _ (by omega), xup_ne _ _ _ _ (by omega)]
      refine ⟨_, D1, D2, by rw [e1]; exact e2, e3, Iv_edit h ⟨cI, fun x hx => ?_⟩ ?_ ?_ ?_ ?_ ?_ ?_ (W' := wAdd W b) ⟨wAdd_ok hW hc hb, ?_, ?_⟩⟩
      · rw [p2.2 x (by simp), q3.2 x hx]
      · intro j hj
        rw [b0, xup_nk _ _ _ _ _ hj, xup_na _ _ _ _ _ (by omega)]
      · rw [b0, xup_at]
      · rw [b4, xup_na _ _ _ _ _ (by omega), xup_nk _ _ _ _ _ (by omega)]
      · rw [b4, xup_na _ _ _ _ _ (by omega), xup_at]
      · intro j h1 h7
        rw [p3, if_neg h7, if_neg h1, b241]
      · rw [p3, if_pos rfl]
      · refine wC_congr (D := D1) (by rw [p2.1 1 (by simp)]) (p2.2 2 (by simp)) (p2.2 3 (by simp)) ?_
        refine wAdd_C hW hc (D := (xup (xup D.1 4 2 0) 0 13 0, D.2)) ⟨hn1, hC.2⟩ ?_ q4 q5
        rw [q2, xup_at]
      · refine wAdd_M hc hM ?_ ?_ ?_
        · rw [p3, if_neg (by omega), if_pos rfl]
        · intro j
          rw [p4 j, b242 242 (by omega)]
        · intro g hg w hw
          rw [p5 g hg w hw, b242 243 (by omega)]
    · refine Iv_same (r := -1) h ?_ ?_
      · rw [e_X11_world, if_neg (nI_pos (by omega)), if_neg (by rw [k256, nI_leI (by omega) (by omega)]; omega), if_neg (by rw [hC.1, k64, nI_ltI (by omega) (by omega)]; exact hc)]
      · rw [e_X12_world, show f_X12_in F P xS0 (nI b) 0 255 D = some (1, D) from E_in1 (lo := 0) (hi := 255) (by omega) (by omega) (by omega)]
        simp only [Option.bind_some]
        rw [if_neg (by decide), if_pos (by rw [hM.1, k64, nI_eq (by omega) (by omega)]; omega)]
  · refine Iv_same (r := -1) h ?_ ?_
    · rw [e_X11_world]
      rcases hx with h1 | ⟨j, h1, h2, rfl⟩
      · rw [if_pos h1]
      · rw [if_neg (nI_pos h2), if_pos (by rw [k256, nI_leI (by omega) h2]; exact h1)]
    · rw [e_X12_world, show f_X12_in F P xS0 x 0 255 D = some (0, D) from E_in0 (lo := 0) (hi := 255) (by
        rcases hx with h1 | ⟨j, h1, h2, rfl⟩
        · exact Or.inl h1
        · exact Or.inr ((nI_ltI (by omega) h2).mpr (by omega)))]
      rfl
