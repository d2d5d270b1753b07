/-! formula: pieces of the class's reader -/
theorem xup_xup {α : Type} (f : Nat → Nat → α) (a k : Nat) (v w : α) : xup (xup f a k v) a k w = xup f a k w := by
  funext x j
  by_cases h : x = a
  · by_cases h2 : j = k
    · rw [h, h2, xup_at, xup_at]
    · rw [xup_nk _ _ _ _ _ h2, xup_nk _ _ _ _ _ h2, xup_nk _ _ _ _ _ h2]
  · rw [xup_na _ _ _ _ _ h, xup_na _ _ _ _ _ h, xup_na _ _ _ _ _ h]
theorem xup_same {α : Type} (f : Nat → Nat → α) (a k : Nat) (v : α) (h : f a k = v) : xup f a k v = f := by
  funext x j
  by_cases h1 : x = a
  · by_cases h2 : j = k
    · rw [h1, h2, xup_at, h]
    · rw [xup_nk _ _ _ _ _ h2]
  · rw [xup_na _ _ _ _ _ h1]
/-- the signs, as the class has them -/
def cg (sg : List Nat) (D : xDt) : Prop := D.1 192 1 = nI sg.length ∧ tkAt (D.1 193) 0 sg
theorem E_cts_f {sg : List Nat} (hN : sg.length ≤ 200) (hs : ∀ x, x ∈ sg → 32 ≤ x ∧ x ≤ 126) {F P : Nat} : ∀ (m x fu : Nat) (D : xDt), sg.length - x ≤ m → m < fu → x ≤ sg.length → D.1 192 12 = nI x → cg sg D → f_X6_toSign_5 F P xS0 fu 192 D = some (xup D.1 192 12 (nI (sk sg x)), D.2)
  | m, x, 0, _, _, h, _, _, _ => absurd h (by omega)
  | m, x, fu + 1, D, hm, hfu, hx, h12, hg => by
    obtain ⟨g1, g2⟩ := id hg
    rw [e_X6_toSign_5, g1, h12]
    by_cases c2 : sg.length ≤ x
    · rw [if_pos ((nI_leI (by omega) (by omega)).mpr c2), sk_n (by rw [sA_end c2]; omega), xup_same _ _ _ _ h12]
    · rw [if_neg (fun q => c2 ((nI_leI (by omega) (by omega)).mp q)), xgrd_in (by omega) (by omega), nI_clamp (by omega), tkAt_0 g2 (by omega)]
      have := sA_in hs (show x < sg.length by omega)
      by_cases c : sA sg x = 32
      · rw [if_pos (show nI (sA sg x) = 32 by rw [c]; rfl)]
        simp only [xlet]
        rw [nI_1]
        obtain ⟨m', rfl⟩ : ∃ m', m = m' + 1 := ⟨m - 1, by omega⟩
        rw [E_cts_f hN hs m' (x + 1) fu _ (by omega) (by omega) (by omega) (by dsimp only; rw [xup_at]) ⟨by dsimp only; rw [xup_nk _ _ _ _ _ (by omega)]; exact g1, by dsimp only; rw [xup_ne _ _ _ _ (by omega)]; exact g2⟩, xup_xup, ← sk_s c]
      · rw [if_neg (show ¬ nI (sA sg x) = 32 from fun q => c ((nI_eq (b := 32) (by omega) (by omega)).mp q)), sk_n c, xup_same _ _ _ _ h12]
theorem E_cts {sg : List Nat} (hN : sg.length ≤ 200) (hs : ∀ x, x ∈ sg → 32 ≤ x ∧ x ≤ 126) {F P x : Nat} (hF : 10000 < F) {D : xDt} (hx : x ≤ sg.length) (hg : cg sg D) : f_X6_toSign F P xS0 192 (nI x) D = some (xup D.1 192 12 (nI (sk sg x)), D.2) := by
  rw [e_X6_toSign]
  simp only [xlet]
  rw [E_cts_f hN hs sg.length x F _ (by omega) (by omega) hx (by dsimp only; rw [xup_at]) ⟨by dsimp only; rw [xup_nk _ _ _ _ _ (by omega)]; exact hg.1, by dsimp only; rw [xup_ne _ _ _ _ (by omega)]; exact hg.2⟩, xup_xup]
/-- what a reading may change, and what it must not -/
def cfr (d : Nat) (ex : List Nat) (D D' : xDt) : Prop := ch [192, 194, 195, 196, 197, 198, 199, 200, 201] [] D D' ∧ ∀ x, 196 ≤ x → x ≤ 201 → ∀ j, (j < d ∨ (j = d ∧ x ∉ ex)) → D'.1 x j = D.1 x j
theorem cfr_rfl (d : Nat) (ex : List Nat) (D : xDt) : cfr d ex D D := ⟨ch_rfl _ _ _, fun _ _ _ _ _ => rfl⟩
theorem cfr_trans {d : Nat} {ex : List Nat} {D D' D'' : xDt} (h : cfr d ex D D') (h' : cfr d ex D' D'') : cfr d ex D D'' := ⟨ch_trans h.1 h'.1, fun x a b j c => (h'.2 x a b j c).trans (h.2 x a b j c)⟩
theorem cfr_mono {d : Nat} {ex ex' : List Nat} {D D' : xDt} (h : cfr d ex D D') (hs : ∀ x, x ∈ ex → x ∈ ex') : cfr d ex' D D' := ⟨h.1, fun x a b j c => h.2 x a b j (c.imp (fun q => q) (fun q => ⟨q.1, fun r => q.2 (hs x r)⟩))⟩
theorem cfr_up {d : Nat} {ex ex' : List Nat} {D D' : xDt} (h : cfr (d + 1) ex D D') : cfr d ex' D D' := ⟨h.1, fun x a b j c => h.2 x a b j (Or.inl (by omega))⟩
theorem cfr_192 {d : Nat} {ex : List Nat} {D D' : xDt} {k : Nat} {v : Int32} (h : cfr d ex D D') : cfr d ex D (xup D'.1 192 k v, D'.2) := ⟨ch_i (by simp) h.1, fun x a b j c => by dsimp only; rw [xup_na _ _ _ _ _ (by omega)]; exact h.2 x a b j c⟩
theorem cfr_dr {d : Nat} {ex : List Nat} {D D' D'' : xDt} (h : cfr d ex D D') (h2 : ch [194, 195] [] D' D'') : cfr d ex D D'' := ⟨ch_trans h.1 (ch_mono h2 (fun x hx => by simp at hx ⊢; omega) (fun _ h => h)), fun x a b j c => by rw [h2.1 x (by simp; omega)]; exact h.2 x a b j c⟩
/-- the class's state at a level, at a place, with a draft -/
def cb (sg : List Nat) (D : xDt) (d p : Nat) (L : List Nat) : Prop := cg sg D ∧ D.1 192 9 = nI d ∧ D.1 192 12 = nI p ∧ D.1 194 1 = nI L.length ∧ tkAt (D.1 195) 0 L ∧ L.length ≤ 150 ∧ p ≤ sg.length ∧ sA sg p ≠ 32 ∧ (D.1 196 d = nI 0 ∨ D.1 196 d = nI 41 ∨ D.1 196 d = nI 93 ∨ D.1 196 d = nI 125) ∧ (D.1 201 d = 0 ∨ D.1 201 d = 1) ∧ d ≤ 15
theorem l195 : xl xS0 195 = 150 ∧ xr xS0 194 0 = 195 ∧ xl xS0 198 = 16 ∧ xl xS0 199 = 16 ∧ xl xS0 201 = 16 := ⟨by decide +kernel, by decide +kernel, by decide +kernel, by decide +kernel, by decide +kernel⟩
theorem E_cadd {F P : Nat} {D : xDt} {L : List Nat} {c : Nat} (h1 : D.1 194 1 = nI L.length) (h2 : tkAt (D.1 195) 0 L) (hl : L.length < 150) : ∃ D', f_X2_add F P xS0 194 (nI c) D = some (1, D') ∧ D'.1 194 1 = nI (L ++ [c]).length ∧ tkAt (D'.1 195) 0 (L ++ [c]) ∧ ch [194, 195] [] D D' := by
  refine ⟨(xup (xup D.1 194 1 (nI (L.length + 1))) 195 L.length (nI c), D.2), ?_, ?_, ?_, ch_i (D' := (xup D.1 194 1 (nI (L.length + 1)), D.2)) (by simp) (ch_i (by simp) (ch_rfl _ _ _))⟩
  · unfold f_X2_add
    rw [l195.2.1, l195.1, h1, if_pos (show nI L.length < Int32.ofNat 150 from nI_lt (b := 150) hl (by omega))]
    simp only [xlet]
    rw [xgrd_in hl (by omega), nI_clamp (by omega), nI_1]
  · dsimp only
    rw [xup_na _ _ _ _ _ (by omega), xup_at, List.length_append]; rfl
  · dsimp only
    refine tkAt_app.mpr ⟨tkAt_congr (fun i hi => ?_) h2, tkAt_cons.mpr ⟨?_, fun i hi => absurd hi (by simp)⟩⟩
    · rw [xup_nk _ _ _ _ _ (by omega), xup_ne _ _ _ _ (by omega)]
    · rw [Nat.zero_add, xup_at]
theorem E_ins_f {F P : Nat} {a c : Nat} (ha : a < 150) : ∀ (m fu : Nat) (D : xDt), a + m < 150 → m < fu → ∃ D', f_X2_insert_31 F P xS0 fu 194 (nI a) (nI c) (nI (a + m)) D = some (1, D') ∧ D'.1 194 1 = D.1 194 1 + 1 ∧ (∀ j, D'.1 195 j = if j = a then nI c else if a < j ∧ j ≤ a + m then D.1 195 (j - 1) else D.1 195 j) ∧ ch [194, 195] [] D D'
  | m, 0, _, _, h => absurd h (by omega)
  | 0, fu + 1, D, h1, h2 => by
    refine ⟨(xup (xup D.1 195 a (nI c)) 194 1 (D.1 194 1 + 1), D.2), ?_, ?_, fun j => ?_, ch_i (D' := (xup D.1 195 a (nI c), D.2)) (by simp) (ch_i (by simp) (ch_rfl _ _ _))⟩
    · show f_X2_insert_31s F P xS0 (f_X2_insert_31 F P xS0 fu) 194 (nI a) (nI c) (nI (a + 0)) D = _
      unfold f_X2_insert_31s
      rw [l195.2.1, l195.1, if_pos (show nI (a + 0) ≤ nI a from Int32.le_refl _), xgrd_in ha (by omega), nI_clamp (by omega)]
      simp only [xlet]
      rw [xup_na _ _ _ _ _ (by omega)]
    · dsimp only; rw [xup_at]
    · dsimp only
      rw [xup_na _ _ _ _ _ (by omega)]
      by_cases e : j = a
      · rw [e, xup_at, if_pos rfl]
      · rw [xup_nk _ _ _ _ _ e, if_neg e, if_neg (by omega)]
  | m + 1, fu + 1, D, h1, h2 => by
    have e0 : f_X2_insert_31 F P xS0 (fu + 1) 194 (nI a) (nI c) (nI (a + (m + 1))) D = f_X2_insert_31 F P xS0 fu 194 (nI a) (nI c) (nI (a + m)) (xup D.1 195 (a + (m + 1)) (D.1 195 (a + m)), D.2) := by
      show f_X2_insert_31s F P xS0 (f_X2_insert_31 F P xS0 fu) 194 (nI a) (nI c) (nI (a + (m + 1))) D = _
      unfold f_X2_insert_31s
      rw [l195.2.1, l195.1, if_neg (fun q => absurd ((nI_leI (by omega) (by omega)).mp q) (by omega)), nI_s1 (by omega), show a + (m + 1) - 1 = a + m by omega, xgrd_in (by omega) (by omega), xgrd_in (by omega) (by omega), nI_clamp (by omega), nI_clamp (by omega)]
      simp only [xlet]
      rw [show nI (a + (m + 1)) + -1 = nI (a + m) by rw [show (nI (a + (m + 1)) : Int32) + -1 = nI (a + (m + 1)) - 1 from (Int32.sub_eq_add_neg _ _).symm, nI_s1 (by omega)]; rfl]
    obtain ⟨D', e1, r1, r2, r3⟩ := E_ins_f (F := F) (P := P) (c := c) ha m fu (xup D.1 195 (a + (m + 1)) (D.1 195 (a + m)), D.2) (by omega) (by omega)
    refine ⟨D', by rw [e0]; exact e1, ?_, fun j => ?_, ch_trans (ch_i (by simp) (ch_rfl _ _ _)) r3⟩
    · rw [r1]; dsimp only; rw [xup_na _ _ _ _ _ (by omega)]
    · rw [r2]
      dsimp only
      by_cases e : j = a
      · rw [if_pos e, if_pos e]
      rw [if_neg e, if_neg e]
      by_cases e2 : a < j ∧ j ≤ a + m
      · rw [if_pos e2, if_pos (by omega), xup_nk _ _ _ _ _ (by omega)]
      rw [if_neg e2]
      by_cases e3 : j = a + (m + 1)
      · rw [if_pos (by omega), e3, xup_at]; rfl
      · rw [if_neg (by omega), xup_nk _ _ _ _ _ e3]
theorem E_ins {F P : Nat} (hF : 10000 < F) {D : xDt} {A B : List Nat} {c : Nat} (h1 : D.1 194 1 = nI (A ++ B).length) (h2 : tkAt (D.1 195) 0 (A ++ B)) (hl : (A ++ B).length < 150) : ∃ D', f_X2_insert F P xS0 194 (nI A.length) (nI c) D = some (1, D') ∧ D'.1 194 1 = nI (A ++ c :: B).length ∧ tkAt (D'.1 195) 0 (A ++ c :: B) ∧ ch [194, 195] [] D D' := by
  have hl2 : A.length + B.length < 150 := by rw [List.length_append] at hl; exact hl
  obtain ⟨D', e1, r1, r2, r3⟩ := E_ins_f (F := F) (P := P) (a := A.length) (c := c) (by omega) B.length F D hl2 (by omega)
  refine ⟨D', ?_, ?_, ?_, r3⟩
  · unfold f_X2_insert
    rw [l195.2.1, l195.1, h1, if_neg (nI_pos (by omega)), if_neg (fun q => absurd q (Int32.not_lt.mpr ((nI_leI (by omega) (by omega)).mpr (by rw [List.length_append]; omega)))), if_pos (show nI (A ++ B).length < Int32.ofNat 150 from nI_lt (b := 150) hl (by omega))]
    simp only [xlet]
    rw [List.length_append]
    exact e1
  · rw [r1, h1, nI_1]; simp; rfl
  · obtain ⟨a1, a2⟩ := tkAt_app.mp h2
    refine tkAt_app.mpr ⟨tkAt_congr (fun i hi => ?_) a1, tkAt_cons.mpr ⟨?_, fun i hi => ?_⟩⟩
    · rw [r2, if_neg (by omega), if_neg (by omega)]
    · rw [r2, if_pos (by omega)]
    · rw [r2, if_neg (by omega), if_pos (by omega), show 0 + A.length + 1 + i - 1 = 0 + A.length + i by omega]
      exact a2 i hi
theorem E_ins0 {F P : Nat} {D : xDt} {n a : Nat} {c : Int32} (h1 : D.1 194 1 = nI n) (hn : 150 ≤ n) (hn2 : n < 1000) (ha : a ≤ n) : f_X2_insert F P xS0 194 (nI a) c D = some (0, D) := by
  unfold f_X2_insert
  rw [l195.2.1, l195.1, h1, if_neg (nI_pos (by omega)), if_neg (fun q => absurd q (Int32.not_lt.mpr ((nI_leI (by omega) (by omega)).mpr ha))), if_neg (show ¬ nI n < Int32.ofNat 150 from fun q => absurd q (Int32.not_lt.mpr ((nI_leI (a := 150) (by omega) (by omega)).mpr hn)))]
/-- the loop, at a step -/
def tA (F P s : Nat) (D : xDt) : Option (Int32 × xDt) := f_X6_takeAll_2 F P xS0 (F - s) 192 (nI s) D
theorem tA_w {sg : List Nat} (hN : sg.length ≤ 200) {F P : Nat} (hF : 10000 < F) {D D' : xDt} {d p s : Nat} {L : List Nat} {v : Int32} (h : cb sg D d p L) (hw : D.1 192 11 = 1) (hp : p < sg.length) (hs : s ≤ p) (e : f_X6_takeOne F P xS0 192 (nI (sA sg p)) D = some (v, D')) : tA F P s D = if v = 0 then some (0, D') else tA F P (s + 1) D' := by
  obtain ⟨⟨g1, g2⟩, h9, h12, _⟩ := h
  unfold tA
  rw [show F - s = (F - (s + 1)) + 1 by omega, e_X6_takeAll_2, if_neg (show ¬ 200 ≤ nI s from fun q => absurd ((nI_leI (a := 200) (by omega) (by omega)).mp q) (by omega)), g1, h12, if_neg (fun q => absurd ((nI_leI (by omega) (by omega)).mp q) (by omega)), xgrd_in (by omega) (by omega), nI_clamp (by omega), tkAt_0 g2 hp]
  simp only [xlet]
  rw [hw, if_neg (by decide), e, Option.bind_some, e_X6_takeAll_50]
  simp only [xlet]
  rw [nI_1]
theorem tA_b {sg : List Nat} (hN : sg.length ≤ 200) {F P : Nat} (hF : 10000 < F) {D D' : xDt} {d p s : Nat} {L : List Nat} {v : Int32} (h : cb sg D d p L) (hw : D.1 192 11 = 0) (hp : p < sg.length) (hs : s ≤ p) (e : f_X6_takeBehindOne F P xS0 192 (nI (sA sg p)) D = some (v, D')) : tA F P s D = if v = 0 then some (0, D') else tA F P (s + 1) D' := by
  obtain ⟨⟨g1, g2⟩, h9, h12, _⟩ := h
  unfold tA
  rw [show F - s = (F - (s + 1)) + 1 by omega, e_X6_takeAll_2, if_neg (show ¬ 200 ≤ nI s from fun q => absurd ((nI_leI (a := 200) (by omega) (by omega)).mp q) (by omega)), g1, h12, if_neg (fun q => absurd ((nI_leI (by omega) (by omega)).mp q) (by omega)), xgrd_in (by omega) (by omega), nI_clamp (by omega), tkAt_0 g2 hp]
  simp only [xlet]
  rw [hw, if_pos rfl, e, Option.bind_some, e_X6_takeAll_50]
  simp only [xlet]
  rw [nI_1]
theorem tA_e {sg : List Nat} (hN : sg.length ≤ 200) {F P : Nat} (hF : 10000 < F) {D : xDt} {d s : Nat} {L : List Nat} (h : cb sg D d sg.length L) (hs : s ≤ sg.length) : tA F P s D = if d = 0 ∧ D.1 192 11 = 0 then some (1, D) else some (0, D) := by
  obtain ⟨⟨g1, g2⟩, h9, h12, _, _, _, _, _, _, _, hd⟩ := h
  have e63 : f_X6_takeAll_63 F P xS0 192 D = if d = 0 ∧ D.1 192 11 = 0 then some (1, D) else some (0, D) := by
    rw [e_X6_takeAll_63, g1, h12, if_neg (fun q => absurd q (Int32.not_lt.mpr (Int32.le_refl _))), h9]
    by_cases c : d = 0
    · rw [if_pos (show nI d = 0 by rw [c]; rfl)]
      by_cases c2 : D.1 192 11 = 0
      · rw [if_pos c2, if_pos ⟨c, c2⟩]
      · rw [if_neg c2, if_neg (fun q => c2 q.2)]; rfl
    · rw [if_neg (show ¬ nI d = 0 from fun q => c ((nI_eq0 (by omega)).mp q)), if_neg (fun q => c q.1)]; rfl
  unfold tA
  rw [show F - s = (F - (s + 1)) + 1 by omega, e_X6_takeAll_2, e63, g1, h12, if_pos (Int32.le_refl _), ite_self]
theorem by_c1 : ∀ b, b < 128 → ji2c (nI b) = nI b := by decide +kernel
/-- into a bracket -/
theorem E_enter {F P : Nat} {D : xDt} {e c : Nat} (h9 : D.1 192 9 + 1 = nI e) (he : e ≤ 15) (hc : c < 128) : ∃ D', f_X6_enter F P xS0 192 (nI c) D = some D' ∧ D'.1 192 9 = nI e ∧ D'.1 192 10 = 0 ∧ D'.1 192 11 = 1 ∧ (∀ j, j ≠ 9 → j ≠ 10 → j ≠ 11 → D'.1 192 j = D.1 192 j) ∧ D'.1 196 e = nI c ∧ D'.1 200 e = D.1 192 10 ∧ D'.1 201 e = 0 ∧ D'.1 197 e = D.1 194 1 ∧ D'.1 198 e = D.1 194 1 ∧ D'.1 199 e = D.1 194 1 ∧ (∀ x, 196 ≤ x → x ≤ 201 → ∀ j, j ≠ e → D'.1 x j = D.1 x j) ∧ ch [192, 196, 197, 198, 199, 200, 201] [] D D' := by
  refine ⟨(xup (xup (xup (xup (xup (xup (xup (xup (xup D.1 192 9 (nI e)) 196 e (nI c)) 200 e (D.1 192 10)) 201 e 0) 197 e (D.1 194 1)) 198 e (D.1 194 1)) 199 e (D.1 194 1)) 192 10 0) 192 11 1, D.2), ?_, ?_, ?_, ?_, fun j a b c => ?_, ?_, ?_, ?_, ?_, ?_, ?_, fun x hx hx2 j hj => ?_, fun x hx => ?_, fun x _ => rfl⟩
  · have hji : ji2c (nI c) = nI c := by_c1 c hc
    rw [e_X6_enter, h9, hji]
    simp only [xlet]
    have e9 : ∀ (f : Nat → Nat → Int32), f 192 9 = nI e → xin (f 192 9) 16 = true ∧ (f 192 9).toNatClampNeg = e := fun f hf => by rw [hf]; exact ⟨xin_nI (by omega) (by omega), nI_clamp (by omega)⟩
    rw [xup_at, xin_nI (show e < 16 by omega) (by omega), nI_clamp (show e < 2 ^ 31 by omega), xgrd_t]
    simp only [xup_na _ _ _ _ _ (show 192 ≠ 196 by omega), xup_na _ _ _ _ _ (show 192 ≠ 197 by omega), xup_na _ _ _ _ _ (show 192 ≠ 198 by omega), xup_na _ _ _ _ _ (show 192 ≠ 199 by omega), xup_na _ _ _ _ _ (show 192 ≠ 200 by omega), xup_na _ _ _ _ _ (show 192 ≠ 201 by omega), xup_na _ _ _ _ _ (show 194 ≠ 196 by omega), xup_na _ _ _ _ _ (show 194 ≠ 197 by omega), xup_na _ _ _ _ _ (show 194 ≠ 198 by omega), xup_na _ _ _ _ _ (show 194 ≠ 199 by omega), xup_na _ _ _ _ _ (show 194 ≠ 200 by omega), xup_na _ _ _ _ _ (show 194 ≠ 201 by omega), xup_na _ _ _ _ _ (show 194 ≠ 192 by omega), xup_at, xup_nk _ _ _ _ _ (show 10 ≠ 9 by omega), xin_nI (show e < 16 by omega) (show 16 < 2 ^ 31 by omega), nI_clamp (show e < 2 ^ 31 by omega), xgrd_t, e_X6_wantFirstOne, xlet, Option.bind_some]
    rfl
  all_goals dsimp only
  · simp [xup]
  · simp [xup]
  · simp [xup]
  · simp [xup, a, b, c]
  · simp [xup]
  · simp [xup]
  · simp [xup]
  · simp [xup]
  · simp [xup]
  · simp [xup]
  · rw [xup_na _ _ _ _ _ (by omega), xup_na _ _ _ _ _ (by omega), xup_nk _ _ _ _ _ hj, xup_nk _ _ _ _ _ hj, xup_nk _ _ _ _ _ hj, xup_nk _ _ _ _ _ hj, xup_nk _ _ _ _ _ hj, xup_nk _ _ _ _ _ hj, xup_na _ _ _ _ _ (by omega)]
  · simp only [List.mem_cons, List.not_mem_nil, or_false, not_or] at hx
    rw [xup_ne _ _ _ _ (by omega), xup_ne _ _ _ _ (by omega), xup_ne _ _ _ _ (by omega), xup_ne _ _ _ _ (by omega), xup_ne _ _ _ _ (by omega), xup_ne _ _ _ _ (by omega), xup_ne _ _ _ _ (by omega), xup_ne _ _ _ _ (by omega), xup_ne _ _ _ _ (by omega)]
