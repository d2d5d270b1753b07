/-! decide: the class makes terms -/
abbrev frT : List Nat := [224, 225, 226, 227, 228, 229, 230]
def cst (D : xDt) (N B : List T) : Prop := cN D N B ∧ cT D N
def grt (A : List T) : Prop := ∃ L : List T, L.Nodup ∧ L.length = 14 ∧ ∀ y, y ∈ L → y ∈ A ∧ isB (tsr y) = true
def gO (D0 : xDt) (o : Option (Int32 × xDt)) : Prop := ∃ v D' N' B', o = some (v, D') ∧ cst D' N' B' ∧ D'.1 224 9 = 1 ∧ ch frT [] D0 D'
def cR (A : List T) (D0 : xDt) (o : Option (Int32 × xDt)) (Q : Int32 → xDt → List T → List T → Prop) : Prop := (∃ v D' N' B', o = some (v, D') ∧ cst D' N' B' ∧ D'.1 224 9 = 0 ∧ ch frT [] D0 D' ∧ Q v D' N' B') ∨ (grt A ∧ gO D0 o)
theorem gO_b {D0 : xDt} {o : Option (Int32 × xDt)} {f : Int32 × xDt → Option (Int32 × xDt)} (h : gO D0 o) (h2 : ∀ v D' N' B', cst D' N' B' → D'.1 224 9 = 1 → gO D' (f (v, D'))) : gO D0 (o.bind f) := by
  obtain ⟨v, D', N', B', rfl, a1, a2, a3⟩ := h
  obtain ⟨w, D2, N2, B2, e, b1, b2, b3⟩ := h2 v D' N' B' a1 a2
  exact ⟨w, D2, N2, B2, e, b1, b2, ch_trans a3 b3⟩
theorem cR_b {A : List T} {D0 : xDt} {o : Option (Int32 × xDt)} {Q Q' : Int32 → xDt → List T → List T → Prop} {f : Int32 × xDt → Option (Int32 × xDt)} (h : cR A D0 o Q) (h1 : ∀ v D' N' B', cst D' N' B' → D'.1 224 9 = 0 → ch frT [] D0 D' → Q v D' N' B' → cR A D' (f (v, D')) Q') (h2 : ∀ v D' N' B', cst D' N' B' → D'.1 224 9 = 1 → gO D' (f (v, D'))) : cR A D0 (o.bind f) Q' := by
  rcases h with ⟨v, D', N', B', rfl, a1, a2, a3, a4⟩ | ⟨g, h⟩
  · rcases h1 v D' N' B' a1 a2 a3 a4 with ⟨w, D2, N2, B2, e, b1, b2, b3, b4⟩ | ⟨g, w, D2, N2, B2, e, b1, b2, b3⟩
    · exact Or.inl ⟨w, D2, N2, B2, e, b1, b2, ch_trans a3 b3, b4⟩
    · exact Or.inr ⟨g, w, D2, N2, B2, e, b1, b2, ch_trans a3 b3⟩
  · exact Or.inr ⟨g, gO_b h h2⟩
theorem cR_some {A : List T} {D : xDt} {v : Int32} {N B : List T} {Q : Int32 → xDt → List T → List T → Prop} (h1 : cst D N B) (h2 : D.1 224 9 = 0) (h3 : Q v D N B) : cR A D (some (v, D)) Q := Or.inl ⟨v, D, N, B, rfl, h1, h2, ch_rfl _ _ _, h3⟩
theorem gO_some {D : xDt} {v : Int32} {N B : List T} (h1 : cst D N B) (h2 : D.1 224 9 = 1) : gO D (some (v, D)) := ⟨v, D, N, B, rfl, h1, h2, ch_rfl _ _ _⟩
theorem cst_9 {D : xDt} {N B : List T} {v : Int32} (h : cst D N B) : cst (xup D.1 224 9 v, D.2) N B := by
  have q : ∀ x, x ≠ 224 → ((xup D.1 224 9 v, D.2) : xDt).1 x = D.1 x := fun x hx => by dsimp only; rw [xup_ne _ _ _ _ hx]
  have q2 : ∀ j, j ≠ 9 → ((xup D.1 224 9 v, D.2) : xDt).1 224 j = D.1 224 j := fun j hj => by dsimp only; rw [xup_nk _ _ _ _ _ hj]
  obtain ⟨⟨a1, a2, a3, a4, a5, a6, a7, a8⟩, b1, b2, b3⟩ := h
  refine ⟨⟨a1, a2, by rw [q2 7 (by omega)]; exact a3, ?_, a5, a6, by rw [q2 8 (by omega)]; exact a7, ?_⟩, ?_, ?_, ?_⟩
  · rw [q 225 (by omega), q 226 (by omega), q 227 (by omega), q 228 (by omega)]; exact a4
  · rw [q 229 (by omega)]; exact a8
  · rw [q 230 (by omega)]; exact b1
  · rw [q 230 (by omega)]; exact b2
  · rw [q 225 (by omega), q 226 (by omega), q 227 (by omega), q 230 (by omega)]; exact b3
theorem E_makeG {F P : Nat} (hF : 100000 < F) {D : xDt} {N B : List T} {v1 v2 v3 : Int32} (h : cst D N B) (h9 : D.1 224 9 = 1) : gO D (f_X8_make F P xS0 224 v1 v2 v3 D) := by
  obtain ⟨p, hp, hp2⟩ := and4095 ((((v1 * 31) + v2) * 1009) + (v3 * 17))
  rw [e_X8_make, hp2]
  simp only [xlet]
  have := E_mk24 (F := F) (P := P) (v1 := v1) (v2 := v2) (v3 := v3) h.1 h.2 hp 4096 0 F (by omega) (by omega) (fun c hc => absurd hc (by omega)) (fun c i hc => absurd hc (by omega))
  rw [Nat.add_zero, Nat.mod_eq_of_lt hp] at this
  rcases this with ⟨i, _, _, e⟩ | ⟨c2, _, _, _, _, e⟩
  · rw [show f_X8_make_24 F P xS0 F 224 v1 v2 v3 (nI p) 0 D = _ from e]
    exact gO_some h h9
  · rw [show f_X8_make_24 F P xS0 F 224 v1 v2 v3 (nI p) 0 D = _ from e, e_X8_make_105]
    unfold f_X11_signOf
    rw [Option.bind_some, E_isBase', Option.bind_some, if_neg (show ¬ D.1 224 9 = 0 by rw [h9]; decide)]
    exact ⟨0, _, N, B, rfl, cst_9 h, by dsimp only; rw [xup_at], ch_i (by simp) (ch_rfl _ _ _)⟩
theorem cn_up1 {p q : Nat → Bool} {x : Nat} (hq : ∀ j, j ≠ x → q j = p j) (hx : p x = false) (hx2 : q x = true) : ∀ k, cn q k = cn p k + (if x < k then 1 else 0)
  | 0 => by simp [cn]
  | k + 1 => by
    rw [cn, cn, cn_up1 hq hx hx2 k]
    by_cases c : k = x
    · subst c
      rw [hx, hx2, if_neg (by omega), if_pos (by omega)]; rfl
    · rw [hq k c]
      by_cases c2 : x < k
      · rw [if_pos c2, if_pos (by omega)]; omega
      · rw [if_neg c2, if_neg (by omega)]; omega
/-- a term more -/
theorem cst_add {D D' : xDt} {N B : List T} {s m p h c : Nat} {l r : T} {v2 v3 : Int32} (hst : cst D N B) (hx : bn s m l r ∉ N) (hw : tmw (bn s m l r)) (hl : ckc N N.length l v2) (hr : ckc N N.length r v3) (hn : N.length < 2400) (hb : isB s = true → B.length < 13) (hh : h < 4096) (hh2 : hsh (nI (tk s m)) v2 v3 = nI h) (hc : c < 4096) (hp : p = (h + c) % 4096) (h0 : D.1 230 p = 0) (hcc : ∀ c', c' < c → D.1 230 ((h + c') % 4096) ≠ 0) (e7 : D'.1 224 7 = nI (N.length + 1)) (e8 : D'.1 224 8 = nI (if isB s = true then B.length + 1 else B.length)) (e225 : ∀ j, D'.1 225 j = if j = N.length then nI (tk s m) else D.1 225 j) (e226 : ∀ j, D'.1 226 j = if j = N.length then v2 else D.1 226 j) (e227 : ∀ j, D'.1 227 j = if j = N.length then v3 else D.1 227 j) (e228 : ∀ j, D'.1 228 j = if j = N.length then (if isB s = true then nI B.length else -1) else D.1 228 j) (e229 : ∀ j, D'.1 229 j = if isB s = true ∧ j = B.length then nI N.length else D.1 229 j) (e230 : ∀ j, D'.1 230 j = if j = p then nI (N.length + 1) else D.1 230 j) : cst D' (N ++ [bn s m l r]) (if isB s = true then B ++ [bn s m l r] else B) := by
  obtain ⟨⟨a1, a2, a3, a4, a5, a6, a7, a8⟩, b1, b2, b3⟩ := hst
  have he : ext N (N ++ [bn s m l r]) := fun i x hi => by rw [List.getElem?_append_left (lt_of_at hi)]; exact hi
  have hp4 : p < 4096 := by rw [hp]; exact Nat.mod_lt _ (by omega)
  have hxB : bn s m l r ∉ B := fun q => by
    obtain ⟨k, hk⟩ := List.mem_iff_getElem?.mp q
    obtain ⟨_, i, hi, _⟩ := a8 k _ hk
    exact hx (List.mem_of_getElem? hi)
  have eB : ext B (if isB s = true then B ++ [bn s m l r] else B) := by
    intro k x hk
    split
    · rw [List.getElem?_append_left (lt_of_at hk)]; exact hk
    · exact hk
  have lB : (if isB s = true then B ++ [bn s m l r] else B).length = if isB s = true then B.length + 1 else B.length := by
    split
    · rw [List.length_append]; rfl
    · rfl
  refine ⟨⟨?_, by rw [List.length_append]; exact hn, by rw [List.length_append]; exact e7, fun i x hi => ?_, ?_, ?_, by rw [lB]; exact e8, fun k x hk => ?_⟩, ?_, fun q hq => ?_, fun i hi => ?_⟩
  · rw [List.nodup_append]
    refine ⟨a1, by simp, fun a ha b hb => ?_⟩
    rw [List.mem_singleton] at hb
    subst hb
    exact fun c => hx (by rw [← c]; exact ha)
  · by_cases ci : i < N.length
    · rw [List.getElem?_append_left ci] at hi
      obtain ⟨c1, c2, c3, c4, c5⟩ := a4 i x hi
      rw [e225, e226, e227, e228, if_neg (by omega), if_neg (by omega), if_neg (by omega), if_neg (by omega)]
      exact ⟨c1, c2, ckc_ext he (Nat.le_refl _) c3, ckc_ext he (Nat.le_refl _) c4, c5.imp (fun q => q) (fun ⟨k, k1, k2⟩ => ⟨k, eB k x k1, k2⟩)⟩
    · have hi2 := lt_of_at hi
      rw [List.length_append, List.length_singleton] at hi2
      have : i = N.length := by omega
      subst this
      rw [List.getElem?_append_right (Nat.le_refl _), Nat.sub_self] at hi
      simp only [List.getElem?_cons_zero, Option.some.injEq] at hi
      subst hi
      rw [e225, e226, e227, e228, if_pos rfl, if_pos rfl, if_pos rfl, if_pos rfl]
      refine ⟨hw, rfl, ckc_ext he (Nat.le_refl _) hl, ckc_ext he (Nat.le_refl _) hr, ?_⟩
      show (isB s = false ∧ _) ∨ _
      cases hbs : isB s
      · exact Or.inl ⟨rfl, rfl⟩
      · refine Or.inr ⟨B.length, ?_, rfl⟩
        rw [if_pos rfl, List.getElem?_append_right (Nat.le_refl _), Nat.sub_self]; rfl
  · split
    · rw [List.nodup_append]
      refine ⟨a5, by simp, fun a ha b hb => ?_⟩
      rw [List.mem_singleton] at hb
      subst hb
      exact fun c => hxB (by rw [← c]; exact ha)
    · exact a5
  · rw [lB]
    split
    · have := hb ‹_›; omega
    · exact a6
  · by_cases ck : k < B.length
    · have hk' : B[k]? = some x := by
        obtain ⟨y, hy⟩ : ∃ y, B[k]? = some y := ⟨B[k], List.getElem?_eq_getElem ck⟩
        have := eB k y hy
        rw [this] at hk; injection hk with hk; rw [← hk]; exact hy
      obtain ⟨c1, i, c2, c3⟩ := a8 k x hk'
      refine ⟨c1, i, he i x c2, ?_⟩
      rw [e229, if_neg (by omega)]; exact c3
    · have hk2 := lt_of_at hk
      rw [lB] at hk2
      by_cases hbs : isB s = true
      · rw [if_pos hbs] at hk hk2
        have : k = B.length := by omega
        subst this
        rw [List.getElem?_append_right (Nat.le_refl _), Nat.sub_self] at hk
        simp only [List.getElem?_cons_zero, Option.some.injEq] at hk
        subst hk
        exact ⟨hbs, N.length, by rw [List.getElem?_append_right (Nat.le_refl _), Nat.sub_self]; rfl, by rw [e229, if_pos ⟨hbs, rfl⟩]⟩
      · rw [if_neg hbs] at hk2; omega
  · rw [List.length_append, List.length_singleton, ← b1]
    rw [cn_up1 (p := fun q => decide (D.1 230 q ≠ 0)) (q := fun q => decide (D'.1 230 q ≠ 0)) (x := p) (fun j hj => by rw [e230, if_neg hj]) (by rw [h0]; rfl) (by rw [e230, if_pos rfl]; exact decide_eq_true (fun q => by rw [nI_eq0 (by omega)] at q; omega)) 4096, if_pos hp4]
  · rw [e230, List.length_append, List.length_singleton]
    by_cases c : q = p
    · rw [if_pos c]; exact Or.inr ⟨N.length, by omega, rfl⟩
    · rw [if_neg c]
      rcases b2 q hq with z | ⟨i, z1, z2⟩
      · exact Or.inl z
      · exact Or.inr ⟨i, by omega, z2⟩
  · rw [List.length_append, List.length_singleton] at hi
    have nz : ∀ q, D.1 230 q ≠ 0 → D'.1 230 q = D.1 230 q := fun q hq => by
      rw [e230, if_neg (fun e => hq (by rw [e]; exact h0))]
    by_cases ci : i < N.length
    · obtain ⟨h', c', z1, z2, z3, z4, z5⟩ := b3 i ci
      refine ⟨h', c', z1, ?_, z3, ?_, fun c'' hc'' => ?_⟩
      · rw [e225, e226, e227, if_neg (by omega), if_neg (by omega), if_neg (by omega)]; exact z2
      · rw [nz _ (by rw [z4]; exact fun q => by rw [nI_eq0 (by omega)] at q; omega)]; exact z4
      · rw [nz _ (z5 c'' hc'')]; exact z5 c'' hc''
    · have : i = N.length := by omega
      subst this
      refine ⟨h, c, hh, ?_, hc, ?_, fun c'' hc'' => ?_⟩
      · rw [e225, e226, e227, if_pos rfl, if_pos rfl, if_pos rfl]; exact hh2
      · rw [← hp, e230, if_pos rfl]
      · rw [nz _ (hcc c'' hc'')]; exact hcc c'' hc''
/-- what one term brings -/
def mQ (N B : List T) (x : T) (v : Int32) (N' B' : List T) : Prop := ∃ j, v = nI j ∧ N'[j]? = some x ∧ ext N N' ∧ (∀ y, y ∈ N' ↔ y ∈ N ∨ y = x) ∧ N'.length ≤ N.length + 1 ∧ B.length ≤ B'.length ∧ (x ∈ N → N' = N ∧ B' = B) ∧ (isB (tsr x) = true → x ∉ N → B'.length = B.length + 1)
theorem tmw_eq {x y : T} {N : List T} {i b : Nat} {t1 v1 v2 w2 v3 w3 : Int32} (hz : N.length ≤ 2400) (hn : N.Nodup) (hx : tmw x) (hy : tmw y) (x1 : t1 = nI (tk (tsr x) (mrk x))) (y1 : v1 = nI (tk (tsr y) (mrk y))) (x2 : ckc N i (lft x) w2) (y2 : ckc N b (lft y) v2) (x3 : ckc N i (rgt x) w3) (y3 : ckc N b (rgt y) v3) : (t1 = v1 ∧ w2 = v2 ∧ w3 = v3) ↔ x = y := by
  match x, y, hx, hy with
  | .inner s m () l r, .inner s' m' () l' r', hx, hy =>
    obtain ⟨p1, p2, p3, p4⟩ := hx
    obtain ⟨q1, q2, q3, q4⟩ := hy
    have hT := tk_eq p1 (by omega) p3 q1 (by omega) q3
    constructor
    · rintro ⟨a, b, c⟩
      rw [x1, y1] at a
      obtain ⟨rfl, rfl⟩ := hT.mp a
      have hl : l = nil ↔ l' = nil := by
        rcases p4 with ⟨z1, z2, _⟩ | ⟨z1, z1', z2, _⟩ | ⟨z1, z2, _⟩ <;> rcases q4 with ⟨u1, u2, _⟩ | ⟨u1, u1', u2, _⟩ | ⟨u1, u2, _⟩ <;> first | (exact absurd z1 (by omega)) | (constructor <;> intro h <;> first | exact u2 | exact z2 | exact absurd h z2 | exact absurd h u2)
      have hr : r = nil ↔ r' = nil := by
        rcases p4 with ⟨z1, _, z2⟩ | ⟨z1, z1', _, z2⟩ | ⟨z1, _, z2⟩ <;> rcases q4 with ⟨u1, _, u2⟩ | ⟨u1, u1', _, u2⟩ | ⟨u1, _, u2⟩ <;> first | (exact absurd z1 (by omega)) | (constructor <;> intro h <;> first | exact u2 | exact z2 | exact absurd h z2 | exact absurd h u2)
      have z1 : l = l' := (ckc_eq hz hn x2 y2 hl).mp b
      have z2 : r = r' := (ckc_eq hz hn x3 y3 hr).mp c
      rw [z1, z2]
    · intro e
      injection e with e1 e2 e3 e4 e5
      subst e1 e2 e4 e5
      exact ⟨by rw [x1, y1], (ckc_eq hz hn x2 y2 Iff.rfl).mpr rfl, (ckc_eq hz hn x3 y3 Iff.rfl).mpr rfl⟩
theorem E_make {F P : Nat} (hF : 100000 < F) {A : List T} {D : xDt} {N B : List T} {s m : Nat} {l r : T} {v2 v3 : Int32} (h : cst D N B) (h9 : D.1 224 9 = 0) (hn : N.length < 2400) (hw : tmw (bn s m l r)) (hl : ckc N N.length l v2) (hr : ckc N N.length r v3) (hxA : bn s m l r ∈ A) (hNA : ∀ y, y ∈ N → y ∈ A) : cR A D (f_X8_make F P xS0 224 (nI (tk s m)) v2 v3 D) (fun v _ N' B' => mQ N B (bn s m l r) v N' B') := by
  obtain ⟨hN, hT⟩ := id h
  obtain ⟨p, hp, hp2⟩ := and4095 ((((nI (tk s m) * 31) + v2) * 1009) + (v3 * 17))
  have hmt : ∀ i x, N[i]? = some x → ((D.1 225 i = nI (tk s m) ∧ D.1 226 i = v2 ∧ D.1 227 i = v3) ↔ x = bn s m l r) := by
    intro i x hi
    obtain ⟨c1, c2, c3, c4, c5⟩ := hN.2.2.2.1 i x hi
    exact tmw_eq hN.2.1 hN.1 c1 hw c2 (show nI (tk s m) = nI (tk (tsr (bn s m l r)) (mrk (bn s m l r))) from rfl) c3 hl c4 hr
  rw [e_X8_make, hp2]
  simp only [xlet]
  have loop := E_mk24 (F := F) (P := P) (v1 := nI (tk s m)) (v2 := v2) (v3 := v3) hN hT hp 4096 0 F (by omega) (by omega) (fun c hc => absurd hc (by omega)) (fun c i hc => absurd hc (by omega))
  rw [Nat.add_zero, Nat.mod_eq_of_lt hp] at loop
  rcases loop with ⟨i, hi, hm, e⟩ | ⟨c2, z1, z2, z3, z4, e⟩
  · rw [show f_X8_make_24 F P xS0 F 224 (nI (tk s m)) v2 v3 (nI p) 0 D = _ from e]
    have hNi : N[i]? = some N[i] := List.getElem?_eq_getElem hi
    have hx := (hmt i _ hNi).mp hm
    have hmem : bn s m l r ∈ N := by rw [← hx]; exact List.mem_of_getElem? hNi
    refine cR_some h h9 ⟨i, rfl, by rw [hNi, hx], fun _ _ q => q, fun y => ⟨Or.inl, fun q => q.elim (fun q => q) (fun q => by rw [q]; exact hmem)⟩, by omega, Nat.le_refl _, fun _ => ⟨rfl, rfl⟩, fun _ q => absurd hmem q⟩
  · have hxN : bn s m l r ∉ N := by
      intro hmem
      obtain ⟨i, hi⟩ := List.mem_iff_getElem?.mp hmem
      have hil := lt_of_at hi
      have hmi := (hmt i _ hi).mpr rfl
      obtain ⟨h', c', u1, u2, u3, u4, u5⟩ := hT.2.2 i hil
      have : h' = p := by
        rw [hmi.1, hmi.2.1, hmi.2.2] at u2
        have u2' : hsh (nI (tk s m)) v2 v3 = nI p := hp2
        rw [u2'] at u2
        exact ((nI_eq (by omega) (by omega)).mp u2).symm
      subst this
      have hne : ∀ c, c ≤ c' → D.1 230 ((h' + c) % 4096) ≠ 0 := by
        intro c hc
        by_cases ce : c = c'
        · subst ce; rw [u4]; exact fun q => by rw [nI_eq0 (by omega)] at q; omega
        · exact u5 c (by omega)
      have hlt : c' < c2 := by
        by_cases q : c' < c2
        · exact q
        · exact absurd z2 (hne c2 (by omega))
      exact z4 c' i hlt hil u4 hmi
    rw [show f_X8_make_24 F P xS0 F 224 (nI (tk s m)) v2 v3 (nI p) 0 D = _ from e, e_X8_make_105, E_signOf (by have := hw.2.1; omega) (m16 hw.2.2.1), Option.bind_some]
    dsimp only
    rw [E_isBase hw.1 (by have := hw.2.1; omega) hw.2.2.1, Option.bind_some]
    dsimp only
    rw [h9, if_pos rfl, hN.2.2.1, if_neg (show ¬ (2400 : Int32) ≤ nI N.length from fun q => by have := (nI_leI (a := 2400) (by omega) (by omega)).mp q; omega)]
    have hp4 : (p + c2) % 4096 < 4096 := Nat.mod_lt _ (by omega)
    have okk : (isB s = true → B.length < 13) → cR A D (f_X8_make_152 F P xS0 224 (nI (tk s m)) v2 v3 (nI ((p + c2) % 4096)) (bI (isB s)) D) (fun v _ N' B' => mQ N B (bn s m l r) v N' B') := by
      intro hb
      obtain ⟨D', e', q1, q2, q3, q4, q5, q6, q7, q8, q9, q10⟩ := E_152 (F := F) (P := P) (D := D) (v1 := nI (tk s m)) (v2 := v2) (v3 := v3) (p := (p + c2) % 4096) (n := N.length) (b := B.length) (w := isB s) hp4 hn (by
        cases hbs : isB s
        · exact Or.inr rfl
        · exact Or.inl (hb hbs)) hN.2.2.1 hN.2.2.2.2.2.2.1
      rw [e']
      have lB : (if isB s = true then B ++ [bn s m l r] else B).length = if isB s = true then B.length + 1 else B.length := by
        split
        · rw [List.length_append]; rfl
        · rfl
      refine Or.inl ⟨_, D', _, _, rfl, cst_add h hxN hw hl hr hn hb hp hp2 z1 rfl z2 z3 q1 q2 q4 q5 q6 q7 q8 q9, by rw [q3]; exact h9, q10, N.length, rfl, by rw [List.getElem?_append_right (Nat.le_refl _), Nat.sub_self]; rfl, fun i x hi => by rw [List.getElem?_append_left (lt_of_at hi)]; exact hi, fun y => by simp, by simp, by rw [lB]; split <;> omega, fun q => absurd q hxN, fun q _ => ?_⟩
      have q' : isB s = true := q
      rw [lB, if_pos q']
    cases hbs : isB s
    · rw [if_pos (show bI false = 0 from rfl)]
      rw [hbs] at okk
      exact okk (fun q => by cases q)
    · rw [if_neg (show ¬ bI true = 0 by decide), hN.2.2.2.2.2.2.1]
      rw [hbs] at okk
      by_cases c13 : B.length < 13
      · rw [if_pos (show nI B.length < 13 from (nI_ltI (b := 13) (by omega) (by omega)).mpr c13)]
        exact okk (fun _ => c13)
      · have hB13 : B.length = 13 := by have := hN.2.2.2.2.2.1; omega
        rw [if_neg (show ¬ nI B.length < 13 from fun q => c13 ((nI_ltI (b := 13) (by omega) (by omega)).mp q))]
        refine Or.inr ⟨⟨bn s m l r :: B, ?_, by rw [List.length_cons, hB13], ?_⟩, 0, _, N, B, rfl, cst_9 h, by dsimp only; rw [xup_at], ch_i (by simp) (ch_rfl _ _ _)⟩
        · rw [List.nodup_cons]
          refine ⟨fun q => ?_, hN.2.2.2.2.1⟩
          obtain ⟨k, hk⟩ := List.mem_iff_getElem?.mp q
          obtain ⟨_, i, hi, _⟩ := hN.2.2.2.2.2.2.2 k _ hk
          exact hxN (List.mem_of_getElem? hi)
        · intro y hy
          rw [List.mem_cons] at hy
          rcases hy with rfl | hy
          · exact ⟨hxA, hbs⟩
          · obtain ⟨k, hk⟩ := List.mem_iff_getElem?.mp hy
            obtain ⟨k1, i, hi, _⟩ := hN.2.2.2.2.2.2.2 k _ hk
            exact ⟨hNA y (List.mem_of_getElem? hi), k1⟩
