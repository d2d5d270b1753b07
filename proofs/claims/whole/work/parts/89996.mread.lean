/-! formula: the reference reads by that grammar -/
def mr (sg : List Nat) (D : xDt) (n z : Nat) : Prop := D.1 241 18 = -2 ∧ D.1 241 19 = nI n ∧ D.1 241 13 = nI z ∧ 12800 ≤ z ∧ z ≤ 12800 + n ∧ n ≤ 150 ∧ D.1 241 16 = nI sg.length ∧ tkAt (D.1 252) 0 sg
def mse (sg : List Nat) (D : xDt) (p n z : Nat) : Prop := D.1 241 17 = nI p ∧ p ≤ sg.length ∧ sA sg p ≠ 32 ∧ mr sg D n z
def mst (sg : List Nat) (D : xDt) (p n z : Nat) : Prop := (∃ x, x ≤ sg.length ∧ sk sg x = p ∧ D.1 241 17 = nI x) ∧ mr sg D n z
theorem mst_p {sg : List Nat} {D : xDt} {p n z : Nat} (h : mst sg D p n z) : p ≤ sg.length ∧ sA sg p ≠ 32 := by
  obtain ⟨⟨x, h1, rfl, _⟩, _⟩ := h
  exact (sk_p h1).2
theorem mse_st {sg : List Nat} {D : xDt} {p n z : Nat} (h : mse sg D p n z) : mst sg D p n z := ⟨⟨p, h.2.1, sk_n h.2.2.1, h.1⟩, h.2.2.2⟩
def mfr (D D' : xDt) (z : Nat) : Prop := ch [241, 247, 248, 249, 250, 251] [] D D' ∧ (∀ j, j ≠ 13 → j ≠ 17 → j ≠ 18 → j ≠ 19 → D'.1 241 j = D.1 241 j) ∧ ∀ x, x ≠ 241 → ∀ j, j < z → D'.1 x j = D.1 x j
theorem mfr_rfl (D : xDt) (z : Nat) : mfr D D z := ⟨ch_rfl _ _ _, fun _ _ _ _ _ => rfl, fun _ _ _ _ => rfl⟩
theorem mfr_trans {D D' D'' : xDt} {z z' : Nat} (hz : z ≤ z') (h : mfr D D' z) (h' : mfr D' D'' z') : mfr D D'' z := ⟨ch_trans h.1 h'.1, fun j a b c d => (h'.2.1 j a b c d).trans (h.2.1 j a b c d), fun x hx j hj => (h'.2.2 x hx j (by omega)).trans (h.2.2 x hx j hj)⟩
theorem mfr_i {D D' : xDt} {z j : Nat} {v : Int32} (hj : j = 13 ∨ j = 17 ∨ j = 18 ∨ j = 19) (h : mfr D D' z) : mfr D (xup D'.1 241 j v, D'.2) z := ⟨ch_i (by simp) h.1, fun i a b c d => by dsimp only; rw [xup_nk _ _ _ _ _ (by omega)]; exact h.2.1 i a b c d, fun x hx i hi => by dsimp only; rw [xup_na _ _ _ _ _ hx]; exact h.2.2 x hx i hi⟩
theorem nd_mfr {D D' : xDt} {z lo : Nat} {t : T} {i : Nat} (h : mfr D D' z) (hi : i < z) (hd : nd D.1 lo t i) : nd D'.1 lo t i := nd_congr (fun x hx hx2 j _ hj => h.2.2 x (by omega) j (by omega)) hd
theorem mr_i {sg : List Nat} {D : xDt} {n z : Nat} {v : Int32} (h : mr sg D n z) : mr sg (xup D.1 241 17 v, D.2) n z := by
  unfold mr
  dsimp only
  rw [xup_nk _ _ _ _ _ (by omega), xup_nk _ _ _ _ _ (by omega), xup_nk _ _ _ _ _ (by omega), xup_nk _ _ _ _ _ (by omega), xup_ne _ _ _ _ (by omega)]
  exact h
/-- what a piece of the reference does -/
def mP (sg : List Nat) (D : xDt) (n z : Nat) (o : Option (Int32 × xDt)) (r : R) : Prop := RS r (fun q => oK o (fun u => u.2.1 241 18 = nI q ∧ mfr D u.2 z)) (fun t p' n' => oK o (fun u => mfr D u.2 z ∧ ∃ z' i, mst sg u.2 p' n' z' ∧ z' + n = z + n' ∧ z ≤ z' ∧ u.1 = nI i ∧ i < z' ∧ nd u.2.1 12800 t i))
theorem mP_e {sg : List Nat} {D : xDt} {n z q : Nat} {v : Int32} {D' : xDt} {o : Option (Int32 × xDt)} (h : o = some (v, D')) (h1 : D'.1 241 18 = nI q) (h2 : mfr D D' z) : mP sg D n z o (.error q) := ⟨_, h, h1, h2⟩
theorem mP_k {sg : List Nat} {D : xDt} {n z z' p' n' i : Nat} {t : T} {D' : xDt} {o : Option (Int32 × xDt)} (h : o = some (nI i, D')) (h2 : mfr D D' z) (h1 : mst sg D' p' n' z') (h3 : z' + n = z + n') (h4 : z ≤ z') (h5 : i < z') (h6 : nd D'.1 12800 t i) : mP sg D n z o (.ok (t, p', n')) := ⟨_, h, h2, z', i, h1, h3, h4, rfl, h5, h6⟩
def lk (c : Nat) : Int32 := if c = 0 then -2 else nI c
theorem lkp {c k : Nat} (h : c = k) (hk : 0 < k) : lk c = nI k := by rw [lk, if_neg (by omega), h]
theorem lkn {c k : Nat} (hc : c < 2 ^ 31) (hk : k < 2 ^ 31) (h : c ≠ k) : lk c ≠ nI k := by
  unfold lk
  by_cases e : c = 0
  · rw [if_pos e]
    intro h2
    have h3 : (0 : Int32) ≤ nI k := nI_pos' hk
    rw [← h2] at h3
    exact absurd h3 (by decide)
  · rw [if_neg e]
    exact fun h2 => h ((nI_eq hc hk).mp h2)
theorem sA_127 {sg : List Nat} (hs : ∀ x, x ∈ sg → 32 ≤ x ∧ x ≤ 126) (p : Nat) : sA sg p ≤ 126 ∧ (sA sg p = 0 ↔ sg.length ≤ p) := by
  by_cases h : p < sg.length
  · have := sA_in hs h
    omega
  · rw [sA_end (by omega)]; omega
theorem tkAt_0 {f : Nat → Int32} {sg : List Nat} (h : tkAt f 0 sg) {p : Nat} (hp : p < sg.length) : f p = nI (sA sg p) := by
  have := h p hp
  rw [Nat.zero_add] at this
  exact this
theorem E_mlook_f {sg : List Nat} (hN : sg.length ≤ 200) (hs : ∀ x, x ∈ sg → 32 ≤ x ∧ x ≤ 126) {F P n z p : Nat} : ∀ (m x fu : Nat) (D : xDt), sg.length - x ≤ m → m < fu → x ≤ sg.length → sk sg x = p → D.1 241 17 = nI x → mr sg D n z → oK (f_X12_look_0 F P xS0 fu 241 D) (fun u => u.1 = lk (sA sg p) ∧ mse sg u.2 p n z ∧ mfr D u.2 z)
  | m, x, 0, _, _, h, _, _, _, _ => absurd h (by omega)
  | m, x, fu + 1, D, hm, hfu, hx, hk, h17, hr => by
    obtain ⟨r1, r2, r3, r4, r5, r6, r7, r8⟩ := id hr
    have end_ : ∀ (c : sA sg x ≠ 32), oK (f_X12_look_38 F P xS0 241 D) (fun u => u.1 = lk (sA sg p) ∧ mse sg u.2 p n z ∧ mfr D u.2 z) := by
      intro c
      rw [sk_n c] at hk
      subst hk
      have e : f_X12_look_38 F P xS0 241 D = if (D.1 241 16) ≤ (D.1 241 17) then (some ((-2), D)) else (xgrd (xin (D.1 241 17) 200) (some (D.1 252 (D.1 241 17).toNatClampNeg, D))) := e_X12_look_38 F P D
      rw [e, r7, h17]
      by_cases c2 : sg.length ≤ x
      · rw [if_pos ((nI_leI (by omega) (by omega)).mpr c2), sA_end c2]
        exact oK_some ⟨rfl, ⟨h17, hx, c, hr⟩, mfr_rfl _ _⟩
      · rw [if_neg (fun q => c2 ((nI_leI (by omega) (by omega)).mp q)), xgrd_in (by omega) (by omega), nI_clamp (by omega), tkAt_0 r8 (by omega)]
        refine oK_some ⟨?_, ⟨h17, hx, c, hr⟩, mfr_rfl _ _⟩
        have := sA_in hs (show x < sg.length by omega)
        exact (lkp rfl (by omega)).symm
    rw [e_X12_look_0, r7, h17]
    by_cases c2 : sg.length ≤ x
    · rw [if_pos ((nI_leI (by omega) (by omega)).mpr c2)]
      exact end_ (by rw [sA_end c2]; omega)
    · rw [if_neg (fun q => c2 ((nI_leI (by omega) (by omega)).mp q)), xgrd_in (by omega) (by omega), nI_clamp (by omega), tkAt_0 r8 (by omega)]
      have := sA_in hs (show x < sg.length by omega)
      by_cases c : sA sg x = 32
      · rw [if_pos (show nI (sA sg x) = 32 by rw [c]; rfl)]
        simp only [xlet]
        rw [nI_1]
        obtain ⟨m', rfl⟩ : ∃ m', m = m' + 1 := ⟨m - 1, by omega⟩
        refine oK_mono (E_mlook_f hN hs m' (x + 1) fu _ (by omega) (by omega) (by omega) (by rw [← sk_s c]; exact hk) (by dsimp only; rw [xup_at]) (mr_i hr)) (fun u hu => ⟨hu.1, hu.2.1, mfr_trans (Nat.le_refl _) (mfr_i (Or.inr (Or.inl rfl)) (mfr_rfl _ _)) hu.2.2⟩)
      · rw [if_neg (show ¬ nI (sA sg x) = 32 from fun q => c ((nI_eq (b := 32) (by omega) (by omega)).mp q))]
        exact end_ c
theorem E_mlook {sg : List Nat} (hN : sg.length ≤ 200) (hs : ∀ x, x ∈ sg → 32 ≤ x ∧ x ≤ 126) {F P n z p : Nat} (hF : 10000 < F) {D : xDt} (h : mst sg D p n z) : ∃ D', f_X12_look F P xS0 241 D = some (lk (sA sg p), D') ∧ mse sg D' p n z ∧ mfr D D' z := by
  obtain ⟨⟨x, h1, h2, h3⟩, h4⟩ := h
  obtain ⟨⟨v, D'⟩, e, rfl, q1, q2⟩ := E_mlook_f (F := F) (P := P) hN hs sg.length x F D (by omega) (by omega) h1 h2 h3 h4
  exact ⟨D', by rw [e_X12_look]; exact e, q1, q2⟩
theorem E_bad {F P : Nat} {D : xDt} (h : D.1 241 18 = -2) : f_X12_bad F P xS0 241 D = some (0, (xup D.1 241 18 (D.1 241 17), D.2)) := by
  rw [e_X12_bad, h, if_neg (by decide)]
  rfl
theorem E_counts {sg : List Nat} {F P n z p : Nat} {D : xDt} (h : mse sg D p n z) (hn : n < 150) : ∃ D', f_X12_counts F P xS0 241 D = some D' ∧ mse sg D' p (n + 1) z ∧ mfr D D' z := by
  obtain ⟨h1, h2, h3, r1, r2, r3, r4, r5, r6, r7, r8⟩ := h
  refine ⟨(xup D.1 241 19 (nI (n + 1)), D.2), ?_, ⟨?_, h2, h3, ?_, ?_, ?_, r4, by omega, by omega, ?_, ?_⟩, mfr_i (Or.inr (Or.inr (Or.inr rfl))) (mfr_rfl _ _)⟩
  · rw [e_X12_counts, r1, if_neg (by decide), r2, if_neg (show ¬ nI n = 150 from fun q => absurd ((nI_eq (b := 150) (by omega) (by omega)).mp q) (by omega)), e_X12_counts_22, r2, nI_1]
    rfl
  · dsimp only; rw [xup_nk _ _ _ _ _ (by omega)]; exact h1
  · dsimp only; rw [xup_nk _ _ _ _ _ (by omega)]; exact r1
  · dsimp only; rw [xup_at]
  · dsimp only; rw [xup_nk _ _ _ _ _ (by omega)]; exact r3
  · dsimp only; rw [xup_nk _ _ _ _ _ (by omega)]; exact r7
  · dsimp only; rw [xup_ne _ _ _ _ (by omega)]; exact r8
theorem E_counts_b {sg : List Nat} {F P z p : Nat} {D : xDt} (h : mse sg D p 150 z) : ∃ D', f_X12_counts F P xS0 241 D = some D' ∧ D'.1 241 18 = nI p ∧ mfr D D' z := by
  obtain ⟨h1, h2, h3, r1, r2, r3, r4, r5, r6, r7, r8⟩ := h
  refine ⟨(xup (xup D.1 241 18 (nI p)) 241 19 (nI 151), D.2), ?_, ?_, mfr_i (D' := (xup D.1 241 18 (nI p), D.2)) (Or.inr (Or.inr (Or.inr rfl))) (mfr_i (Or.inr (Or.inr (Or.inl rfl))) (mfr_rfl _ _))⟩
  · rw [e_X12_counts, r1, if_neg (by decide), r2, if_pos (show nI 150 = 150 from rfl), E_bad r1, Option.bind_some, e_X12_counts_22]
    simp only [xlet]
    rw [xup_nk _ _ _ _ _ (by omega), r2, nI_1, h1]
  · dsimp only; rw [xup_nk _ _ _ _ _ (by omega), xup_at]
theorem E_must {sg : List Nat} (hN : sg.length ≤ 200) (hs : ∀ x, x ∈ sg → 32 ≤ x ∧ x ≤ 126) {F P n z p c : Nat} (hF : 10000 < F) {D : xDt} (h : mst sg D p n z) (hc : sA sg p = c) (hc0 : 0 < c) : ∃ D', f_X12_must F P xS0 241 (nI c) D = some D' ∧ mst sg D' (sk sg (p + 1)) n z ∧ mfr D D' z ∧ D'.1 241 17 = nI (p + 1) := by
  obtain ⟨D1, e1, q1, q2⟩ := E_mlook (F := F) (P := P) hN hs hF h
  obtain ⟨h1, h2, h3, r⟩ := id q1
  have := sA_lt (sg := sg) (p := p) (by omega)
  refine ⟨(xup D1.1 241 17 (nI (p + 1)), D1.2), ?_, ⟨⟨p + 1, by omega, rfl, by dsimp only; rw [xup_at]⟩, mr_i r⟩, mfr_i (Or.inr (Or.inl rfl)) q2, by dsimp only; rw [xup_at]⟩
  rw [e_X12_must, h.2.1, if_neg (by decide), e1, Option.bind_some, if_pos (lkp hc hc0), e_X12_must_20]
  dsimp only
  rw [r.1, if_neg (by decide), h1, nI_1]
  rfl
theorem E_must_b {sg : List Nat} (hN : sg.length ≤ 200) (hs : ∀ x, x ∈ sg → 32 ≤ x ∧ x ≤ 126) {F P n z p c : Nat} (hF : 10000 < F) {D : xDt} (h : mst sg D p n z) (hc : sA sg p ≠ c) (hc0 : c < 2 ^ 31) : ∃ D', f_X12_must F P xS0 241 (nI c) D = some D' ∧ D'.1 241 18 = nI p ∧ mfr D D' z := by
  obtain ⟨D1, e1, q1, q2⟩ := E_mlook (F := F) (P := P) hN hs hF h
  obtain ⟨h1, h2, h3, r⟩ := id q1
  have := sA_127 hs p
  refine ⟨(xup (xup D1.1 241 18 (nI p)) 241 17 (nI p + 0), D1.2), ?_, ?_, mfr_i (D' := (xup D1.1 241 18 (nI p), D1.2)) (Or.inr (Or.inl rfl)) (mfr_i (Or.inr (Or.inr (Or.inl rfl))) q2)⟩
  · rw [e_X12_must, h.2.1, if_neg (by decide), e1, Option.bind_some, if_neg (lkn (by omega) hc0 hc), E_bad r.1, Option.bind_some, e_X12_must_20]
    dsimp only
    rw [if_pos (by rw [xup_at, h1]; exact nI_pos' (by omega))]
    simp only [xlet]
    rw [xup_nk _ _ _ _ _ (by omega), h1]
  · dsimp only; rw [xup_nk _ _ _ _ _ (by omega), xup_at]
theorem E_must_f {F P q : Nat} {D : xDt} {c : Int32} (h : D.1 241 18 = nI q) (hq : q < 2 ^ 31) : ∃ D', f_X12_must F P xS0 241 c D = some D' ∧ D'.1 241 18 = nI q ∧ ∀ z, mfr D D' z := by
  refine ⟨(xup D.1 241 17 (D.1 241 17 + 0), D.2), ?_, ?_, fun z => mfr_i (Or.inr (Or.inl rfl)) (mfr_rfl _ _)⟩
  · rw [e_X12_must, h, if_pos (nI_pos' hq), e_X12_must_20, h, if_pos (nI_pos' hq)]
    rfl
  · dsimp only; rw [xup_nk _ _ _ _ _ (by omega)]; exact h
/-- a part: none, or a tree below z -/
def pt (D : xDt) (z : Nat) (t : T) (x : Int32) : Prop := (t = nil ∧ x = -2) ∨ ∃ i, i < z ∧ x = nI i ∧ nd D.1 12800 t i
theorem E_mk {sg : List Nat} {F P n z s m : Nat} {D : xDt} {tl tr : T} {l r : Int32} (h : mr sg D n z) (hz : z < 12800 + n) (hl : pt D z tl l) (hr : pt D z tr r) (hsz : sz tl + sz tr < 1000) : ∃ D', f_X12_node F P xS0 241 (nI s) l r (nI m) D = some (nI z, D') ∧ nd D'.1 12800 (bn s m tl tr) z ∧ (∀ z', z' ≤ z → mfr D D' z') ∧ mr sg D' n (z + 1) ∧ D'.1 241 17 = D.1 241 17 := by
  obtain ⟨r1, r2, r3, r4, r5, r6, r7, r8⟩ := h
  have kk : ∀ {t x}, pt D z t x → kd D.1 x (sz t) := fun {t x} q => by
    rcases q with ⟨rfl, rfl⟩ | ⟨i, _, rfl, q⟩
    · exact Or.inl ⟨rfl, rfl⟩
    · exact Or.inr ⟨i, (nd_ge q).2, rfl, nd_sz q⟩
  have c := cpd_node (D := D) (top := z) (s := nI s) (l := l) (r := r) (m := nI m) (n := nI (1 + sz tl + sz tr))
  obtain ⟨t1, t2, t3, t4, t5⟩ := ndD_t (D := D) (top := z) (s := nI s) (l := l) (r := r) (m := nI m) (n := nI (1 + sz tl + sz tr))
  refine ⟨_, E_node (by omega) r3 (kk hl) (kk hr) (by omega), ⟨r4, by omega, t1, t4, t5, ?_, ?_⟩, fun z' hz' => ⟨c.1, fun j a _ _ _ => c.2.1 j a, fun x hx j hj => c.2.2.2 x hx j (by omega)⟩, ⟨by rw [c.2.1 18 (by omega)]; exact r1, by rw [c.2.1 19 (by omega)]; exact r2, c.2.2.1, by omega, by omega, r6, by rw [c.2.1 16 (by omega)]; exact r7, by rw [c.1.1 252 (by decide)]; exact r8⟩, c.2.1 17 (by omega)⟩
  · rcases hl with ⟨rfl, rfl⟩ | ⟨i, hi, rfl, q⟩
    · exact Or.inl ⟨rfl, t2⟩
    · exact Or.inr ⟨i, hi, t2, nd_cpd c hi q⟩
  · rcases hr with ⟨rfl, rfl⟩ | ⟨i, hi, rfl, q⟩
    · exact Or.inl ⟨rfl, t3⟩
    · exact Or.inr ⟨i, hi, t3, nd_cpd c hi q⟩
/-- a join behind what was read -/
theorem MJ {sg l : List Nat} (hN : sg.length ≤ 200) (hs : ∀ x, x ∈ sg → 32 ≤ x ∧ x ≤ 126) {F P : Nat} (hF : 10000 < F) {c s : Nat} (hc : 0 < c) {nx : xDt → Option (Int32 × xDt)} {A B : Int32 → xDt → Option (Int32 × xDt)} {gn : Nat → Nat → R} {ct : T → Nat → Nat → R} {D : xDt} {p n z i : Nat} {t : T} (h : mse sg D p n z) (e : sA sg p = c) (hi : i < z) (ht : nd D.1 12800 t i) (hsz : sz t ≤ n) (hq : PS sg l gn)
    (hA : ∀ s0 D, A s0 D = if 0 ≤ (D.1 241 18) then B 0 D else ((f_X12_node F P xS0 241 (nI s) (nI i) s0 (nI 0) D).bind fun q1 => B q1.1 q1.2))
    (hn : ∀ D' z', mst sg D' (sk sg (p + 1)) (n + 1) z' → mP sg D' (n + 1) z' (nx D') (gn (sk sg (p + 1)) (n + 1)))
    (hB0 : ∀ D' q, D'.1 241 18 = nI q → q ≤ 200 → oK (B 0 D') (fun u => u.2.1 241 18 = nI q ∧ ∀ z', mfr D' u.2 z'))
    (hB : ∀ D' g p' n' z' i', PK sg l (p + 1) (n + 1) 0 g p' n' → mst sg D' p' n' z' → i' < z' → nd D'.1 12800 (bn s 0 t g) i' → mP sg D' n' z' (B (nI i') D') (ct (bn s 0 t g) p' n')) :
    mP sg D n z ((f_X12_counts F P xS0 241 D).bind fun q2 => (f_X12_must F P xS0 241 (nI c) q2).bind fun q3 => if 0 ≤ (q3.1 241 18) then A 0 q3 else ((nx q3).bind fun q4 => A q4.1 q4.2)) (pJ sg c s gn ct t p n) := by
  unfold pJ
  rw [if_pos e]
  have hpl := sA_lt (sg := sg) (p := p) (by omega)
  have hn150 := h.2.2.2.2.2.2.2.2.1
  by_cases c2 : 150 ≤ n
  · rw [if_pos c2]
    obtain rfl : n = 150 := by omega
    obtain ⟨D1, e1, q1, q2⟩ := E_counts_b (F := F) (P := P) h
    obtain ⟨D2, e2, q3, q4⟩ := E_must_f (F := F) (P := P) (c := nI c) q1 (by omega)
    obtain ⟨u, e3, q5, q6⟩ := hB0 D2 p q3 (by omega)
    refine mP_e (v := u.1) (D' := u.2) ?_ q5 (mfr_trans (Nat.le_refl _) q2 (mfr_trans (Nat.le_refl _) (q4 z) (q6 z)))
    rw [e1, Option.bind_some, e2, Option.bind_some, if_pos (by rw [q3]; exact nI_pos' (by omega)), hA, if_pos (by rw [q3]; exact nI_pos' (by omega)), e3]
  · rw [if_neg c2]
    obtain ⟨D1, e1, q1, q2⟩ := E_counts (F := F) (P := P) h (by omega)
    obtain ⟨D2, e2, q3, q4, _⟩ := E_must (F := F) (P := P) hN hs hF (mse_st q1) e hc
    have g1 := hn D2 z q3
    have g2 := hq (sk sg (p + 1)) (n + 1) (mst_p q3).1 (by omega)
    rw [e1, Option.bind_some, e2, Option.bind_some, if_neg (by rw [q3.2.1]; decide)]
    have f2 := mfr_trans (Nat.le_refl _) q2 q4
    have hskp := (sk_p (sg := sg) (p := p + 1) (by omega)).1
    rcases hg : gn (sk sg (p + 1)) (n + 1) with q | ⟨g, p', n'⟩
    · rw [hg] at g1 g2
      obtain ⟨u, e3, q5, q6⟩ := g1
      have hq2 : q ≤ sg.length := g2
      obtain ⟨u2, e4, q7, q8⟩ := hB0 u.2 q q5 (by omega)
      refine mP_e (v := u2.1) (D' := u2.2) ?_ q7 (mfr_trans (Nat.le_refl _) f2 (mfr_trans (Nat.le_refl _) q6 (q8 z)))
      rw [e3, Option.bind_some, hA, if_pos (by rw [q5]; exact nI_pos' (by omega)), e4]
    · rw [hg] at g1 g2
      obtain ⟨u, e3, q5, z', i', k1, k2, k3, k4, k5, k6⟩ := g1
      obtain ⟨b1, b2, b3, b4, b5, b6, b7⟩ := id g2
      dsimp only at b1 b2 b3 b4 b5 b6 b7 k1 k2 k6
      obtain ⟨D4, e4, q7, q8, q9, q10⟩ := E_mk (F := F) (P := P) (s := s) (m := 0) (tl := t) (tr := g) k1.2 (by have := h.2.2.2.2.2.2.2.1; omega) (Or.inr ⟨i, by omega, rfl, nd_mfr (mfr_trans (Nat.le_refl _) f2 q5) hi ht⟩) (Or.inr ⟨i', k5, rfl, k6⟩) (by omega)
      rw [e3, Option.bind_some, hA, if_neg (by rw [k1.2.1]; decide), k4, e4, Option.bind_some]
      have k1' : mst sg D4 p' n' (z' + 1) := ⟨by obtain ⟨x, x1, x2, x3⟩ := k1.1; exact ⟨x, x1, x2, by rw [q10]; exact x3⟩, q9⟩
      have fin := hB D4 g p' n' (z' + 1) z' ⟨by omega, b2, b3, b4, b5, b6, b7⟩ k1' (by omega) q7
      have f4 : mfr D D4 z := mfr_trans (Nat.le_refl _) f2 (mfr_trans (Nat.le_refl _) q5 (q8 z k3))
      show mP sg D n z (B (nI z') D4) (ct (bn s 0 t g) p' n')
      rcases hr : ct (bn s 0 t g) p' n' with q | ⟨t', p'', n''⟩
      · rw [hr] at fin
        obtain ⟨u5, e5, v1, v2⟩ := fin
        exact ⟨u5, e5, v1, mfr_trans (by omega) f4 v2⟩
      · rw [hr] at fin
        obtain ⟨u5, e5, v1, z5, i5, v2, v3, v4, v5, v6, v7⟩ := fin
        dsimp only at v2 v3 v7
        exact ⟨u5, e5, mfr_trans (by omega) f4 v1, z5, i5, v2, by dsimp only; omega, by omega, v5, v6, v7⟩
