/-! where a formula holds, plainly -/
noncomputable def tb (p : Prop) : Bool := @decide p (Classical.propDecidable p)
theorem tb_iff {p : Prop} : tb p = true ↔ p := @decide_eq_true_iff p (Classical.propDecidable p)
theorem tb_f {p : Prop} : tb p = false ↔ ¬ p := by
  constructor
  · intro h c
    rw [tb_iff.mpr c] at h; cases h
  · intro h
    cases e : tb p
    · rfl
    · exact absurd (tb_iff.mp e) h
theorem b_iff {a b : Bool} (h : a = true ↔ b = true) : a = b := by
  cases a <;> cases b <;> simp_all
/-- from a to b, as one of the group sees it -/
def st (W : Wd) (m : Nat) (th : Int64) (a b : Nat) : Prop := ∃ g, g < 4 ∧ m.testBit g = true ∧ a < W.1 ∧ b < W.1 ∧ W.2.2 g b = W.2.2 g a ∧ bt th b = true
def rc (W : Wd) (m : Nat) (th : Int64) (w u : Nat) : Prop := ∀ p : Nat → Prop, p w → (∀ a b, p a → st W m th a b → p b) → p u
theorem rc_refl {W : Wd} {m : Nat} {th : Int64} (w : Nat) : rc W m th w w := fun _ h _ => h
theorem rc_step {W : Wd} {m : Nat} {th : Int64} {w a b : Nat} (h : rc W m th w a) (h2 : st W m th a b) : rc W m th w b := fun p h3 h4 => h4 a b (h p h3 h4) h2
theorem rc_trans {W : Wd} {m : Nat} {th : Int64} {w a b : Nat} (h : rc W m th w a) (h2 : rc W m th a b) : rc W m th w b := h2 (fun x => rc W m th w x) h (fun _ _ h3 h4 => rc_step h3 h4)
theorem rc_lt {W : Wd} {m : Nat} {th : Int64} {w u : Nat} (hw : w < W.1) (h : rc W m th w u) : u < W.1 := h (fun x => x < W.1) hw (fun _ _ _ ⟨_, _, _, _, h, _⟩ => h)
theorem rc_th {W : Wd} {m : Nat} {th : Int64} {w u : Nat} (hw : bt th w = true) (h : rc W m th w u) : bt th u = true := h (fun x => bt th x = true) hw (fun _ _ _ ⟨_, _, _, _, _, _, h⟩ => h)
theorem st_sym {W : Wd} {m : Nat} {th : Int64} {a b : Nat} (h : st W m th a b) (ha : bt th a = true) : st W m th b a := by
  obtain ⟨g, h1, h2, h3, h4, h5, h6⟩ := h
  exact ⟨g, h1, h2, h4, h3, h5.symm, ha⟩
theorem rc_sym {W : Wd} {m : Nat} {th : Int64} {w u : Nat} (hw : bt th w = true) (h : rc W m th w u) : rc W m th u w := by
  have := h (fun x => bt th x = true ∧ rc W m th x w) ⟨hw, rc_refl _⟩ (fun a b ⟨h1, h2⟩ h3 => by
    refine ⟨?_, ?_⟩
    · obtain ⟨_, _, _, _, _, _, h6⟩ := h3; exact h6
    · exact rc_trans (rc_step (rc_refl b) (st_sym h3 h1)) h2)
  exact this.2
def rch (W : Wd) (s m : Nat) (th : Int64) (w u : Nat) : Prop := if s = 8 then rc W m th w u else if s = 9 then ∀ g, g < 4 → m.testBit g = true → W.2.2 g u = W.2.2 g w else ∃ g, g < 4 ∧ m.testBit g = true ∧ W.2.2 g u = W.2.2 g w
noncomputable def kn (W : Wd) (s m : Nat) (x th : Int64) : Int64 := mkS (fun w => decide (w < W.1) && bt th w && tb (∀ u, u < W.1 → rch W s m th w u → bt th u = true → bt x u = true))
def oa (W : Wd) (k : Nat) : Int64 := mkS (fun w => decide (w < W.1) && (W.2.1 w).testBit k)
noncomputable def ev (W : Wd) : T → Int64 → Int64
  | .leaf, _ => 0
  | .inner s m _ l r, th =>
    if s = 1 then oa W m &&& th
    else if s = 2 then 0
    else if s = 3 then th
    else if s = 4 then th &&& (ev W l th ^^^ (-1))
    else if s = 6 then th &&& (kn W 5 m (th &&& (ev W l th ^^^ (-1))) th ^^^ (-1))
    else if s = 10 then th &&& ((ev W l th ^^^ ev W r th) ^^^ (-1))
    else if s = 11 then (th &&& (ev W l th ^^^ (-1))) ||| ev W r th
    else if s = 12 then ev W l th ||| ev W r th
    else if s = 13 then ev W l th &&& ev W r th
    else if s = 14 then (th &&& (ev W l th ^^^ (-1))) ||| ev W r (ev W l th)
    else if s = 15 then ev W r (ev W l th)
    else kn W s m (ev W l th) th
theorem bt_kn {W : Wd} (hn : W.1 ≤ 64) (s m : Nat) (x th : Int64) (w : Nat) : bt (kn W s m x th) w = true ↔ w < W.1 ∧ bt th w = true ∧ ∀ u, u < W.1 → rch W s m th w u → bt th u = true → bt x u = true := by
  unfold kn
  rw [bt_mkS, Bool.and_eq_true, Bool.and_eq_true, Bool.and_eq_true, tb_iff, decide_eq_true_iff, decide_eq_true_iff]
  constructor
  · rintro ⟨_, ⟨h1, h2⟩, h3⟩; exact ⟨h1, h2, h3⟩
  · rintro ⟨h1, h2, h3⟩; exact ⟨by omega, ⟨h1, h2⟩, h3⟩
/-- only worlds that are there -/
def sub (x y : Int64) : Prop := ∀ j, bt x j = true → bt y j = true
theorem ev_sub {W : Wd} (hn : W.1 ≤ 64) : ∀ (t : T) (th : Int64), sub (ev W t th) th
  | .leaf, th, j, h => by rw [ev, bt_0] at h; cases h
  | .inner s m _ l r, th, j, h => by
    have hl := ev_sub hn l
    have hr := ev_sub hn r
    rw [ev] at h
    by_cases h1 : s = 1
    · rw [if_pos h1, bt_and, Bool.and_eq_true] at h; exact h.2
    rw [if_neg h1] at h
    by_cases h2 : s = 2
    · rw [if_pos h2, bt_0] at h; cases h
    rw [if_neg h2] at h
    by_cases h3 : s = 3
    · rw [if_pos h3] at h; exact h
    rw [if_neg h3] at h
    by_cases h4 : s = 4
    · rw [if_pos h4, bt_and, Bool.and_eq_true] at h; exact h.1
    rw [if_neg h4] at h
    by_cases h6 : s = 6
    · rw [if_pos h6, bt_and, Bool.and_eq_true] at h; exact h.1
    rw [if_neg h6] at h
    by_cases h10 : s = 10
    · rw [if_pos h10, bt_and, Bool.and_eq_true] at h; exact h.1
    rw [if_neg h10] at h
    by_cases h11 : s = 11
    · rw [if_pos h11, bt_or, Bool.or_eq_true, bt_and, Bool.and_eq_true] at h
      rcases h with h | h
      · exact h.1
      · exact hr th j h
    rw [if_neg h11] at h
    by_cases h12 : s = 12
    · rw [if_pos h12, bt_or, Bool.or_eq_true] at h
      rcases h with h | h
      · exact hl th j h
      · exact hr th j h
    rw [if_neg h12] at h
    by_cases h13 : s = 13
    · rw [if_pos h13, bt_and, Bool.and_eq_true] at h
      exact hl th j h.1
    rw [if_neg h13] at h
    by_cases h14 : s = 14
    · rw [if_pos h14, bt_or, Bool.or_eq_true, bt_and, Bool.and_eq_true] at h
      rcases h with h | h
      · exact h.1
      · exact hl th j (hr _ j h)
    rw [if_neg h14] at h
    by_cases h15 : s = 15
    · rw [if_pos h15] at h
      exact hl th j (hr _ j h)
    rw [if_neg h15] at h
    exact ((bt_kn hn _ _ _ _ _).mp h).2.1
theorem z_iff (x : Int64) : x = 0 ↔ ∀ j, j < 64 → bt x j = false := by
  constructor
  · rintro rfl j _; exact bt_0 j
  · intro h; exact bt_ext (fun j hj => by rw [h j hj, bt_0])
/-! counting -/
theorem cn_mono {p q : Nat → Bool} : ∀ {k : Nat}, (∀ j, j < k → p j = true → q j = true) → cn p k ≤ cn q k
  | 0, _ => Nat.le_refl _
  | k + 1, h => by
    rw [cn, cn]
    have := cn_mono (k := k) (fun j hj => h j (by omega))
    have h2 := h k (by omega)
    cases hp : p k
    · simp; omega
    · rw [h2 hp]; simp; omega
theorem cn_strict {p q : Nat → Bool} : ∀ {k : Nat}, (∀ j, j < k → p j = true → q j = true) → (∃ j, j < k ∧ q j = true ∧ p j = false) → cn p k < cn q k
  | 0, _, ⟨j, h, _⟩ => absurd h (by omega)
  | k + 1, h, ⟨j, hj, h1, h2⟩ => by
    rw [cn, cn]
    have h3 := cn_mono (k := k) (fun j hj => h j (by omega))
    by_cases e : j = k
    · subst e
      rw [h1, h2]; simp; omega
    · have h4 := cn_strict (k := k) (fun j hj => h j (by omega)) ⟨j, by omega, h1, h2⟩
      have h5 := h k (by omega)
      cases hp : p k
      · simp; omega
      · rw [h5 hp]; simp; omega
theorem cn_grow {x y : Int64} (h : sub x y) (hne : ¬ x = y) : cn (bt x) 64 < cn (bt y) 64 := by
  apply cn_strict (fun j _ => h j)
  apply Classical.byContradiction
  intro hc
  apply hne
  apply bt_ext
  intro j hj
  cases h1 : bt x j
  · cases h2 : bt y j
    · rfl
    · exact absurd ⟨j, hj, h2, h1⟩ hc
  · rw [h j h1]
/-- by a measure -/
theorem lpm {σ : Type} (W : Nat → σ → Prop) (I : σ → Prop) (mu : σ → Nat) (hs : ∀ n s, I s → (∀ s', I s' → mu s' < mu s → W n s') → W (n + 1) s) : ∀ n s, I s → mu s < n → W n s
  | 0, _, _, h => absurd h (by omega)
  | n + 1, s, hi, h => hs n s hi (fun s' h1 h2 => lpm W I mu hs n s' h1 (by omega))
/-! the reference -/
theorem at_bit1 : ∀ x, x < 256 → ∀ k, k < 8 → ((jishr (nI x) (nI k) &&& 1 = 1) ↔ x.testBit k = true) := by decide +kernel
theorem E_ofAtom {F P : Nat} (hF : 1000 < F) {D : xDt} {W : Wd} (hW : wOK W) (hM : wM (D.1 241 1) (D.1 242) (D.1 243) W) {k : Nat} (hk : k < 8) : f_X12_ofAtom F P xS0 241 (nI k) D = some (oa W k, D) := by
  have hn := hW.1
  rw [e_X12_ofAtom]
  refine lpu (W := fun m i (v : Int64) => f_X12_ofAtom_5 F P xS0 m 241 (nI k) v (nI i) D = some (oa W k, D)) (I := fun i v => v = mkB (fun w => decide (w < W.1) && (W.2.1 w).testBit k) i) W.1 ?_ ?_ W.1 0 _ F (by omega) (by omega) rfl
  · rintro m v rfl
    rw [e_X12_ofAtom_5, hM.1, if_pos (Int32.le_refl _), mkB_full hn (fun j hj => by simp; omega)]
    rfl
  · rintro m i v hi rfl hk2
    rw [e_X12_ofAtom_5, hM.1, if_neg (by rw [nI_leI (by omega) (by omega)]; omega), xgrd_in (by omega) (by omega), nI_clamp (by omega), hM.2.1 i hi]
    have ht := at_bit1 (W.2.1 i) (hW.2.1 i hi) k hk
    simp only [e_X12_ofAtom_38, xlet, nI_1]
    by_cases hc : (W.2.1 i).testBit k = true
    · rw [if_pos (ht.mpr hc)]
      exact hk2 _ (by rw [mkB]; simp [hi, hc])
    · rw [if_neg (fun c => hc (ht.mp c))]
      exact hk2 _ (by rw [mkB]; simp [hc])
theorem E_mall {F P : Nat} {D : xDt} {n : Nat} (h : D.1 241 1 = nI n) (hn : n ≤ 64) : f_X12_all F P xS0 241 D = some (mkS (fun j => decide (j < n)), D) := by
  have e := E_all (F := F) (P := P) (D := (fun _ _ => nI n, D.2)) (a := 0) (n := n) rfl hn
  unfold f_X10_all at e
  rw [e_X12_all, h]
  by_cases hc : n < 64
  · rw [if_pos (show (nI n) < 64 from by rw [k64]; exact (nI_ltI (by omega) (by omega)).mpr hc)] at e
    rw [if_neg (show ¬ nI n = 64 from by rw [k64, nI_eq (by omega) (by omega)]; omega)]
    have e2 := Option.some.inj e
    have e3 : jlshl 1 (nI n) - 1 = mkS (fun j => decide (j < n)) := congrArg Prod.fst e2
    rw [e3]
  · have : n = 64 := by omega
    subst this
    rw [if_neg (show ¬ (nI 64) < 64 from by decide)] at e
    rw [if_pos (by rfl)]
    have e2 := Option.some.inj e
    have e3 : (-1 : Int64) = mkS (fun j => decide (j < 64)) := congrArg Prod.fst e2
    rw [e3]
theorem gr_bit : ∀ m, m < 16 → ∀ g, g < 4 → ((jishr (nI m) (nI g) &&& 1 = 1) ↔ m.testBit g = true) := by decide +kernel
theorem E_reached {F P : Nat} (hF : 1000 < F) {D : xDt} {W : Wd} (hW : wOK W) (hM : wM (D.1 241 1) (D.1 242) (D.1 243) W) {m w : Nat} (hm : m < 16) (hw : w < W.1) (th : Int64) : ∃ y, f_X12_reached F P xS0 241 (nI m) (jlshl 1 (nI w)) th D = some (y, D) ∧ ∀ u, bt y u = true ↔ rc W m th w u := by
  have hn := hW.1
  rw [e_X12_reached]
  have key := lpm (σ := Int64 × Int64) (W := fun n (s : Int64 × Int64) => ∃ y, f_X12_reached_6 F P xS0 n 241 (nI m) th s.1 s.2 D = some (y, D) ∧ ∀ u, bt y u = true ↔ rc W m th w u)
    (I := fun s => sub s.2 s.1 ∧ bt s.1 w = true ∧ (∀ u, bt s.1 u = true → rc W m th w u) ∧ (∀ a b, bt s.2 a = true → st W m th a b → bt s.1 b = true))
    (mu := fun s => 64 - cn (bt s.2) 64 + (if s.1 = s.2 then 0 else 1)) ?_ F (jlshl 1 (nI w), 0) ?_ ?_
  · exact key
  · rintro n ⟨now, bef⟩ ⟨i1, i2, i3, i4⟩ hk
    dsimp only at i1 i2 i3 i4 hk ⊢
    rw [e_X12_reached_6]
    by_cases hc : now = bef
    · rw [if_pos (by rw [cmp0]; exact hc)]
      refine ⟨now, rfl, fun u => ⟨i3 u, fun h => ?_⟩⟩
      exact h (fun x => bt now x = true) i2 (fun a b ha hs => i4 a b (by rw [← hc]; exact ha) hs)
    · rw [if_neg (by rw [cmp0]; exact hc)]
      have hgrow := cn_grow i1 (fun e => hc e.symm)
      have hle := cn_le (bt now) 64
      -- one round
      have r1 : ∀ v : Int64, sub now v → (∀ u, bt v u = true → rc W m th w u) → (∀ g, g < 4 → m.testBit g = true → ∀ x, x < W.1 → bt now x = true → ∀ b, b < W.1 → W.2.2 g b = W.2.2 g x → bt th b = true → bt v b = true) → ∃ y, f_X12_reached_6 F P xS0 n 241 (nI m) th v now D = some (y, D) ∧ ∀ u, bt y u = true ↔ rc W m th w u := by
        intro v g1 g2 g3
        refine hk (v, now) ⟨g1, g1 _ i2, g2, ?_⟩ ?_
        · rintro a b ha ⟨g, q1, q2, q3, q4, q5, q6⟩
          exact g3 g q1 q2 a q3 ha b q4 q5 q6
        · dsimp only
          rw [if_neg hc]
          split <;> omega
      refine lpu (W := fun n2 i (v : Int64) => ∃ y, f_X12_reached_21 F P xS0 (f_X12_reached_6 F P xS0 n) n2 241 (nI m) th v now (nI (i + 1)) D = some (y, D) ∧ ∀ u, bt y u = true ↔ rc W m th w u) (I := fun i v => sub now v ∧ (∀ u, bt v u = true → rc W m th w u) ∧ (∀ g, g < i → m.testBit g = true → ∀ x, x < W.1 → bt now x = true → ∀ b, b < W.1 → W.2.2 g b = W.2.2 g x → bt th b = true → bt v b = true)) 4 ?_ ?_ 4 0 _ F (by omega) (by omega) ⟨fun _ h => h, i3, fun g hg => absurd hg (by omega)⟩
      · rintro n2 v ⟨g1, g2, g3⟩
        rw [e_X12_reached_21, if_pos (by decide)]
        exact r1 v g1 g2 g3
      · rintro n2 g v hg ⟨g1, g2, g3⟩ hk2
        rw [e_X12_reached_21, k4, if_neg (by rw [nI_ltI (by omega) (by omega)]; omega)]
        by_cases hmg : m.testBit g = true
        · refine lpu (W := fun n3 i (v : Int64) => ∃ y, f_X12_reached_30 F P xS0 (f_X12_reached_6 F P xS0 n) (f_X12_reached_21 F P xS0 (f_X12_reached_6 F P xS0 n) n2) n3 241 (nI m) th v now (nI (g + 1)) (nI i) D = some (y, D) ∧ ∀ u, bt y u = true ↔ rc W m th w u) (I := fun i v => sub now v ∧ (∀ u, bt v u = true → rc W m th w u) ∧ (∀ g', g' < g → m.testBit g' = true → ∀ x, x < W.1 → bt now x = true → ∀ b, b < W.1 → W.2.2 g' b = W.2.2 g' x → bt th b = true → bt v b = true) ∧ (∀ x, x < i → bt now x = true → ∀ b, b < W.1 → W.2.2 g b = W.2.2 g x → bt th b = true → bt v b = true)) W.1 ?_ ?_ W.1 0 _ F (by omega) (by omega) ⟨g1, g2, g3, fun x hx => absurd hx (by omega)⟩
          · rintro n3 v2 ⟨f1, f2, f3, f4⟩
            rw [e_X12_reached_30, hM.1, if_pos (Int32.le_refl _), e_X12_reached_89]
            dsimp only [xlet]
            rw [nI_1]
            refine hk2 v2 ⟨f1, f2, fun g' hg' => ?_⟩
            by_cases e : g' = g
            · subst e; exact fun _ x hx => f4 x hx
            · exact f3 g' (by omega)
          · rintro n3 i v2 hi ⟨f1, f2, f3, f4⟩ hk3
            rw [e_X12_reached_30, hM.1, if_neg (by rw [nI_leI (by omega) (by omega)]; omega), nI_s1 (by omega), Nat.add_sub_cancel, if_pos ((gr_bit m hm g hg).mpr hmg)]
            by_cases hb : bt now i = true
            · rw [if_pos (by rw [test1' _ (by omega)]; exact hb), E_cellOf hF hW hM hg hi]
              dsimp only [Option.bind]
              rw [e_X12_reached_80]
              dsimp only [xlet]
              rw [nI_1]
              refine hk3 _ ⟨?_, ?_, ?_, ?_⟩
              · intro j hj; rw [bt_or, f1 j hj]; rfl
              · intro u hu
                rw [bt_or, Bool.or_eq_true, bt_and, bt_cs _ hn, Bool.and_eq_true, Bool.and_eq_true, decide_eq_true_iff, decide_eq_true_iff] at hu
                rcases hu with hu | ⟨⟨q1, q2⟩, q3⟩
                · exact f2 u hu
                · exact rc_step (f2 i (f1 i hb)) ⟨g, hg, hmg, hi, q1, q2, q3⟩
              · intro g' q1 q2 x q3 q4 b q5 q6 q7
                rw [bt_or, f3 g' q1 q2 x q3 q4 b q5 q6 q7]; rfl
              · intro x q1 q2 b q3 q4 q5
                rw [bt_or, bt_and, bt_cs _ hn, q5]
                by_cases e : x = i
                · subst e; simp [q3, q4]
                · rw [f4 x (by omega) q2 b q3 q4 q5]; rfl
            · rw [if_neg (by rw [test1' _ (by omega)]; exact hb), e_X12_reached_80]
              dsimp only [xlet]
              rw [nI_1]
              have e0 : v2 ||| 0 = v2 := bt_ext (fun j _ => by rw [bt_or, bt_0]; simp)
              rw [e0]
              refine hk3 _ ⟨f1, f2, f3, ?_⟩
              intro x q1 q2
              by_cases e : x = i
              · subst e; exact absurd q2 hb
              · exact f4 x (by omega) q2
        · -- the agent isn't of the group
          obtain ⟨F', rfl⟩ : ∃ F', F = F' + 1 := ⟨F - 1, by omega⟩
          have hex : ∃ y, f_X12_reached_30 (F' + 1) P xS0 (f_X12_reached_6 (F' + 1) P xS0 n) (f_X12_reached_21 (F' + 1) P xS0 (f_X12_reached_6 (F' + 1) P xS0 n) n2) (F' + 1) 241 (nI m) th v now (nI (g + 1)) 0 D = some (y, D) ∧ ∀ u, bt y u = true ↔ rc W m th w u := by
            rw [e_X12_reached_30, nI_s1 (by omega), Nat.add_sub_cancel, if_neg (c := jishr (nI m) (nI g) &&& 1 = 1) (fun c => hmg ((gr_bit m hm g hg).mp c)), ite_self, e_X12_reached_89]
            dsimp only [xlet]
            rw [nI_1]
            refine hk2 v ⟨g1, g2, fun g' hg' => ?_⟩
            by_cases e : g' = g
            · subst e; exact fun c => absurd c hmg
            · exact g3 g' (by omega)
          exact hex
  · dsimp only
    refine ⟨fun j hj => absurd hj (by rw [bt_0]; simp), by rw [bt_bit (by omega)]; simp, ?_, ?_⟩
    · intro u hu
      rw [bt_bit (by omega), decide_eq_true_iff] at hu
      subst hu; exact rc_refl _
    · intro a b ha; rw [bt_0] at ha; cases ha
  · dsimp only
    split <;> omega
