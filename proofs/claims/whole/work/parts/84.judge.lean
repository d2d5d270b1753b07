/-! tokens -/
def sgn (s m : Nat) : Nat := tk s m % 128
theorem tk_and : ∀ s, s < 16 → ∀ m, m < 16 → nI (tk s m) &&& 127 = nI (sgn s m) := by decide +kernel
def lfv (x : Int32) : Int32 := if x < 97 then (if x = 48 then 1 else if x = 49 then 1 else 0) else if x ≤ 104 then 1 else (if x = 48 then 1 else if x = 49 then 1 else 0)
def jnv (x : Int32) : Int32 := if x = 61 then 1 else if x = 62 then 1 else if x = 124 then 1 else if x = 38 then 1 else 0
def syv (x : Int32) : Int32 := if x = 91 then 1 else if x = 123 then 1 else 0
def knv (x : Int32) : Int32 := if x = 75 then 1 else if x = 80 then 1 else if x = 69 then 1 else if x = 67 then 1 else if x = 68 then 1 else 0
section
variable {F P : Nat} {S : xSt} {D : xDt}
theorem E_signOf {s m : Nat} (hs : s < 16) (hm : m < 16) : f_X11_signOf F P S (nI (tk s m)) D = some (nI (sgn s m), D) := by
  unfold f_X11_signOf
  rw [tk_and s hs m hm]
theorem E_isLeaf' (x : Int32) : f_X11_isLeaf F P S x D = some (lfv x, D) := by
  unfold f_X11_isLeaf f_X11_isLeaf_12 f_X11_isLeaf_24 lfv
  split
  · split
    · rfl
    · split <;> rfl
  · split
    · rfl
    · split
      · rfl
      · split <;> rfl
theorem E_isJoin' (x : Int32) : f_X11_isJoin F P S x D = some (jnv x, D) := by
  unfold f_X11_isJoin f_X11_isJoin_24 jnv
  split
  · rfl
  · split
    · rfl
    · split
      · rfl
      · split <;> rfl
theorem E_isSaying' (x : Int32) : f_X11_isSaying F P S x D = some (syv x, D) := by
  unfold f_X11_isSaying f_X11_isSaying_12 syv
  split
  · rfl
  · split <;> rfl
theorem E_isKnowing' (x : Int32) : f_X11_isKnowing F P S x D = some (knv x, D) := by
  unfold f_X11_isKnowing f_X11_isKnowing_30 knv
  split
  · rfl
  · split
    · rfl
    · split
      · rfl
      · split
        · rfl
        · split <;> rfl
theorem E_hasTwo' (x : Int32) : f_X11_hasTwoParts F P S x D = some (if jnv x = 0 then (if syv x = 0 then 0 else 1) else 1, D) := by
  unfold f_X11_hasTwoParts f_X11_hasTwoParts_14
  rw [E_isJoin']
  simp only [Option.bind_some]
  rw [E_isSaying']
  simp only [Option.bind_some]
  split
  · split <;> rfl
  · rfl
theorem lfv_t : ∀ s, s < 16 → ∀ m, m < 16 → 1 ≤ s → (s = 1 → m < 8) → lfv (nI (sgn s m)) = if s ≤ 3 then 1 else 0 := by decide +kernel
theorem jnv_t : ∀ s, s < 16 → ∀ m, m < 16 → 1 ≤ s → (s = 1 → m < 8) → jnv (nI (sgn s m)) = if 10 ≤ s ∧ s ≤ 13 then 1 else 0 := by decide +kernel
theorem syv_t : ∀ s, s < 16 → ∀ m, m < 16 → 1 ≤ s → (s = 1 → m < 8) → syv (nI (sgn s m)) = if 14 ≤ s then 1 else 0 := by decide +kernel
theorem knv_t : ∀ s, s < 16 → ∀ m, m < 16 → 1 ≤ s → (s = 1 → m < 8) → knv (nI (sgn s m)) = if 5 ≤ s ∧ s ≤ 9 then 1 else 0 := by decide +kernel
theorem m_8 {s m : Nat} (h : mOK s m) : s = 1 → m < 8 := by unfold mOK at h; omega
theorem E_isLeaf {s m : Nat} (h1 : 1 ≤ s) (h2 : s ≤ 15) (h : mOK s m) : f_X11_isLeaf F P S (nI (sgn s m)) D = some (if s ≤ 3 then 1 else 0, D) := by
  rw [E_isLeaf', lfv_t s (by omega) m (m16 h) h1 (m_8 h)]
theorem E_isJoin {s m : Nat} (h1 : 1 ≤ s) (h2 : s ≤ 15) (h : mOK s m) : f_X11_isJoin F P S (nI (sgn s m)) D = some (if 10 ≤ s ∧ s ≤ 13 then 1 else 0, D) := by
  rw [E_isJoin', jnv_t s (by omega) m (m16 h) h1 (m_8 h)]
theorem E_isSaying {s m : Nat} (h1 : 1 ≤ s) (h2 : s ≤ 15) (h : mOK s m) : f_X11_isSaying F P S (nI (sgn s m)) D = some (if 14 ≤ s then 1 else 0, D) := by
  rw [E_isSaying', syv_t s (by omega) m (m16 h) h1 (m_8 h)]
theorem E_isKnowing {s m : Nat} (h1 : 1 ≤ s) (h2 : s ≤ 15) (h : mOK s m) : f_X11_isKnowing F P S (nI (sgn s m)) D = some (if 5 ≤ s ∧ s ≤ 9 then 1 else 0, D) := by
  rw [E_isKnowing', knv_t s (by omega) m (m16 h) h1 (m_8 h)]
theorem E_hasTwo {s m : Nat} (h1 : 1 ≤ s) (h2 : s ≤ 15) (h : mOK s m) : f_X11_hasTwoParts F P S (nI (sgn s m)) D = some (if 10 ≤ s then 1 else 0, D) := by
  rw [E_hasTwo', jnv_t s (by omega) m (m16 h) h1 (m_8 h), syv_t s (by omega) m (m16 h) h1 (m_8 h)]
  congr 2
  by_cases a : 10 ≤ s
  · by_cases b : s ≤ 13
    · simp [a, b]
    · have : 14 ≤ s := by omega
      simp [a, b, this]
  · have : ¬ 14 ≤ s := by omega
    simp [a, this]
theorem ag_t : ∀ s, s < 10 → ∀ m, m < 16 → ∀ g, g < 4 → 5 ≤ s → ((jishr (nI (tk s m)) (8 + nI g) &&& 1 = 0) ↔ m.testBit g = false) := by decide +kernel
theorem E_hasAgent {s m g : Nat} (h1 : 5 ≤ s) (h2 : s ≤ 9) (hm : m < 16) (hg : g < 4) : f_X11_hasAgent F P S (nI (tk s m)) (nI g) D = some (if m.testBit g = true then 1 else 0, D) := by
  unfold f_X11_hasAgent
  have ht := ag_t s (by omega) m hm g hg h1
  by_cases hc : m.testBit g = true
  · rw [if_neg (fun c => by rw [ht.mp c] at hc; cases hc), if_pos hc]
  · rw [if_pos (ht.mpr (by simpa using hc)), if_neg hc]
end
/-! the class: what is known where -/
theorem E_near {F P : Nat} (hF : 1000 < F) {D : xDt} {a ta ce : Nat} {W : Wd} (ho : oW a ta ce) (hW : wOK W) (hC : wC D a ta ce W) {g : Nat} (hg : g < 4) (x : Int64) : ∃ y, f_X10_near F P xS0 a (nI g) x D = some (y, D) ∧ ∀ u, bt y u = true ↔ (u < W.1 ∧ ∃ w, w < W.1 ∧ bt x w = true ∧ W.2.2 g u = W.2.2 g w) := by
  have hn := hW.1
  unfold f_X10_near
  refine lpu (W := fun n i (v : Int64) => ∃ y, f_X10_near_6 F P xS0 n a (nI g) x v (nI i) D = some (y, D) ∧ ∀ u, bt y u = true ↔ (u < W.1 ∧ ∃ w, w < W.1 ∧ bt x w = true ∧ W.2.2 g u = W.2.2 g w)) (I := fun i v => ∀ u, bt v u = true ↔ (u < W.1 ∧ ∃ w, w < i ∧ bt x w = true ∧ W.2.2 g u = W.2.2 g w)) W.1 ?_ ?_ W.1 0 _ F (by omega) (by omega) ?_
  · intro n v h
    show ∃ y, f_X10_near_6s F P xS0 (f_X10_near_6 F P xS0 n) a (nI g) x v (nI W.1) D = _ ∧ _
    unfold f_X10_near_6s
    rw [hC.1, if_pos (Int32.le_refl _)]
    exact ⟨v, rfl, h⟩
  · intro n i v hi h hk
    show ∃ y, f_X10_near_6s F P xS0 (f_X10_near_6 F P xS0 n) a (nI g) x v (nI i) D = _ ∧ _
    unfold f_X10_near_6s f_X10_near_50
    simp only [xlet, nI_1]
    rw [hC.1, if_neg (by rw [nI_leI (by omega) (by omega)]; omega)]
    by_cases hb : bt (x &&& (v ^^^ (-1))) i = true
    · rw [if_neg (by rw [test1 _ (by omega), hb]; simp), ho.2.1, ho.2.2.2, k64, nI_mul, nI_add, xgrd_in (by omega) (by omega), nI_clamp (by omega), hC.2.2 g hg i hi]
      refine hk _ (fun u => ?_)
      rw [bt_andn, Bool.and_eq_true] at hb
      rw [bt_or, Bool.or_eq_true, h u, bt_cs _ hn, Bool.and_eq_true, decide_eq_true_iff, decide_eq_true_iff]
      constructor
      · rintro (⟨h1, w, h2, h3⟩ | ⟨h1, h2⟩)
        · exact ⟨h1, w, by omega, h3⟩
        · exact ⟨h1, i, by omega, hb.1, h2⟩
      · rintro ⟨h1, w, h2, h3, h4⟩
        by_cases e : w = i
        · subst e; exact Or.inr ⟨h1, h4⟩
        · exact Or.inl ⟨h1, w, by omega, h3, h4⟩
    · rw [if_pos (by rw [test1 _ (by omega)]; simpa using hb)]
      refine hk _ (fun u => ?_)
      rw [h u]
      constructor
      · rintro ⟨h1, w, h2, h3⟩; exact ⟨h1, w, by omega, h3⟩
      · rintro ⟨h1, w, h2, h3, h4⟩
        by_cases e : w = i
        · subst e
          rw [bt_andn, h3] at hb
          have hv : bt v w = true := by simpa using hb
          obtain ⟨_, w2, q1, q2, q3⟩ := (h w).mp hv
          exact ⟨h1, w2, q1, q2, h4.trans q3⟩
        · exact ⟨h1, w, by omega, h3, h4⟩
  · intro u
    rw [bt_0]
    constructor
    · intro c; cases c
    · rintro ⟨_, w, h, _⟩; omega
theorem E_known {F P : Nat} (hF : 1000 < F) {D : xDt} {a ta ce : Nat} {W : Wd} (ho : oW a ta ce) (hW : wOK W) (hC : wC D a ta ce W) {s m q : Nat} (h1 : 5 ≤ s) (h2 : s ≤ 9) (hm : m < 16) {th : Int64} (hth : D.2 207 5 = th) (hs : ∀ j, bt th j = true → j < W.1) (hq : q ≠ 8) (hq2 : q ≠ 9) (x : Int64) : f_X3_known F P xS0 207 (nI (tk s m)) x a D = some (kn W q m x th, D) := by
  have hn := hW.1
  rw [e_X3_known]
  refine lpu (W := fun n i (v : Int64) => f_X3_known_6 F P xS0 n 207 (nI (tk s m)) x a v (nI i) D = some (kn W q m x th, D)) (I := fun i v => ∀ u, bt v u = true ↔ (u < W.1 ∧ ∃ g, g < i ∧ m.testBit g = true ∧ ∃ w, w < W.1 ∧ bt th w = true ∧ bt x w = false ∧ W.2.2 g u = W.2.2 g w)) 4 ?_ ?_ 4 0 _ F (by omega) (by omega) ?_
  · intro n v h
    rw [e_X3_known_6, if_pos (by decide), hth]
    congr 2
    apply bt_ext
    intro j hj
    apply b_iff
    rw [bt_andn, Bool.and_eq_true, bt_kn hn]
    constructor
    · rintro ⟨c1, c2⟩
      refine ⟨hs j c1, c1, fun u hu hr ht => ?_⟩
      rw [rch, if_neg hq, if_neg hq2] at hr
      obtain ⟨g, q1, q2, q3⟩ := hr
      cases hx : bt x u
      · have := (h j).mpr ⟨hs j c1, g, q1, q2, u, hu, ht, hx, q3.symm⟩
        rw [this] at c2; cases c2
      · rfl
    · rintro ⟨c1, c2, c3⟩
      refine ⟨c2, ?_⟩
      cases hv : bt v j
      · rfl
      · obtain ⟨_, g, q1, q2, u, q3, q4, q5, q6⟩ := (h j).mp hv
        have := c3 u q3 (by rw [rch, if_neg hq, if_neg hq2]; exact ⟨g, q1, q2, q6.symm⟩) q4
        rw [this] at q5; cases q5
  · intro n g v hg h hk
    rw [e_X3_known_6, k4, if_neg (by rw [nI_leI (by omega) (by omega)]; omega), E_hasAgent h1 h2 hm hg]
    simp only [Option.bind_some, e_X3_known_43, xlet, nI_1]
    by_cases hmg : m.testBit g = true
    · rw [if_pos hmg, if_neg (by decide), hth]
      obtain ⟨y, e, hy⟩ := E_near (F := F) (P := P) hF ho hW hC hg (th &&& (x ^^^ (-1)))
      rw [e]
      simp only [Option.bind_some]
      refine hk _ (fun u => ?_)
      rw [bt_or, Bool.or_eq_true, h u, hy u]
      constructor
      · rintro (⟨c1, g', c2, c3⟩ | ⟨c1, w, c2, c3, c4⟩)
        · exact ⟨c1, g', by omega, c3⟩
        · rw [bt_andn, Bool.and_eq_true] at c3
          exact ⟨c1, g, by omega, hmg, w, c2, c3.1, by simpa using c3.2, c4⟩
      · rintro ⟨c1, g', c2, c3, w, c4, c5, c6, c7⟩
        by_cases e : g' = g
        · subst e
          exact Or.inr ⟨c1, w, c4, by rw [bt_andn, c5, c6]; rfl, c7⟩
        · exact Or.inl ⟨c1, g', by omega, c3, w, c4, c5, c6, c7⟩
    · rw [if_neg hmg, if_pos rfl]
      refine hk _ (fun u => ?_)
      rw [h u]
      constructor
      · rintro ⟨c1, g', c2, c3⟩; exact ⟨c1, g', by omega, c3⟩
      · rintro ⟨c1, g', c2, c3, c4⟩
        by_cases e : g' = g
        · subst e; exact absurd c3 hmg
        · exact ⟨c1, g', by omega, c3, c4⟩
  · intro u
    rw [bt_0]
    constructor
    · intro c; cases c
    · rintro ⟨_, g, h, _⟩; omega
theorem E_pooled {F P : Nat} (hF : 1000 < F) {D : xDt} {a ta ce : Nat} {W : Wd} (ho : oW a ta ce) (hW : wOK W) (hC : wC D a ta ce W) {m : Nat} (hm : m < 16) {th : Int64} (hth : D.2 207 5 = th) (hs : ∀ j, bt th j = true → j < W.1) (x : Int64) : f_X3_pooled F P xS0 207 (nI (tk 9 m)) x a D = some (kn W 9 m x th, D) := by
  have hn := hW.1
  rw [e_X3_pooled]
  refine lpu (W := fun n i (v : Int64) => f_X3_pooled_6 F P xS0 n 207 (nI (tk 9 m)) x a v (nI i) D = some (kn W 9 m x th, D)) (I := fun i v => ∀ w, bt v w = true ↔ (w < i ∧ ∀ u, u < W.1 → rch W 9 m th w u → bt th u = true → bt x u = true)) W.1 ?_ ?_ W.1 0 _ F (by omega) (by omega) ?_
  · intro n v h
    rw [e_X3_pooled_6, hC.1, if_pos (Int32.le_refl _), hth]
    congr 2
    apply bt_ext
    intro j hj
    apply b_iff
    rw [bt_and, Bool.and_eq_true, bt_kn hn, h j]
    constructor
    · rintro ⟨c1, c2, c3⟩; exact ⟨c2, c1, c3⟩
    · rintro ⟨c1, c2, c3⟩; exact ⟨c2, c1, c3⟩
  · intro n w v hw h hk
    rw [e_X3_pooled_6, hC.1, if_neg (by rw [nI_leI (by omega) (by omega)]; omega), hth]
    simp only [xlet]
    refine lpu (W := fun n2 i (v2 : Int64) => f_X3_pooled_31 F P xS0 (f_X3_pooled_6 F P xS0 n) n2 207 (nI (tk 9 m)) x a v (nI w) v2 (nI i) D = some (kn W 9 m x th, D)) (I := fun i v2 => ∀ u, bt v2 u = true ↔ (bt th u = true ∧ bt x u = false ∧ ∀ g, g < i → m.testBit g = true → W.2.2 g u = W.2.2 g w)) 4 ?_ ?_ 4 0 _ F (by omega) (by omega) ?_
    · intro n2 v2 h2
      rw [e_X3_pooled_31, if_pos (by decide)]
      simp only [e_X3_pooled_83, xlet, nI_1]
      have hz : v2 = 0 ↔ ∀ u, u < W.1 → rch W 9 m th w u → bt th u = true → bt x u = true := by
        rw [z_iff]
        constructor
        · intro c u hu hr ht
          rw [rch, if_neg (by omega), if_pos rfl] at hr
          cases hx : bt x u
          · have := (h2 u).mpr ⟨ht, hx, hr⟩
            rw [c u (by omega)] at this; cases this
          · rfl
        · intro c j hj
          cases hv : bt v2 j
          · rfl
          · obtain ⟨c1, c2, c3⟩ := (h2 j).mp hv
            have := c j (hs j c1) (by rw [rch, if_neg (by omega), if_pos rfl]; exact c3) c1
            rw [this] at c2; cases c2
      by_cases hc : v2 = 0
      · rw [if_pos (by rw [cmp0]; exact hc)]
        refine hk _ (fun u => ?_)
        rw [bt_or, Bool.or_eq_true, h u, bt_bit (by omega), decide_eq_true_iff]
        constructor
        · rintro (⟨c1, c2⟩ | rfl)
          · exact ⟨by omega, c2⟩
          · exact ⟨by omega, hz.mp hc⟩
        · rintro ⟨c1, c2⟩
          by_cases e : u = w
          · exact Or.inr e
          · exact Or.inl ⟨by omega, c2⟩
      · rw [if_neg (by rw [cmp0]; exact hc)]
        refine hk _ (fun u => ?_)
        rw [bt_or, bt_0, Bool.or_false, h u]
        constructor
        · rintro ⟨c1, c2⟩; exact ⟨by omega, c2⟩
        · rintro ⟨c1, c2⟩
          by_cases e : u = w
          · subst e; exact absurd (hz.mpr c2) hc
          · exact ⟨by omega, c2⟩
    · intro n2 g v2 hg h2 hk2
      rw [e_X3_pooled_31, k4, if_neg (by rw [nI_leI (by omega) (by omega)]; omega), E_hasAgent (by omega) (by omega) hm hg]
      simp only [Option.bind_some, e_X3_pooled_60, xlet, nI_1]
      by_cases hmg : m.testBit g = true
      · rw [if_pos hmg, if_neg (by decide), E_cell ho hg (by omega), hC.2.2 g hg w hw]
        simp only [Option.bind_some]
        refine hk2 _ (fun u => ?_)
        rw [bt_and, Bool.and_eq_true, h2 u, bt_cs _ hn, Bool.and_eq_true, decide_eq_true_iff, decide_eq_true_iff]
        constructor
        · rintro ⟨⟨c1, c2, c3⟩, c4, c5⟩
          refine ⟨c1, c2, fun g' q1 q2 => ?_⟩
          by_cases e : g' = g
          · subst e; exact c5
          · exact c3 g' (by omega) q2
        · rintro ⟨c1, c2, c3⟩
          exact ⟨⟨c1, c2, fun g' q1 q2 => c3 g' (by omega) q2⟩, hs u c1, c3 g (by omega) hmg⟩
      · rw [if_neg hmg, if_pos rfl]
        refine hk2 _ (fun u => ?_)
        rw [h2 u]
        constructor
        · rintro ⟨c1, c2, c3⟩
          refine ⟨c1, c2, fun g' q1 q2 => ?_⟩
          by_cases e : g' = g
          · subst e; exact absurd q2 hmg
          · exact c3 g' (by omega) q2
        · rintro ⟨c1, c2, c3⟩
          exact ⟨c1, c2, fun g' q1 q2 => c3 g' (by omega) q2⟩
    · intro u
      rw [bt_andn, Bool.and_eq_true]
      constructor
      · rintro ⟨c1, c2⟩; exact ⟨c1, by simpa using c2, fun g hg => absurd hg (by omega)⟩
      · rintro ⟨c1, c2, _⟩; exact ⟨c1, by simpa using c2⟩
  · intro w
    rw [bt_0]
    constructor
    · intro c; cases c
    · rintro ⟨h, _⟩; omega
theorem E_common {F P : Nat} (hF : 1000 < F) {D : xDt} {a ta ce : Nat} {W : Wd} (ho : oW a ta ce) (hW : wOK W) (hC : wC D a ta ce W) {m : Nat} (hm : m < 16) {th : Int64} (hth : D.2 207 5 = th) (hs : ∀ j, bt th j = true → j < W.1) (x : Int64) : f_X3_common F P xS0 207 (nI (tk 8 m)) x a D = some (kn W 8 m x th, D) := by
  have hn := hW.1
  rw [e_X3_common, hth]
  simp only [xlet]
  -- the set that is come to is closed
  have fin : ∀ come : Int64, (∀ u, bt th u = true → bt x u = false → bt come u = true) → (∀ u, bt come u = true → bt th u = true ∧ ∃ v, bt th v = true ∧ bt x v = false ∧ rc W m th v u) → (∀ p q, bt come p = true → st W m th p q → bt come q = true) → th &&& (come ^^^ (-1)) = kn W 8 m x th := by
    intro come c1 c2 c3
    apply bt_ext
    intro j hj
    apply b_iff
    rw [bt_andn, Bool.and_eq_true, bt_kn hn]
    constructor
    · rintro ⟨d1, d2⟩
      refine ⟨hs j d1, d1, fun u hu hr ht => ?_⟩
      rw [rch, if_pos rfl] at hr
      cases hx : bt x u
      · have h1 := rc_sym d1 hr
        have h2 := h1 (fun p => bt come p = true) (c1 u ht hx) c3
        rw [h2] at d2; cases d2
      · rfl
    · rintro ⟨d1, d2, d3⟩
      refine ⟨d2, ?_⟩
      cases hv : bt come j
      · rfl
      · obtain ⟨_, v, q1, q2, q3⟩ := c2 j hv
        have := d3 v (hs v q1) (by rw [rch, if_pos rfl]; exact rc_sym q1 q3) q1
        rw [this] at q2; cases q2
  refine lpu (W := fun n i (v : Int64) => f_X3_common_15 F P xS0 n 207 (nI (tk 8 m)) a v (nI i) D = some (kn W 8 m x th, D)) (I := fun i v => i ≤ cn (bt v) 64 ∧ (∀ u, bt th u = true → bt x u = false → bt v u = true) ∧ (∀ u, bt v u = true → bt th u = true ∧ ∃ w, bt th w = true ∧ bt x w = false ∧ rc W m th w u)) 64 ?_ ?_ 64 0 _ F (by omega) (by omega) ?_
  · rintro n v ⟨h0, h1, h2⟩
    rw [e_X3_common_15, if_pos (by decide), e_X3_common_90, hth, fin v h1 h2 ?_]
    rintro p q _ ⟨g, s1, s2, s3, s4, s5, s6⟩
    -- v is full
    apply Classical.byContradiction
    intro hc
    have h3 : cn (bt v) 64 < cn (bt (-1)) 64 := cn_grow (fun j hj => by
      rw [bt_m1]
      by_cases e : j < 64
      · simp [e]
      · rw [bt_ge (by omega)] at hj; cases hj) (fun e => by
      rw [e, bt_m1] at hc
      have : q < 64 := by omega
      simp [this] at hc)
    have := cn_le (bt (-1)) 64
    omega
  · rintro n i v hi ⟨h0, h1, h2⟩ hk
    rw [e_X3_common_15, k64, if_neg (by rw [nI_leI (by omega) (by omega)]; omega)]
    refine lpu (W := fun n2 g (v2 : Int64) => f_X3_common_29 F P xS0 (f_X3_common_15 F P xS0 n) n2 207 (nI (tk 8 m)) a v (nI i) v2 (nI g) D = some (kn W 8 m x th, D)) (I := fun g v2 => sub v v2 ∧ (∀ u, bt v2 u = true → bt th u = true ∧ ∃ w, bt th w = true ∧ bt x w = false ∧ rc W m th w u) ∧ ∀ g', g' < g → m.testBit g' = true → ∀ p q, bt v p = true → p < W.1 → q < W.1 → W.2.2 g' q = W.2.2 g' p → bt th q = true → bt v2 q = true) 4 ?_ ?_ 4 0 _ F (by omega) (by omega) ⟨fun _ h => h, h2, fun g' c => absurd c (by omega)⟩
    · rintro n2 v2 ⟨i1, i2, i3⟩
      rw [e_X3_common_29, if_pos (by decide)]
      by_cases hc : v2 = v
      · rw [if_pos (by rw [cmp0]; exact hc), e_X3_common_90, hth, fin v h1 h2 ?_]
        rintro p q hp ⟨g, s1, s2, s3, s4, s5, s6⟩
        have := i3 g s1 s2 p q hp s3 s4 s5 s6
        rw [hc] at this; exact this
      · rw [if_neg (by rw [cmp0]; exact hc)]
        simp only [xlet, nI_1]
        have := cn_grow i1 (fun e => hc e.symm)
        exact hk v2 ⟨by omega, fun u q1 q2 => i1 u (h1 u q1 q2), i2⟩
    · rintro n2 g v2 hg ⟨i1, i2, i3⟩ hk2
      rw [e_X3_common_29, k4, if_neg (by rw [nI_leI (by omega) (by omega)]; omega), E_hasAgent (by omega) (by omega) hm hg]
      simp only [Option.bind_some, e_X3_common_63, xlet, nI_1]
      by_cases hmg : m.testBit g = true
      · rw [if_pos hmg, if_neg (by decide), hth]
        obtain ⟨y, e, hy⟩ := E_near (F := F) (P := P) hF ho hW hC hg v2
        rw [e]
        simp only [Option.bind_some]
        refine hk2 _ ⟨?_, ?_, ?_⟩
        · intro j hj; rw [bt_or, i1 j hj]; rfl
        · intro u hu
          rw [bt_or, Bool.or_eq_true, bt_and, Bool.and_eq_true, hy u] at hu
          rcases hu with hu | ⟨q1, q2, w, q3, q4, q5⟩
          · exact i2 u hu
          · refine ⟨q1, ?_⟩
            obtain ⟨q6, v', q7, q8, q9⟩ := i2 w q4
            exact ⟨v', q7, q8, rc_step q9 ⟨g, hg, hmg, q3, q2, q5, q1⟩⟩
        · intro g' q1 q2 p q hp hp2 hq hpq ht
          rw [bt_or, bt_and, ht]
          by_cases e : g' = g
          · subst e
            rw [(hy q).mpr ⟨hq, p, hp2, i1 p hp, hpq⟩]; simp
          · rw [i3 g' (by omega) q2 p q hp hp2 hq hpq ht]; rfl
      · rw [if_neg hmg, if_pos rfl]
        refine hk2 _ ⟨i1, i2, fun g' q1 q2 => ?_⟩
        by_cases e : g' = g
        · subst e; exact absurd q2 hmg
        · exact i3 g' (by omega) q2
  · refine ⟨by omega, ?_, ?_⟩
    · intro u q1 q2; rw [bt_andn, q1, q2]; rfl
    · intro u hu
      rw [bt_andn, Bool.and_eq_true] at hu
      exact ⟨hu.1, u, hu.1, by simpa using hu.2, rc_refl _⟩
