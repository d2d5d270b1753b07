/-! worlds, plainly: how many, the ATOMS of each, for each agent the least one of its cell -/
abbrev Wd : Type := Nat × (Nat → Nat) × (Nat → Nat → Nat)
def wOK (W : Wd) : Prop := W.1 ≤ 64 ∧ (∀ w, w < W.1 → W.2.1 w < 256) ∧ ∀ g, g < 4 → ∀ w, w < W.1 → W.2.2 g w ≤ w ∧ W.2.2 g (W.2.2 g w) = W.2.2 g w
def cs (W : Wd) (g w : Nat) : Int64 := mkS (fun u => decide (u < W.1) && decide (W.2.2 g u = W.2.2 g w))
/-- the class's worlds: object, its row of ATOMS, its row of cells -/
def wC (D : xDt) (a ta ce : Nat) (W : Wd) : Prop := D.1 a 0 = nI W.1 ∧ (∀ k, k < 8 → ∀ w, w < W.1 → bt (D.2 ta k) w = (W.2.1 w).testBit k) ∧ (∀ g, g < 4 → ∀ w, w < W.1 → D.2 ce (g * 64 + w) = cs W g w)
/-- the reference's: how many, ATOMS, cells -/
def wM (m : Int32) (fa fc : Nat → Int32) (W : Wd) : Prop := m = nI W.1 ∧ (∀ w, w < W.1 → fa w = nI (W.2.1 w)) ∧ (∀ g, g < 4 → ∀ w, w < W.1 → fc (64 * g + w) = nI (W.2.2 g w))
/-- the shape of an object with worlds -/
def oW (a ta ce : Nat) : Prop := xr xS0 a 1 = ta ∧ xr xS0 a 2 = ce ∧ xl xS0 ta = 8 ∧ xl xS0 ce = 256
theorem bt_cs (W : Wd) (hW : W.1 ≤ 64) (g w u : Nat) : bt (cs W g w) u = (decide (u < W.1) && decide (W.2.2 g u = W.2.2 g w)) := by
  unfold cs
  rw [bt_mkS]
  by_cases h : u < W.1
  · have : u < 64 := by omega
    simp [h, this]
  · simp [h]
/-! the least one of a set -/
theorem neg_and {n m q : Nat} (hn : n = 2 ^ m * (2 * q + 1)) (h : n < 2 ^ 64) : n &&& (2 ^ 64 - n) = 2 ^ m := by
  have hm : m < 64 := by
    by_cases hc : m < 64
    · exact hc
    · have h1 : 2 ^ 64 ≤ 2 ^ m := Nat.pow_le_pow_right (by decide) (by omega)
      have h2 : 2 ^ m * 1 ≤ 2 ^ m * (2 * q + 1) := Nat.mul_le_mul_left _ (by omega)
      omega
  have e64 : 2 ^ 64 = 2 ^ m * (2 * 2 ^ (63 - m)) := by
    rw [← Nat.pow_succ', ← Nat.pow_add]; congr 1; omega
  have hq : 2 * q + 1 < 2 * 2 ^ (63 - m) := by
    rw [hn, e64] at h
    exact Nat.lt_of_mul_lt_mul_left h
  have hq2 : q < 2 ^ (63 - m) := by omega
  have e2 : 2 ^ 64 - n = 2 ^ m * (2 * (2 ^ (63 - m) - (q + 1)) + 1) := by
    rw [hn, e64, ← Nat.mul_sub]; congr 1; omega
  rw [e2, hn]
  apply Nat.eq_of_testBit_eq
  intro j
  rw [Nat.testBit_and, Nat.testBit_two_pow_mul, Nat.testBit_two_pow_mul, Nat.testBit_two_pow]
  by_cases hj : m ≤ j
  · obtain ⟨d, rfl⟩ : ∃ d, j = m + d := ⟨j - m, by omega⟩
    rw [Nat.add_sub_cancel_left]
    cases d with
    | zero => simp
    | succ d =>
      have a1 : (2 * q + 1).testBit (d + 1) = q.testBit d := by
        rw [Nat.testBit_succ]; congr 1; omega
      have a2 : (2 * (2 ^ (63 - m) - (q + 1)) + 1).testBit (d + 1) = (2 ^ (63 - m) - (q + 1)).testBit d := by
        rw [Nat.testBit_succ]; congr 1; omega
      rw [a1, a2, Nat.testBit_two_pow_sub_succ hq2]
      have : ¬ m = m + (d + 1) := by omega
      simp [this]
      intro h1 _; exact h1
  · have : ¬ m = j := by omega
    simp [hj, this]
theorem odd_part : ∀ k n, 0 < n → n < 2 ^ k → ∃ m q, n = 2 ^ m * (2 * q + 1)
  | 0, n, h, h2 => absurd h2 (by simp; omega)
  | k + 1, n, h, h2 => by
    by_cases hp : n % 2 = 1
    · exact ⟨0, n / 2, by rw [Nat.pow_zero, Nat.one_mul]; omega⟩
    · obtain ⟨m, q, e⟩ := odd_part k (n / 2) (by omega) (by rw [Nat.pow_succ] at h2; omega)
      refine ⟨m + 1, q, ?_⟩
      rw [Nat.pow_succ, Nat.mul_comm (2 ^ m) 2, Nat.mul_assoc, ← e]; omega
theorem low_bits (x : Int64) (j : Nat) (hj : j < 64) : bt ((x &&& (-x)) - 1) j = decide (j < lst (bt x) 64) := by
  obtain ⟨n, hn, rfl⟩ := wb_of x
  by_cases h0 : n = 0
  · subst h0
    have e : lst (bt (lN 0)) 64 = 64 := lst_none (fun j _ => bt_0 j)
    rw [e]
    have e2 : (lN 0 &&& (-(lN 0))) - 1 = -1 := by decide
    rw [e2, bt_m1]
  · obtain ⟨m, q, e⟩ := odd_part 64 n (by omega) hn
    have hm : m < 64 := by
      by_cases hc : m < 64
      · exact hc
      · have h1 : 2 ^ 64 ≤ 2 ^ m := Nat.pow_le_pow_right (by decide) (by omega)
        have h2 : 2 ^ m * 1 ≤ 2 ^ m * (2 * q + 1) := Nat.mul_le_mul_left _ (by omega)
        omega
    have hneg : -(lN n) = lN (2 ^ 64 - n) := by
      apply wb_inj
      rw [Int64.toBitVec_neg, wb_tb, wb_tb]
      apply BitVec.eq_of_toNat_eq
      rw [BitVec.toNat_neg, BitVec.toNat_ofNat, BitVec.toNat_ofNat, Nat.mod_eq_of_lt hn]
    rw [hneg, wb_and hn (by omega), neg_and e hn]
    have h1 : 1 ≤ 2 ^ m := Nat.one_le_two_pow
    rw [show (1 : Int64) = lN 1 from rfl, lN_sub h1, bt_lN hj, Nat.testBit_two_pow_sub_one]
    have : lst (bt (lN n)) 64 = m := by
      apply lst_eq hm
      · rw [bt_lN hm, e, Nat.testBit_two_pow_mul]; simp
      · intro i hi
        rw [bt_lN (by omega), e, Nat.testBit_two_pow_mul]
        have : ¬ m ≤ i := by omega
        simp [this]
    rw [this]
theorem E_lowest (F P : Nat) (S : xSt) (x : Int64) (D : xDt) : f_X11_lowest F P S x D = some (nI (lst (bt x) 64), D) := by
  unfold f_X11_lowest
  rw [E_bitCount]
  show some (nI (cn (bt ((x &&& (-x)) - 1)) 64), D) = _
  rw [cn_congr (fun j hj => low_bits x j hj), cn_lt]
  have := lst_le (bt x) 64
  rw [Nat.min_eq_left this]
theorem E_all {F P : Nat} {D : xDt} {a n : Nat} (h : D.1 a 0 = nI n) (hn : n ≤ 64) : f_X10_all F P xS0 a D = some (mkS (fun j => decide (j < n)), D) := by
  unfold f_X10_all
  rw [h, k64]
  by_cases hc : n < 64
  · rw [if_pos ((nI_ltI (by omega) (by omega)).mpr hc)]
    have : jlshl 1 (nI n) - 1 = mkS (fun j => decide (j < n)) := by
      apply mkS_of
      intro j hj
      have e : jlshl 1 (nI n) = lN (2 ^ n) := by
        apply bt_ext
        intro i hi
        rw [bt_bit hc, bt_lN hi, Nat.testBit_two_pow]
        by_cases h1 : i = n
        · simp [h1]
        · have : ¬ n = i := fun h => h1 h.symm
          simp [h1, this]
      have h1 : 1 ≤ 2 ^ n := Nat.one_le_two_pow
      rw [e, show (1 : Int64) = lN 1 from rfl, lN_sub h1, bt_lN hj, Nat.testBit_two_pow_sub_one]
    rw [this]
  · rw [if_neg (fun c => hc ((nI_ltI (by omega) (by omega)).mp c))]
    have : (-1 : Int64) = mkS (fun j => decide (j < n)) := by
      apply mkS_of
      intro j hj
      have h1 : j < n := by omega
      rw [bt_m1]; simp [hj, h1]
    rw [this]
theorem E_has {F P : Nat} {D : xDt} {a n : Nat} (h : D.1 a 0 = nI n) (hn : n ≤ 64) (x : Int32) : f_X10_has F P xS0 a x D = some (if x < 0 then 0 else if nI n ≤ x then 0 else 1, D) := by
  unfold f_X10_has f_X10_has_16
  rw [h]
  split
  · rfl
  · split <;> rfl
theorem E_cell {F P : Nat} {D : xDt} {a ta ce : Nat} (ho : oW a ta ce) {g w : Nat} (hg : g < 4) (hw : w < 64) : f_X10_cell F P xS0 a (nI g) (nI w) D = some (D.2 ce (g * 64 + w), D) := by
  unfold f_X10_cell
  rw [ho.2.1, ho.2.2.2, k64, nI_mul, nI_add, xgrd_in (by omega) (by omega), nI_clamp (by omega)]
theorem at_bits : ∀ x, x < 256 → ∀ k, k < 8 → nI (x % 2 ^ k) ||| jishl (if x.testBit k = true then 1 else 0) (nI k) = nI (x % 2 ^ (k + 1)) := by decide +kernel
theorem E_atomsOf {F P : Nat} (hF : 1000 < F) {D : xDt} {a ta ce : Nat} (ho : oW a ta ce) {w x : Nat} (hw : w < 64) (hx : x < 256) (hb : ∀ k, k < 8 → bt (D.2 ta k) w = x.testBit k) : f_X10_atomsOf F P xS0 a (nI w) D = some (nI x, D) := by
  unfold f_X10_atomsOf
  refine lpu (W := fun n i (v : Int32) => f_X10_atomsOf_4 F P xS0 n a (nI w) v (nI i) D = some (nI x, D)) (I := fun i v => v = nI (x % 2 ^ i)) 8 ?_ ?_ 8 0 _ F (by omega) (by omega) ?_
  · intro n v hv
    show f_X10_atomsOf_4s F P xS0 (f_X10_atomsOf_4 F P xS0 n) a (nI w) v (nI 8) D = _
    unfold f_X10_atomsOf_4s
    rw [if_pos (by decide), hv, Nat.mod_eq_of_lt hx]
  · intro n i v hi hv hk
    show f_X10_atomsOf_4s F P xS0 (f_X10_atomsOf_4 F P xS0 n) a (nI w) v (nI i) D = _
    unfold f_X10_atomsOf_4s
    rw [k8, if_neg (by rw [nI_leI (by omega) (by omega)]; omega), ho.1, ho.2.2.1, xgrd_in hi (by omega), nI_clamp (by omega), test1i _ hw, hb i hi, hv, at_bits x hx i hi]
    show f_X10_atomsOf_4 F P xS0 n a (nI w) _ (nI i + 1) D = _
    rw [nI_1]
    exact hk _ rfl
  · show (0 : Int32) = _
    rw [Nat.pow_zero, Nat.mod_one]; rfl
