/-! sets of worlds as bits of a long -/
def bt (x : Int64) (j : Nat) : Bool := x.toBitVec.getLsbD j
theorem bt_ext {x y : Int64} (h : ∀ j, j < 64 → bt x j = bt y j) : x = y := Int64.toBitVec_inj.mp (BitVec.eq_of_getLsbD_eq (fun i hi => h i hi))
theorem bt_ge {x : Int64} {j : Nat} (h : 64 ≤ j) : bt x j = false := BitVec.getLsbD_of_ge _ _ h
theorem bt_and (x y : Int64) (j : Nat) : bt (x &&& y) j = (bt x j && bt y j) := by simp [bt]
theorem bt_or (x y : Int64) (j : Nat) : bt (x ||| y) j = (bt x j || bt y j) := by simp [bt]
theorem bt_xor (x y : Int64) (j : Nat) : bt (x ^^^ y) j = (bt x j ^^ bt y j) := by simp [bt]
theorem bt_0 (j : Nat) : bt 0 j = false := by simp [bt]
theorem bt_m1 (j : Nat) : bt (-1) j = decide (j < 64) := by
  by_cases h : j < 64
  · revert h; revert j; decide +kernel
  · rw [bt_ge (by omega)]; simp [h]
theorem bt_not (x : Int64) {j : Nat} (hj : j < 64) : bt (x ^^^ (-1)) j = !bt x j := by rw [bt_xor, bt_m1]; simp [hj]
theorem bt_andn (x y : Int64) (j : Nat) : bt (x &&& (y ^^^ (-1))) j = (bt x j && !bt y j) := by
  by_cases h : j < 64
  · rw [bt_and, bt_not _ h]
  · rw [bt_ge (by omega), bt_ge (x := x) (by omega)]; rfl
theorem sh64 {w : Nat} (hw : w < 64) : ((nI w).toInt64.toUInt64 &&& Int64.toUInt64 63) = UInt64.ofNat w := by
  rw [nI_l (by omega)]
  revert hw
  revert w
  decide +kernel
theorem sh64' {w : Nat} (hw : w < 64) : ((nI w).toInt64 &&& 63) = lN w := by
  rw [nI_l (by omega)]
  revert hw
  revert w
  decide +kernel
theorem bt_ushr (x : Int64) {w : Nat} (hw : w < 64) (j : Nat) : bt (jlushr x (nI w)) j = bt x (w + j) := by
  unfold jlushr bt
  rw [sh64 hw]
  have e : (x.toUInt64 >>> UInt64.ofNat w).toInt64.toBitVec = x.toBitVec >>> w := by
    apply BitVec.eq_of_toNat_eq
    show (x.toUInt64 >>> UInt64.ofNat w).toNat = _
    have h1 : (UInt64.ofNat w).toNat = w := by
      show (BitVec.ofNat 64 w).toNat = w
      rw [BitVec.toNat_ofNat, Nat.mod_eq_of_lt (by omega)]
    rw [UInt64.toNat_shiftRight, h1, Nat.mod_eq_of_lt hw, BitVec.toNat_ushiftRight]
    rfl
  rw [e, BitVec.getLsbD_ushiftRight]
theorem bt_1 (j : Nat) : bt 1 j = decide (j = 0) := by
  by_cases h : j < 64
  · revert h; revert j; decide +kernel
  · rw [bt_ge (by omega)]
    have : ¬ j = 0 := by omega
    simp [this]
theorem bt_shl (x : Int64) {w : Nat} (hw : w < 64) (j : Nat) : bt (jlshl x (nI w)) j = (decide (w ≤ j) && decide (j < 64) && bt x (j - w)) := by
  unfold jlshl bt
  rw [sh64' hw, Int64.toBitVec_shiftLeft]
  have h1 : ((lN w).toBitVec.smod 64).toNat = w := by revert hw; revert w; decide +kernel
  show (x.toBitVec <<< ((lN w).toBitVec.smod 64).toNat).getLsbD j = _
  rw [h1, BitVec.getLsbD_shiftLeft]
  by_cases h : j < 64
  · by_cases h2 : w ≤ j
    · simp [h, h2]
    · simp [h, h2]
  · simp [h]
theorem bt_bit {w : Nat} (hw : w < 64) (j : Nat) : bt (jlshl 1 (nI w)) j = decide (j = w) := by
  rw [bt_shl _ hw, bt_1]
  by_cases h : j = w
  · subst h; simp [hw]
  · simp [h]; omega
theorem ushr1 (x : Int64) {w : Nat} (hw : w < 64) : jlushr x (nI w) &&& 1 = if bt x w then 1 else 0 := by
  apply bt_ext
  intro j hj
  rw [bt_and, bt_ushr x hw, bt_1]
  by_cases h : j = 0
  · subst h
    cases hb : bt x w <;> simp [hb, bt_0, bt_1]
  · cases hb : bt x w <;> simp [h, bt_0, bt_1]
theorem test1 (x : Int64) {w : Nat} (hw : w < 64) : (lg_cmp (jlushr x (nI w) &&& 1) 0 = 0) ↔ bt x w = false := by
  rw [ushr1 x hw]
  cases bt x w <;> simp [lg_cmp] <;> decide
theorem test1' (x : Int64) {w : Nat} (hw : w < 64) : (lg_cmp (jlushr x (nI w) &&& 1) 1 = 0) ↔ bt x w = true := by
  rw [ushr1 x hw]
  cases bt x w <;> simp [lg_cmp] <;> decide
theorem test1i (x : Int64) {w : Nat} (hw : w < 64) : (jlushr x (nI w) &&& 1).toInt32 = if bt x w then 1 else 0 := by
  rw [ushr1 x hw]
  cases bt x w <;> rfl
theorem cmp0 (x y : Int64) : lg_cmp x y = 0 ↔ x = y := by
  unfold lg_cmp
  by_cases h1 : x > y
  · rw [if_pos h1]
    constructor
    · intro h; exact absurd h (by decide)
    · rintro rfl; exact absurd h1 (Int64.lt_irrefl)
  · rw [if_neg h1]
    by_cases h2 : x = y
    · rw [if_pos h2]; simp [h2]
    · rw [if_neg h2]; simp [h2]
/-- the set of those below 64 for which p -/
def mkB (p : Nat → Bool) : Nat → Int64
  | 0 => 0
  | k + 1 => mkB p k ||| (if p k then jlshl 1 (nI k) else 0)
def mkS (p : Nat → Bool) : Int64 := mkB p 64
theorem bt_mkB (p : Nat → Bool) : ∀ k, k ≤ 64 → ∀ j, bt (mkB p k) j = (decide (j < k) && p j)
  | 0, _, j => by simp [mkB, bt_0]
  | k + 1, hk, j => by
    rw [mkB, bt_or, bt_mkB p k (by omega) j]
    by_cases hp : p k = true
    · rw [if_pos hp, bt_bit (by omega)]
      by_cases h : j = k
      · subst h; simp [hp]
      · by_cases h2 : j < k
        · simp [h, h2]; intro h3; omega
        · simp [h, h2]; intro h3; omega
    · rw [if_neg hp, bt_0]
      by_cases h : j = k
      · subst h; simp [hp]
      · by_cases h2 : j < k
        · simp [h2]; intro h3; omega
        · simp [h2]; intro h3; omega
theorem bt_mkS (p : Nat → Bool) (j : Nat) : bt (mkS p) j = (decide (j < 64) && p j) := bt_mkB p 64 (Nat.le_refl _) j
theorem mkS_of {x : Int64} {p : Nat → Bool} (h : ∀ j, j < 64 → bt x j = p j) : x = mkS p := bt_ext (fun j hj => by rw [h j hj, bt_mkS]; simp [hj])
theorem mkS_congr {p q : Nat → Bool} (h : ∀ j, j < 64 → p j = q j) : mkS p = mkS q := mkS_of (fun j hj => by rw [bt_mkS, h j hj]; simp [hj])
theorem mkS_bt (x : Int64) : mkS (bt x) = x := (mkS_of (fun _ _ => rfl)).symm
/-- how many of those below k -/
def cn (p : Nat → Bool) : Nat → Nat
  | 0 => 0
  | k + 1 => cn p k + (p k).toNat
theorem cn_congr {p q : Nat → Bool} : ∀ {k : Nat}, (∀ j, j < k → p j = q j) → cn p k = cn q k
  | 0, _ => rfl
  | k + 1, h => by rw [cn, cn, cn_congr (fun j hj => h j (by omega)), h k (by omega)]
theorem cn_le (p : Nat → Bool) : ∀ k, cn p k ≤ k
  | 0 => Nat.le_refl _
  | k + 1 => by
    have := cn_le p k
    rw [cn]
    cases p k <;> simp <;> omega
theorem cn_lt (m : Nat) : ∀ k, cn (fun j => decide (j < m)) k = min m k
  | 0 => by simp [cn]
  | k + 1 => by
    rw [cn, cn_lt m k]
    by_cases h : k < m
    · simp [h]; omega
    · simp [h]; omega
theorem cn_false : ∀ k, cn (fun _ => false) k = 0
  | 0 => rfl
  | k + 1 => by rw [cn, cn_false k]; rfl
theorem cn_more (p : Nat → Bool) (m : Nat) (hp : ∀ j, m ≤ j → p j = false) : ∀ d, cn p (m + d) = cn p m
  | 0 => rfl
  | d + 1 => by
    show cn p (m + d) + (p (m + d)).toNat = _
    rw [cn_more p m hp d, hp (m + d) (by omega)]; rfl
