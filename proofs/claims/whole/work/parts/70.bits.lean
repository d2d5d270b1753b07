/-! sets of worlds as bits of a long -/
def bt (x : Int64) (j : Nat) : Bool := x.toBitVec.getLsbD j
theorem bt_ext {x y : Int64} (h : ∀ j, j < 64 → bt x j = bt y j) : x = y := Int64.toBitVec_inj.mp (BitVec.eq_of_getLsbD_eq (fun i hi => h i hi))
theorem bt_ge {x : Int64} {j : Nat} (h : 64 ≤ j) : bt x j = false := BitVec.getLsbD_of_ge _ _ h
theorem bt_and (x y : Int64) (j : Nat) : bt (x &&& y) j = (bt x j && bt y j) := by simp [bt]
theorem bt_or (x y : Int64) (j : Nat) : bt (x ||| y) j = (bt x j || bt y j) := by simp [bt]
theorem bt_xor (x y : Int64) (j : Nat) : bt (x ^^^ y) j = (bt x j ^^ bt y j) := by simp [bt]
theorem bt_0 (j : Nat) : bt 0 j = false := by simp [bt]
theorem bt_m1 (j : Nat) : bt (-1) j = decide (j < 64) := by
  by_cases h : j < 64
  · revert h; revert j; decide +kernel
  · rw [bt_ge (by omega)]; simp [h]
theorem bt_not (x : Int64) {j : Nat} (hj : j < 64) : bt (x ^^^ (-1)) j = !bt x j := by rw [bt_xor, bt_m1]; simp [hj]
theorem sh64 {w : Nat} (hw : w < 64) : ((nI w).toInt64.toUInt64 &&& Int64.toUInt64 63) = UInt64.ofNat w := by
  rw [nI_l (by omega)]
  revert hw
  revert w
  decide +kernel
theorem sh64' {w : Nat} (hw : w < 64) : ((nI w).toInt64 &&& 63) = lN w := by
  rw [nI_l (by omega)]
  revert hw
  revert w
  decide +kernel
theorem bt_ushr (x : Int64) {w : Nat} (hw : w < 64) (j : Nat) : bt (jlushr x (nI w)) j = bt x (w + j) := by
  unfold jlushr bt
  rw [sh64 hw]
  sorry
theorem bt_1 (j : Nat) : bt 1 j = decide (j = 0) := by
  by_cases h : j < 64
  · revert h; revert j; decide +kernel
  · rw [bt_ge (by omega)]
    have : ¬ j = 0 := by omega
    simp [this]
theorem bt_bit {w : Nat} (hw : w < 64) (j : Nat) : bt (jlshl 1 (nI w)) j = decide (j = w) := by
  unfold jlshl
  rw [sh64' hw]
  by_cases h : j < 64
  · exact (by decide +kernel : ∀ w, w < 64 → ∀ j, j < 64 → bt (1 <<< lN w) j = decide (j = w)) w hw j h
  · rw [bt_ge (by omega)]
    have : ¬ j = w := by omega
    simp [this]
theorem ushr1 (x : Int64) {w : Nat} (hw : w < 64) : jlushr x (nI w) &&& 1 = if bt x w then 1 else 0 := by
  apply bt_ext
  intro j hj
  rw [bt_and, bt_ushr x hw, bt_1]
  by_cases h : j = 0
  · subst h
    cases hb : bt x w <;> simp [hb, bt_0, bt_1]
  · cases hb : bt x w <;> simp [h, bt_0, bt_1]
theorem test1 (x : Int64) {w : Nat} (hw : w < 64) : (lg_cmp (jlushr x (nI w) &&& 1) 0 = 0) ↔ bt x w = false := by
  rw [ushr1 x hw]
  cases bt x w <;> simp [lg_cmp] <;> decide
theorem test1i (x : Int64) {w : Nat} (hw : w < 64) : (jlushr x (nI w) &&& 1).toInt32 = if bt x w then 1 else 0 := by
  rw [ushr1 x hw]
  cases bt x w <;> rfl
