/-! Long.bitCount -/
theorem cat_and {a m c n : Nat} (ha : a < 256) (hm : m < 256) : (a + 256 * c) &&& (m + 256 * n) = (a &&& m) + 256 * (c &&& n) := by
  have hx : (a &&& m) < 256 := Nat.lt_of_le_of_lt Nat.and_le_left ha
  apply Nat.eq_of_testBit_eq
  intro j
  rw [Nat.testBit_and, Nat.add_comm a, Nat.add_comm m, Nat.add_comm (a &&& m)]
  rw [show (256 : Nat) = 2 ^ 8 from rfl] at *
  rw [Nat.testBit_two_pow_mul_add _ ha, Nat.testBit_two_pow_mul_add _ hm, Nat.testBit_two_pow_mul_add _ hx]
  by_cases h : j < 8
  · simp [h]
  · simp [h]
def bw : List Nat → Nat
  | [] => 0
  | b :: l => b + 256 * bw l
def bwr (m : Nat) : Nat → Nat
  | 0 => 0
  | k + 1 => m + 256 * bwr m k
theorem bw_1 : ∀ l : List Nat, (∀ b ∈ l, b < 256) → (bw l / 2) &&& bwr 85 l.length = bw (l.map fun b => (b / 2) &&& 85)
  | [], _ => rfl
  | b :: l, h => by
    have hb := h b (List.mem_cons_self ..)
    have e : bw (b :: l) / 2 = (b / 2 + 128 * (bw l % 2)) + 256 * (bw l / 2) := by simp only [bw]; omega
    rw [e]
    show _ &&& (85 + 256 * bwr 85 l.length) = _
    rw [cat_and (by omega) (by omega), bw_1 l (fun x hx => h x (List.mem_cons_of_mem _ hx))]
    rw [(by decide +kernel : ∀ b, b < 256 → ∀ e, e < 2 → (b / 2 + 128 * e) &&& 85 = (b / 2) &&& 85) b hb _ (Nat.mod_lt _ (by omega))]
    rfl
theorem bw_2 : ∀ l : List Nat, (∀ b ∈ l, b < 256) → (bw l / 4) &&& bwr 51 l.length = bw (l.map fun b => (b / 4) &&& 51)
  | [], _ => rfl
  | b :: l, h => by
    have hb := h b (List.mem_cons_self ..)
    have e : bw (b :: l) / 4 = (b / 4 + 64 * (bw l % 4)) + 256 * (bw l / 4) := by simp only [bw]; omega
    rw [e]
    show _ &&& (51 + 256 * bwr 51 l.length) = _
    rw [cat_and (by omega) (by omega), bw_2 l (fun x hx => h x (List.mem_cons_of_mem _ hx))]
    rw [(by decide +kernel : ∀ b, b < 256 → ∀ e, e < 4 → (b / 4 + 64 * e) &&& 51 = (b / 4) &&& 51) b hb _ (Nat.mod_lt _ (by omega))]
    rfl
theorem bw_m (m : Nat) (hm : m < 256) : ∀ l : List Nat, (∀ b ∈ l, b < 256) → bw l &&& bwr m l.length = bw (l.map fun b => b &&& m)
  | [], _ => Nat.zero_and _
  | b :: l, h => by
    show (b + 256 * bw l) &&& (m + 256 * bwr m l.length) = _
    rw [cat_and (h b (List.mem_cons_self ..)) hm, bw_m m hm l (fun x hx => h x (List.mem_cons_of_mem _ hx))]
    rfl
theorem bw_mod : ∀ l : List Nat, (∀ z ∈ l, z % 16 ≤ 4) → bw l % 16 ≤ 4
  | [], _ => by simp [bw]
  | b :: l, h => by
    have := h b (List.mem_cons_self ..)
    simp only [bw]; omega
theorem bw_3 : ∀ l : List Nat, (∀ z ∈ l, z % 16 ≤ 4 ∧ z ≤ 68) → (bw l + bw l / 16) &&& bwr 15 l.length = bw (l.map fun z => (z + z / 16) &&& 15)
  | [], _ => rfl
  | z :: l, h => by
    have hz := h z (List.mem_cons_self ..)
    have hl := bw_mod l (fun x hx => (h x (List.mem_cons_of_mem _ hx)).1)
    have e : bw (z :: l) + bw (z :: l) / 16 = (z + z / 16 + 16 * (bw l % 16)) + 256 * (bw l + bw l / 16) := by simp only [bw]; omega
    rw [e]
    show _ &&& (15 + 256 * bwr 15 l.length) = _
    rw [cat_and (by omega) (by omega), bw_3 l (fun x hx => h x (List.mem_cons_of_mem _ hx))]
    rw [(by decide +kernel : ∀ z, z < 69 → ∀ e, e < 5 → (z + z / 16 + 16 * e) &&& 15 = (z + z / 16) &&& 15) z (by omega) _ (by omega)]
    rfl
theorem bw_sub (f : Nat → Nat) (hf : ∀ b, f b ≤ b) : ∀ l : List Nat, bw l - bw (l.map f) = bw (l.map fun b => b - f b) ∧ bw (l.map f) ≤ bw l
  | [] => ⟨rfl, Nat.le_refl _⟩
  | b :: l => by
    have h1 := bw_sub f hf l
    have h2 := hf b
    simp only [bw, List.map_cons]
    rw [← h1.1]
    omega
theorem bw_add (f g : Nat → Nat) : ∀ l : List Nat, bw (l.map f) + bw (l.map g) = bw (l.map fun b => f b + g b)
  | [] => rfl
  | b :: l => by
    have h1 := bw_add f g l
    simp only [bw, List.map_cons]
    rw [← h1]
    omega
theorem bw_lt : ∀ l : List Nat, (∀ b ∈ l, b < 256) → bw l < 256 ^ l.length
  | [], _ => by simp [bw]
  | b :: l, h => by
    have h1 := bw_lt l (fun x hx => h x (List.mem_cons_of_mem _ hx))
    have h2 := h b (List.mem_cons_self ..)
    simp only [bw, List.length_cons]
    rw [Nat.pow_succ]; omega
theorem cn_cat {b X : Nat} (hb : b < 256) : ∀ k, cn (fun j => (b + 256 * X).testBit j) (8 + k) = cn (fun j => b.testBit j) 8 + cn (fun j => X.testBit j) k
  | 0 => by
    apply cn_congr
    intro j hj
    rw [Nat.add_comm b, show (256 : Nat) = 2 ^ 8 from rfl, Nat.testBit_two_pow_mul_add _ hb]
    simp [hj]
  | k + 1 => by
    have h8 : (b + 256 * X).testBit (8 + k) = X.testBit k := by
      rw [Nat.add_comm b, show (256 : Nat) = 2 ^ 8 from rfl, Nat.testBit_two_pow_mul_add _ hb, if_neg (by omega), Nat.add_sub_cancel_left]
    show cn (fun j => (b + 256 * X).testBit j) (8 + k) + ((b + 256 * X).testBit (8 + k)).toNat = _ + (cn (fun j => X.testBit j) k + (X.testBit k).toNat)
    rw [cn_cat hb k, h8, Nat.add_assoc]
def pc8 (b : Nat) : Nat := cn (fun j => b.testBit j) 8
theorem pc8_s : ∀ b, b < 256 → ((b - ((b / 2) &&& 85)) &&& 51) + (((b - ((b / 2) &&& 85)) / 4) &&& 51) < 69 ∧ (((b - ((b / 2) &&& 85)) &&& 51) + (((b - ((b / 2) &&& 85)) / 4) &&& 51)) % 16 ≤ 4 ∧ ((((b - ((b / 2) &&& 85)) &&& 51) + (((b - ((b / 2) &&& 85)) / 4) &&& 51)) + (((b - ((b / 2) &&& 85)) &&& 51) + (((b - ((b / 2) &&& 85)) / 4) &&& 51)) / 16) &&& 15 = pc8 b ∧ pc8 b ≤ 8 := by decide +kernel
theorem swar {l : List Nat} (h : ∀ b ∈ l, b < 256) :
    (((bw l - ((bw l / 2) &&& bwr 85 l.length)) &&& bwr 51 l.length) + (((bw l - ((bw l / 2) &&& bwr 85 l.length)) / 4) &&& bwr 51 l.length)
     + (((bw l - ((bw l / 2) &&& bwr 85 l.length)) &&& bwr 51 l.length) + (((bw l - ((bw l / 2) &&& bwr 85 l.length)) / 4) &&& bwr 51 l.length)) / 16) &&& bwr 15 l.length = bw (l.map pc8) := by
  rw [bw_1 l h, (bw_sub (fun b => (b / 2) &&& 85) (fun b => Nat.le_trans Nat.and_le_left (Nat.div_le_self _ _)) l).1]
  have e1 : ∀ b ∈ (l.map fun b => b - ((b / 2) &&& 85)), b < 256 := by
    intro b hb
    obtain ⟨x, hx, rfl⟩ := List.mem_map.mp hb
    have := h x hx; omega
  have el : l.length = (l.map fun b => b - ((b / 2) &&& 85)).length := by simp
  rw [el, bw_2 _ e1, bw_m 51 (by omega) _ e1, bw_add]
  rw [List.map_map]
  have el2 : (l.map fun b => b - ((b / 2) &&& 85)).length = (l.map ((fun b => (b &&& 51) + ((b / 4) &&& 51)) ∘ fun b => b - ((b / 2) &&& 85))).length := by simp
  rw [el2, bw_3]
  · rw [List.map_map]
    congr 1
    apply List.map_congr_left
    intro b hb
    exact (pc8_s b (h b hb)).2.2.1
  · intro z hz
    obtain ⟨x, hx, rfl⟩ := List.mem_map.mp hz
    have := pc8_s x (h x hx)
    exact ⟨this.2.1, Nat.le_of_lt_succ this.1⟩
theorem wb_inj {a b : Int64} (h : a.toBitVec = b.toBitVec) : a = b := Int64.toBitVec_inj.mp h
theorem wb_tb (n : Nat) : (lN n).toBitVec = BitVec.ofNat 64 n := rfl
theorem wb_tn {n : Nat} (h : n < 2 ^ 64) : (lN n).toBitVec.toNat = n := by rw [wb_tb, BitVec.toNat_ofNat, Nat.mod_eq_of_lt h]
theorem wb_of (x : Int64) : ∃ n, n < 2 ^ 64 ∧ x = lN n := ⟨x.toBitVec.toNat, x.toBitVec.isLt, wb_inj (by rw [wb_tb]; simp)⟩
theorem wb_shr {n k : Nat} (hn : n < 2 ^ 64) (hk : k < 64) : jlushr (lN n) (nI k) = lN (n / 2 ^ k) := by
  unfold jlushr
  rw [sh64 hk]
  apply wb_inj
  apply BitVec.eq_of_toNat_eq
  show ((lN n).toUInt64 >>> UInt64.ofNat k).toNat = (BitVec.ofNat 64 _).toNat
  have h1 : (UInt64.ofNat k).toNat = k := by
    show (BitVec.ofNat 64 k).toNat = k
    rw [BitVec.toNat_ofNat, Nat.mod_eq_of_lt (by omega)]
  have h2 : (lN n).toUInt64.toNat = n := wb_tn hn
  rw [UInt64.toNat_shiftRight, h1, h2, Nat.mod_eq_of_lt hk, Nat.shiftRight_eq_div_pow, BitVec.toNat_ofNat, Nat.mod_eq_of_lt (Nat.lt_of_le_of_lt (Nat.div_le_self _ _) hn)]
theorem wb_and {a b : Nat} (ha : a < 2 ^ 64) (hb : b < 2 ^ 64) : lN a &&& lN b = lN (a &&& b) := by
  apply wb_inj
  rw [Int64.toBitVec_and, wb_tb, wb_tb, wb_tb]
  apply BitVec.eq_of_toNat_eq
  rw [BitVec.toNat_and, BitVec.toNat_ofNat, BitVec.toNat_ofNat, BitVec.toNat_ofNat, Nat.mod_eq_of_lt ha, Nat.mod_eq_of_lt hb, Nat.mod_eq_of_lt (Nat.and_lt_two_pow _ hb)]
theorem bt_lN {n : Nat} {j : Nat} (hj : j < 64) : bt (lN n) j = n.testBit j := by
  unfold bt
  rw [wb_tb, BitVec.getLsbD_ofNat]; simp [hj]
theorem bw_of (n : Nat) (h : n < 2 ^ 64) : ∃ b0 b1 b2 b3 b4 b5 b6 b7 : Nat, n = bw [b0, b1, b2, b3, b4, b5, b6, b7] ∧ (∀ b ∈ [b0, b1, b2, b3, b4, b5, b6, b7], b < 256) := by
  refine ⟨n % 256, n / 256 % 256, n / 65536 % 256, n / 16777216 % 256, n / 4294967296 % 256, n / 1099511627776 % 256, n / 281474976710656 % 256, n / 72057594037927936, ?_, ?_⟩
  · simp only [bw]; omega
  · intro b hb
    simp only [List.mem_cons, List.not_mem_nil, or_false] at hb
    rcases hb with rfl | rfl | rfl | rfl | rfl | rfl | rfl | rfl <;> omega
theorem cn_bw : ∀ l : List Nat, (∀ b ∈ l, b < 256) → cn (fun j => (bw l).testBit j) (8 * l.length) = (l.map pc8).sum
  | [], _ => rfl
  | b :: l, h => by
    have e : 8 * (b :: l).length = 8 + 8 * l.length := by simp only [List.length_cons]; omega
    rw [e]
    show cn (fun j => (b + 256 * bw l).testBit j) _ = _
    rw [cn_cat (h b (List.mem_cons_self ..)), cn_bw l (fun x hx => h x (List.mem_cons_of_mem _ hx))]
    rfl
theorem nI_m127 {n : Nat} : (lN n).toInt32 &&& 127 = nI (n % 128) := by
  rw [lN_i]
  apply Int32.toBitVec_inj.mp
  rw [Int32.toBitVec_and]
  show BitVec.ofNat 32 n &&& BitVec.ofNat 32 127 = BitVec.ofNat 32 (n % 128)
  apply BitVec.eq_of_toNat_eq
  rw [BitVec.toNat_and, BitVec.toNat_ofNat, BitVec.toNat_ofNat, BitVec.toNat_ofNat]
  rw [show (127 : Nat) % 2 ^ 32 = 2 ^ 7 - 1 from rfl, Nat.and_two_pow_sub_one_eq_mod]
  omega
theorem bc1 {n : Nat} (hn : n < 2 ^ 64) : lN n - (jlushr (lN n) 1 &&& 6148914691236517205) = lN (n - ((n / 2) &&& 6148914691236517205)) := by
  have a1 : (n / 2) &&& 6148914691236517205 ≤ n := Nat.le_trans Nat.and_le_left (Nat.div_le_self _ _)
  have e := wb_shr hn (show 1 < 64 by omega)
  rw [show (jlushr (lN n) 1) = lN (n / 2) from e, show (6148914691236517205 : Int64) = lN 6148914691236517205 from rfl, wb_and (by omega) (by omega), lN_sub a1]
theorem bc2 {y : Nat} (hy : y < 2 ^ 64) : (lN y &&& 3689348814741910323) + (jlushr (lN y) 2 &&& 3689348814741910323) = lN ((y &&& 3689348814741910323) + ((y / 4) &&& 3689348814741910323)) := by
  have e := wb_shr hy (show 2 < 64 by omega)
  rw [show (jlushr (lN y) 2) = lN (y / 4) from e, show (3689348814741910323 : Int64) = lN 3689348814741910323 from rfl, wb_and (by omega) (by omega), wb_and (by omega) (by omega), lN_add]
theorem bc3 {z : Nat} (hz : z < 2 ^ 63) : (lN z + jlushr (lN z) 4) &&& 1085102592571150095 = lN ((z + z / 16) &&& 1085102592571150095) := by
  have e := wb_shr (show z < 2 ^ 64 by omega) (show 4 < 64 by omega)
  rw [show (jlushr (lN z) 4) = lN (z / 16) from e, show (1085102592571150095 : Int64) = lN 1085102592571150095 from rfl, lN_add, wb_and (by omega) (by omega)]
theorem bc4 {v : Nat} (hv : v < 2 ^ 64) : lN v + jlushr (lN v) 8 = lN (v + v / 256) := by
  have e := wb_shr hv (show 8 < 64 by omega)
  rw [show (jlushr (lN v) 8) = lN (v / 256) from e, lN_add]
theorem bc5 {v : Nat} (hv : v < 2 ^ 64) : lN v + jlushr (lN v) 16 = lN (v + v / 65536) := by
  have e := wb_shr hv (show 16 < 64 by omega)
  rw [show (jlushr (lN v) 16) = lN (v / 65536) from e, lN_add]
theorem bc6 {v : Nat} (hv : v < 2 ^ 64) : lN v + jlushr (lN v) 32 = lN (v + v / 4294967296) := by
  have e := wb_shr hv (show 32 < 64 by omega)
  rw [show (jlushr (lN v) 32) = lN (v / 4294967296) from e, lN_add]
theorem fin8 {c0 c1 c2 c3 c4 c5 c6 c7 V : Nat} (k0 : c0 ≤ 8) (k1 : c1 ≤ 8) (k2 : c2 ≤ 8) (k3 : c3 ≤ 8) (k4 : c4 ≤ 8) (k5 : c5 ≤ 8) (k6 : c6 ≤ 8) (k7 : c7 ≤ 8) (hV : V = bw [c0, c1, c2, c3, c4, c5, c6, c7]) : V < 2 ^ 64 ∧ V + V / 256 < 2 ^ 64 ∧ (V + V / 256) + (V + V / 256) / 65536 < 2 ^ 64 ∧ (((V + V / 256) + (V + V / 256) / 65536) + ((V + V / 256) + (V + V / 256) / 65536) / 4294967296) % 128 = c0 + c1 + c2 + c3 + c4 + c5 + c6 + c7 := by
  obtain ⟨Y6, h6⟩ : ∃ Y, Y = c6 + 256 * c7 := ⟨_, rfl⟩
  obtain ⟨Y5, h5⟩ : ∃ Y, Y = c5 + 256 * Y6 := ⟨_, rfl⟩
  obtain ⟨Y4, h4⟩ : ∃ Y, Y = c4 + 256 * Y5 := ⟨_, rfl⟩
  obtain ⟨Y3, h3⟩ : ∃ Y, Y = c3 + 256 * Y4 := ⟨_, rfl⟩
  obtain ⟨Y2, h2⟩ : ∃ Y, Y = c2 + 256 * Y3 := ⟨_, rfl⟩
  obtain ⟨Y1, h1⟩ : ∃ Y, Y = c1 + 256 * Y2 := ⟨_, rfl⟩
  have hV2 : V = c0 + 256 * Y1 := by
    rw [hV, h1, h2, h3, h4, h5, h6]; simp only [bw, Nat.mul_zero, Nat.add_zero]
  clear hV
  have b6 : Y6 ≤ 2056 := by omega
  have b5 : Y5 ≤ 526344 := by omega
  have b4 : Y4 ≤ 134744072 := by omega
  have b3 : Y3 ≤ 34494482440 := by omega
  have b2 : Y2 ≤ 8830587504648 := by omega
  have b1 : Y1 ≤ 2260630401189896 := by omega
  have d1 : V / 256 = Y1 := by clear h1 h2 h3 h4 h5 h6 b1 b2 b3 b4 b5 b6; omega
  rw [d1]
  have e4 : V + Y1 = (c0 + c1 + 256 * (c1 + c2)) + 65536 * (Y2 + Y3) := by clear h3 h4 h5 h6 b1 b2 b3 b4 b5 b6 d1; omega
  have d4 : (V + Y1) / 65536 = Y2 + Y3 := by rw [e4]; clear h1 h2 h3 h4 h5 h6 b1 b2 b3 b4 b5 b6 d1 e4 hV2; omega
  rw [d4]
  have e5 : Y2 + Y3 = (c2 + c3 + 256 * (c3 + c4)) + 65536 * (Y4 + Y5) := by clear h1 h5 h6 b1 b2 b3 b4 b5 b6 d1 e4 d4 hV2; omega
  have e6 : Y4 + Y5 = (c4 + c5 + 256 * (c5 + c6)) + 65536 * (Y6 + c7) := by clear h1 h2 h3 b1 b2 b3 b4 b5 b6 d1 e4 d4 e5 hV2; omega
  have e7 : V + Y1 + (Y2 + Y3) = (c0 + c1 + 256 * (c1 + c2)) + (c2 + c3 + 256 * (c3 + c4)) + 65536 * ((c2 + c3 + 256 * (c3 + c4)) + (c4 + c5 + 256 * (c5 + c6))) + 4294967296 * ((Y4 + Y5) + (Y6 + c7)) := by rw [e4]; clear h1 h2 h3 h4 h5 h6 b1 b2 b3 b4 b5 b6 d1 e4 d4 hV2; omega
  have d7 : (V + Y1 + (Y2 + Y3)) / 4294967296 = (Y4 + Y5) + (Y6 + c7) := by rw [e7]; clear h1 h2 h3 h4 h5 h6 b1 b2 b3 b4 b5 b6 d1 e4 d4 e5 e6 e7 hV2; omega
  rw [d7]
  refine ⟨by clear d1 e4 d4 e5 e6 e7 d7; omega, by clear d1 e4 d4 e5 e6 e7 d7; omega, by clear d1 e4 d4 e5 e6 e7 d7; omega, ?_⟩
  rw [e7, e6, h6]
  clear h1 h2 h3 h4 h5 b1 b2 b3 b4 b5 b6 d1 e4 d4 e5 e7 d7 hV2 e6 h6
  omega
theorem E_bitCount (F P : Nat) (S : xSt) (x : Int64) (D : xDt) : f_J13_bitCount_95d88 F P S x D = some (nI (cn (bt x) 64), D) := by
  obtain ⟨n, hn, rfl⟩ := wb_of x
  obtain ⟨b0, b1, b2, b3, b4, b5, b6, b7, e, hb⟩ := bw_of n hn
  have hc : cn (bt (lN n)) 64 = pc8 b0 + pc8 b1 + pc8 b2 + pc8 b3 + pc8 b4 + pc8 b5 + pc8 b6 + pc8 b7 := by
    rw [cn_congr (q := fun j => n.testBit j) (fun j hj => bt_lN hj), e]
    have h := cn_bw [b0, b1, b2, b3, b4, b5, b6, b7] hb
    simp only [List.map_cons, List.map_nil, List.sum_cons, List.sum_nil, List.length_cons, List.length_nil] at h
    rw [h]; omega
  have hs := swar hb
  rw [← e] at hs
  simp only [List.length_cons, List.length_nil] at hs
  have w85 : bwr 85 (0 + 1 + 1 + 1 + 1 + 1 + 1 + 1 + 1) = 6148914691236517205 := by decide +kernel
  have w51 : bwr 51 (0 + 1 + 1 + 1 + 1 + 1 + 1 + 1 + 1) = 3689348814741910323 := by decide +kernel
  have w15 : bwr 15 (0 + 1 + 1 + 1 + 1 + 1 + 1 + 1 + 1) = 1085102592571150095 := by decide +kernel
  rw [w85, w51, w15] at hs
  have hf := fin8 (pc8_s b0 (hb b0 (by simp))).2.2.2 (pc8_s b1 (hb b1 (by simp))).2.2.2 (pc8_s b2 (hb b2 (by simp))).2.2.2 (pc8_s b3 (hb b3 (by simp))).2.2.2 (pc8_s b4 (hb b4 (by simp))).2.2.2 (pc8_s b5 (hb b5 (by simp))).2.2.2 (pc8_s b6 (hb b6 (by simp))).2.2.2 (pc8_s b7 (hb b7 (by simp))).2.2.2 (V := bw (List.map pc8 [b0, b1, b2, b3, b4, b5, b6, b7])) rfl
  have hy : n - ((n / 2) &&& 6148914691236517205) < 2 ^ 64 := by omega
  have hz : (n - ((n / 2) &&& 6148914691236517205) &&& 3689348814741910323) + (((n - ((n / 2) &&& 6148914691236517205)) / 4) &&& 3689348814741910323) < 2 ^ 63 := by
    have hz1 : (n - ((n / 2) &&& 6148914691236517205) &&& 3689348814741910323) ≤ 3689348814741910323 := Nat.and_le_right
    have hz2 : (((n - ((n / 2) &&& 6148914691236517205)) / 4) &&& 3689348814741910323) ≤ 3689348814741910323 := Nat.and_le_right
    omega
  unfold f_J13_bitCount_95d88
  simp only [xlet]
  rw [bc1 hn, bc2 hy, bc3 hz, hs, bc4 hf.1, bc5 hf.2.1, bc6 hf.2.2.1, nI_m127, hf.2.2.2, hc]
