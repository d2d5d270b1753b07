/-! bits of an int -/
def bi (x : Int32) (i : Nat) : Bool := x.toBitVec.getLsbD i
theorem bi_ext {x y : Int32} (h : ∀ i, i < 32 → bi x i = bi y i) : x = y := Int32.toBitVec_inj.mp (BitVec.eq_of_getLsbD_eq (fun i hi => h i hi))
theorem bi_and (x y : Int32) (i : Nat) : bi (x &&& y) i = (bi x i && bi y i) := by simp [bi]
theorem bi_big {x : Int32} {i : Nat} (h : 32 ≤ i) : bi x i = false := BitVec.getLsbD_of_ge _ _ h
theorem bi_255 (i : Nat) : bi 255 i = decide (i < 8) := by
  by_cases h : i < 32
  · revert h; revert i; decide +kernel
  · rw [bi_big (by omega)]
    have : ¬ i < 8 := by omega
    simp [this]
theorem si_l : ∀ n, n < 32 → ((nI n &&& 31).toBitVec.smod 32).toNat = n := by decide +kernel
theorem si_u : ∀ n, n < 32 → (((nI n).toUInt32 &&& Int32.toUInt32 31).toBitVec % 32).toNat = n := by decide +kernel
theorem bi_ushr (n : Nat) (hn : n < 32) (x : Int32) (i : Nat) : bi (jiushr x (nI n)) i = bi x (n + i) := by
  show (x.toUInt32 >>> ((nI n).toUInt32 &&& Int32.toUInt32 31)).toBitVec.getLsbD i = x.toUInt32.toBitVec.getLsbD (n + i)
  rw [UInt32.toBitVec_shiftRight]
  show (x.toUInt32.toBitVec >>> (((nI n).toUInt32 &&& Int32.toUInt32 31).toBitVec % 32).toNat).getLsbD i = _
  rw [si_u n hn, BitVec.getLsbD_ushiftRight]
theorem bi_sshr (n : Nat) (hn : n < 32) (x : Int32) {i : Nat} (hi : i < 32) : bi (jishr x (nI n)) i = if n + i < 32 then bi x (n + i) else bi x 31 := by
  unfold jishr bi
  rw [Int32.toBitVec_shiftRight]
  show (x.toBitVec.sshiftRight ((nI n &&& 31).toBitVec.smod 32).toNat).getLsbD i = _
  rw [si_l n hn, BitVec.getLsbD_sshiftRight, BitVec.msb_eq_getLsbD_last]
  simp [hi]
theorem by_same (x : Int32) {s : Nat} (hs : s ≤ 24) : jiushr x (nI s) &&& 255 = jishr x (nI s) &&& 255 := by
  apply bi_ext
  intro i hi
  rw [bi_and, bi_and, bi_ushr _ (by omega), bi_sshr _ (by omega) _ hi, bi_255]
  by_cases h : i < 8
  · rw [if_pos (by omega)]
  · simp [h]
theorem and255 (y : Int32) : ∃ b, b < 256 ∧ y &&& 255 = nI b := by
  refine ⟨y.toBitVec.toNat % 256, Nat.mod_lt _ (by omega), ?_⟩
  apply Int32.toBitVec_inj.mp
  rw [Int32.toBitVec_and]
  show y.toBitVec &&& BitVec.ofNat 32 255 = BitVec.ofNat 32 (y.toBitVec.toNat % 256)
  apply BitVec.eq_of_toNat_eq
  rw [BitVec.toNat_and, BitVec.toNat_ofNat, BitVec.toNat_ofNat, show (255 : Nat) % 2 ^ 32 = 2 ^ 8 - 1 from rfl, Nat.and_two_pow_sub_one_eq_mod]
  have := y.toBitVec.isLt
  omega
theorem by_b {y : Int32} {b : Nat} (hb : b < 128) (h : y &&& 255 = nI b) : ji2b (ji2b y) = nI b := by
  have h0 : y.toBitVec.toNat % 256 = b := by
    have h1 := congrArg (fun z : Int32 => z.toBitVec.toNat) h
    rw [Int32.toBitVec_and, BitVec.toNat_and] at h1
    have h2 : (Int32.toBitVec 255).toNat = 2 ^ 8 - 1 := rfl
    have h3 : (nI b).toBitVec.toNat = b := by
      show (BitVec.ofNat 32 b).toNat = b
      rw [BitVec.toNat_ofNat, Nat.mod_eq_of_lt (by omega)]
    rw [h2, h3, Nat.and_two_pow_sub_one_eq_mod] at h1
    exact h1
  have h4 : y.toInt8 = Int8.ofNat b := by
    apply Int8.toBitVec_inj.mp
    apply BitVec.eq_of_toNat_eq
    show (BitVec.signExtend 8 y.toBitVec).toNat = (BitVec.ofNat 8 b).toNat
    rw [BitVec.signExtend_eq_setWidth_of_le _ (by omega), BitVec.toNat_setWidth, BitVec.toNat_ofNat]
    omega
  unfold ji2b
  rw [h4]
  exact (by decide +kernel : ∀ b, b < 128 → ((Int8.ofNat b).toInt32.toInt8).toInt32 = nI b) b hb
theorem by_c : ∀ b, b < 128 → ji2c (ji2c (nI b)) = nI b := by decide +kernel
theorem by_b2 : ∀ b, b < 128 → ji2b (ji2b (nI b)) = nI b := by decide +kernel
/-! type, four -/
theorem E_isSign {F P : Nat} {S : xSt} {D : xDt} (x : Int32) : f_X6_isSign F P S x D = some (if x < 32 then 0 else if 126 < x then 0 else 1, D) := by
  unfold f_X6_isSign f_X6_isSign_16
  split
  · rfl
  · split <;> rfl
theorem sgn_1 {b : Nat} (h1 : 32 ≤ b) (h2 : b ≤ 126) : (if nI b < 32 then (0 : Int32) else if 126 < nI b then 0 else 1) = 1 := by
  rw [if_neg (show ¬ nI b < 32 from fun c => by have := (nI_ltI (b := 32) (by omega) (by omega)).mp c; omega), if_neg (show ¬ 126 < nI b from fun c => by have := (nI_ltI (a := 126) (by omega) (by omega)).mp c; omega)]
theorem sgn_0 {x : Int32} (h : x < 32 ∨ 126 < x) : (if x < 32 then (0 : Int32) else if 126 < x then 0 else 1) = 0 := by
  by_cases c : x < 32
  · rw [if_pos c]
  · rw [if_neg c, if_pos (h.resolve_left c)]
theorem sg_in (x : Int32) : (∃ b, 32 ≤ b ∧ b ≤ 126 ∧ x = nI b) ∨ (x < 32 ∨ 126 < x) := by
  rcases i_cases x with h | ⟨j, hj, rfl⟩
  · exact Or.inr (Or.inl (neg_lt (j := 32) h (by omega)))
  · by_cases h1 : j < 32
    · exact Or.inr (Or.inl ((nI_ltI (b := 32) (by omega) (by omega)).mpr h1))
    · by_cases h2 : 126 < j
      · exact Or.inr (Or.inr ((nI_ltI (a := 126) (by omega) (by omega)).mpr h2))
      · exact Or.inl ⟨j, by omega, by omega, rfl⟩
/-- one sign more, in the class -/
theorem E_collect {F P : Nat} {D : xDt} {n b : Nat} (h : D.1 192 1 = nI n) (hn : n < 200) (h1 : 32 ≤ b) (h2 : b ≤ 126) : f_X6_collect F P xS0 192 (nI b) D = some (nI (n + 1), (xup (xup D.1 192 1 (nI (n + 1))) 193 n (nI b), D.2)) := by
  rw [e_X6_collect, E_isSign, sgn_1 h1 h2, Option.bind_some, if_neg (show ¬ (1 : Int32) = 0 by decide), h, if_pos (show nI n < 200 from (nI_ltI (b := 200) (by omega) (by omega)).mpr hn), nI_1]
  simp only [xlet]
  rw [xgrd_in (by omega) (by omega), nI_clamp (by omega), by_c b (by omega), xup_na _ _ _ _ _ (show 192 ≠ 193 by omega), xup_at]
/-- the cells behind one sign more, in both -/
def sD (D : xDt) (n b : Nat) : xDt := (xup (xup D.1 192 1 (nI (n + 1))) 193 n (nI b), D.2)
def sM (D : xDt) (n b : Nat) : xDt := (xup (xup D.1 252 n (nI b)) 241 16 (nI (n + 1)), D.2)
theorem tkAt_more {f g : Nat → Int32} {l : List Nat} {b : Nat} (h : tkAt f 0 l) (h1 : ∀ i, i < l.length → g i = f i) (h2 : g l.length = nI b) : tkAt g 0 (l ++ [b]) := by
  rw [tkAt_app]
  refine ⟨tkAt_congr (fun i hi => by rw [Nat.zero_add]; exact h1 i hi) h, ?_⟩
  intro i hi
  have : i = 0 := by simp at hi; exact hi
  subst this
  rw [Nat.zero_add]
  exact h2
/-- the signs in each -/
def sC (D : xDt) (l : List Nat) : Prop := l.length ≤ 200 ∧ (∀ x, x ∈ l → 32 ≤ x ∧ x ≤ 126) ∧ D.1 192 1 = nI l.length ∧ tkAt (D.1 193) 0 l
def sR (D : xDt) (l : List Nat) : Prop := l.length ≤ 200 ∧ D.1 241 16 = nI l.length ∧ tkAt (D.1 252) 0 l
theorem sC_more {D : xDt} {l : List Nat} {b : Nat} (h : sC D l) (hl : l.length < 200) (h1 : 32 ≤ b) (h2 : b ≤ 126) : sC (sD D l.length b) (l ++ [b]) := by
  obtain ⟨a1, a2, a3, a4⟩ := h
  refine ⟨by simp; omega, ?_, ?_, ?_⟩
  · intro x hx
    rcases List.mem_append.mp hx with c | c
    · exact a2 x c
    · simp at c; omega
  · unfold sD
    dsimp only
    rw [xup_na _ _ _ _ _ (by omega), xup_at, List.length_append]; rfl
  · refine tkAt_more a4 (fun i hi => ?_) ?_
    · unfold sD
      dsimp only
      rw [xup_nk _ _ _ _ _ (by omega), xup_na _ _ _ _ _ (by omega)]
    · unfold sD
      dsimp only
      rw [xup_at]
theorem sR_more {D : xDt} {l : List Nat} {b : Nat} (h : sR D l) (hl : l.length < 200) : sR (sM D l.length b) (l ++ [b]) := by
  obtain ⟨a1, a3, a4⟩ := h
  refine ⟨by simp; omega, ?_, ?_⟩
  · unfold sM
    dsimp only
    rw [xup_at, List.length_append]; rfl
  · refine tkAt_more a4 (fun i hi => ?_) ?_
    · unfold sM
      dsimp only
      rw [xup_na _ _ _ _ _ (by omega), xup_nk _ _ _ _ _ (by omega)]
    · unfold sM
      dsimp only
      rw [xup_na _ _ _ _ _ (by omega), xup_at]
theorem sC_ch {D : xDt} {n b : Nat} : ch [192, 193] [] D (sD D n b) ∧ ∀ j, j ≠ 1 → (sD D n b).1 192 j = D.1 192 j := by
  unfold sD
  refine ⟨ch_i (D' := (xup D.1 192 1 (nI (n + 1)), D.2)) (by simp) (ch_i (by simp) (ch_rfl _ _ _)), fun j hj => ?_⟩
  dsimp only
  rw [xup_na _ _ _ _ _ (by omega), xup_nk _ _ _ _ _ hj]
theorem sM_ch {D : xDt} {n b : Nat} : ch [241, 252] [] D (sM D n b) ∧ ∀ j, j ≠ 16 → (sM D n b).1 241 j = D.1 241 j := by
  unfold sM
  refine ⟨ch_i (D' := (xup D.1 252 n (nI b), D.2)) (by simp) (ch_i (by simp) (ch_rfl _ _ _)), fun j hj => ?_⟩
  dsimp only
  rw [xup_nk _ _ _ _ _ hj, xup_na _ _ _ _ _ (by omega)]
theorem Iv_signs {dA : T → Nat → Int32} {D D1 D2 : xDt} (h : Iv dA D) {l : List Nat} (c1 : ch [192, 193] [] D D1) (c2 : ch [241, 252] [] D1 D2) (hj : ∀ j, j ≠ 16 → D2.1 241 j = D1.1 241 j) (hC : sC D1 l) (hR : sR D2 l) : Iv dA D2 := by
  obtain ⟨W, L, t, E, sg, tx, a1, a2, a3, a4, a5, a6, a7, a8⟩ := h
  have q : ∀ x, x ≠ 192 → x ≠ 193 → x ≠ 241 → x ≠ 252 → D2.1 x = D.1 x := fun x h1 h2 h3 h4 => by rw [c2.1 x (by simp; omega), c1.1 x (by simp; omega)]
  have q2 : ∀ x, D2.2 x = D.2 x := fun x => by rw [c2.2 x (by simp), c1.2 x (by simp)]
  have q3 : ∀ j, j ≠ 16 → D2.1 241 j = D.1 241 j := fun j h => by rw [hj j h, c1.1 241 (by decide)]
  refine ⟨W, L, t, E, l, tx, ?_, ?_, ?_, ?_, ⟨hC.1, hC.2.1, ?_, ?_, hR.2.1, hR.2.2⟩, ?_, ?_, ?_⟩
  · exact iW_congr (congrFun (q 1 (by omega) (by omega) (by omega) (by omega)) 0) (q2 2) (q2 3) (q3 1 (by omega)) (q 242 (by omega) (by omega) (by omega) (by omega)) (q 243 (by omega) (by omega) (by omega) (by omega)) a1
  · exact iK_congr (q 4 (by omega) (by omega) (by omega) (by omega)) (q3 7 (by omega)) (fun x hx hx2 => ⟨q x (by omega) (by omega) (by omega) (by omega), q2 x⟩) (fun x hx hx2 => q x (by omega) (by omega) (by omega) (by omega)) a2
  · exact iT_congr (congrFun (q 202 (by omega) (by omega) (by omega) (by omega)) 1) (q 203 (by omega) (by omega) (by omega) (by omega)) (q3 14 (by omega)) (fun x hx hx2 j _ => congrFun (q x (by omega) (by omega) (by omega) (by omega)) j) a3
  · exact iE_congr (congrFun (q 42 (by omega) (by omega) (by omega) (by omega)) 0) (q3 25 (by omega)) (fun x hx => q x (by omega) (by omega) (by omega) (by omega)) (fun x hx hx2 j _ _ => congrFun (q x (by omega) (by omega) (by omega) (by omega)) j) a4
  · rw [c2.1 192 (by decide)]; exact hC.2.2.1
  · rw [c2.1 193 (by decide)]; exact hC.2.2.2
  · exact iX_congr (congrFun (q 204 (by omega) (by omega) (by omega) (by omega)) 1) (q 205 (by omega) (by omega) (by omega) (by omega)) (q3 21 (by omega)) (q 253 (by omega) (by omega) (by omega) (by omega)) a6
  · exact iJ_congr (congrFun (q 0 (by omega) (by omega) (by omega) (by omega)) 13) (q2 0) a7
  · exact iD_congr (congrFun (q 0 (by omega) (by omega) (by omega) (by omega)) 14) (q 223 (by omega) (by omega) (by omega) (by omega)) a8
theorem M_type {dA : T → Nat → Int32} {F P : Nat} {D : xDt} (h : Iv dA D) (x : Int32) : Two dA D (f_X11_type F P xS0 0 x) (f_X12_type F P xS0 241 x) := by
  obtain ⟨W, L, t, E, sg, tx, a1, a2, a3, a4, a5, a6, a7, a8⟩ := id h
  obtain ⟨b0, b1, b2, b3, b4, b5⟩ := a5
  rcases sg_in x with ⟨b, h1, h2, rfl⟩ | hx
  rotate_left
  · refine Iv_same (r := -1) h ?_ ?_
    · rw [e_X11_type, e_X6_collect, E_isSign, sgn_0 hx]; rfl
    · rw [e_X12_type, E_in, sgn_0 hx]; rfl
  by_cases hl : sg.length < 200
  · refine ⟨nI (sg.length + 1), sD D sg.length b, sM (sD D sg.length b) sg.length b, ?_, ?_, ?_⟩
    · rw [e_X11_type, E_collect b2 hl h1 h2]; rfl
    · have q1 : (sD D sg.length b).1 241 16 = nI sg.length := by rw [sC_ch.1.1 241 (by decide)]; exact b4
      rw [e_X12_type, E_in, sgn_1 h1 h2, Option.bind_some, if_neg (show ¬ (1 : Int32) = 0 by decide), q1, if_neg (show ¬ nI sg.length = 200 from fun c => by have := (nI_eq (b := 200) (by omega) (by omega)).mp c; omega), xgrd_in (by omega) (by omega), nI_clamp (by omega), by_b2 b (by omega)]
      simp only [xlet]
      rw [xup_na _ _ _ _ _ (show 241 ≠ 252 by omega), q1, xup_at, nI_1]
      rfl
    · have hC : sC D sg := ⟨b0, b1, b2, b3⟩
      have hR : sR (sD D sg.length b) sg := ⟨b0, by rw [sC_ch.1.1 241 (by decide)]; exact b4, by rw [sC_ch.1.1 252 (by decide)]; exact b5⟩
      have hC2 := sC_more hC hl h1 h2
      exact Iv_signs h sC_ch.1 sM_ch.1 sM_ch.2 hC2 (sR_more hR hl)
  · refine Iv_same (r := -1) h ?_ ?_
    · rw [e_X11_type, e_X6_collect, E_isSign, sgn_1 h1 h2, Option.bind_some, if_neg (show ¬ (1 : Int32) = 0 by decide), b2, if_neg (show ¬ nI sg.length < 200 from fun c => hl ((nI_ltI (b := 200) (by omega) (by omega)).mp c))]; rfl
    · rw [e_X12_type, E_in, sgn_1 h1 h2, Option.bind_some, if_neg (show ¬ (1 : Int32) = 0 by decide), b4, if_pos (show nI sg.length = 200 from (nI_eq (b := 200) (by omega) (by omega)).mpr (by omega))]
