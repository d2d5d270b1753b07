/-! decide: the class's terms -/
def rgt : T → T
  | .leaf => nil
  | .inner _ _ _ _ r => r
def dcs (k : Nat) : Nat × Nat := if 97 ≤ k % 128 ∧ k % 128 ≤ 104 then (1, k % 128 - 97) else if k % 128 = 48 then (2, 0) else if k % 128 = 49 then (3, 0) else if k % 128 = 126 then (4, 0) else if k % 128 = 75 then (5, k / 256) else if k % 128 = 80 then (6, k / 256) else if k % 128 = 69 then (7, k / 256) else if k % 128 = 67 then (8, k / 256) else if k % 128 = 68 then (9, k / 256) else if k % 128 = 61 then (10, 0) else if k % 128 = 62 then (11, 0) else if k % 128 = 124 then (12, 0) else if k % 128 = 38 then (13, 0) else if k % 128 = 91 then (14, 0) else (15, 0)
def mkv (s m : Nat) : Nat := if s = 0 then m % 8 else if 4 ≤ s ∧ s ≤ 8 then m else 0
theorem dcs_0 : ∀ s, s < 15 → ∀ m, m < 16 → dcs (tk (s + 1) (mkv s m)) = (s + 1, mkv s m) ∧ tk (s + 1) (mkv s m) < 65536 := by decide +kernel
theorem mkv_ok {s m : Nat} (h1 : 1 ≤ s) (h : mOK s m) : mkv (s - 1) m = m := by
  unfold mOK at h
  unfold mkv
  by_cases c : s - 1 = 0
  · rw [if_pos c]; omega
  · rw [if_neg c]
    by_cases c2 : 4 ≤ s - 1 ∧ s - 1 ≤ 8
    · rw [if_pos c2]
    · rw [if_neg c2]; omega
theorem dcs_tk {s m : Nat} (h1 : 1 ≤ s) (h2 : s ≤ 15) (h : mOK s m) : dcs (tk s m) = (s, m) ∧ tk s m < 65536 := by
  have := dcs_0 (s - 1) (by omega) m (m16 h)
  rw [mkv_ok h1 h, Nat.sub_add_cancel h1] at this
  exact this
theorem tk_eq {s m s' m' : Nat} (h1 : 1 ≤ s) (h2 : s ≤ 15) (h : mOK s m) (h1' : 1 ≤ s') (h2' : s' ≤ 15) (h' : mOK s' m') : nI (tk s m) = nI (tk s' m') ↔ s = s' ∧ m = m' := by
  obtain ⟨a1, a2⟩ := dcs_tk h1 h2 h
  obtain ⟨b1, b2⟩ := dcs_tk h1' h2' h'
  rw [nI_eq (by omega) (by omega)]
  constructor
  · intro q
    rw [q, b1] at a1
    injection a1 with c1 c2
    exact ⟨c1.symm, c2.symm⟩
  · rintro ⟨rfl, rfl⟩; rfl
def tmw : T → Prop
  | .leaf => False
  | .inner s m _ l r => 1 ≤ s ∧ s ≤ 13 ∧ mOK s m ∧ ((s ≤ 3 ∧ l = nil ∧ r = nil) ∨ (4 ≤ s ∧ s ≤ 9 ∧ l ≠ nil ∧ r = nil) ∨ (10 ≤ s ∧ l ≠ nil ∧ r ≠ nil))
def ckc (N : List T) (b : Nat) (x : T) (v : Int32) : Prop := (x = nil ∧ v = 0) ∨ (x ≠ nil ∧ ∃ j, j < b ∧ N[j]? = some x ∧ v = nI j)
theorem ckc_ext {N N' : List T} {b b' : Nat} {x : T} {v : Int32} (h : ext N N') (hb : b ≤ b') (hc : ckc N b x v) : ckc N' b' x v := by
  rcases hc with h1 | ⟨h0, j, h1, h2, h3⟩
  · exact Or.inl h1
  · exact Or.inr ⟨h0, j, by omega, h j x h2, h3⟩
theorem ckc_eq {N : List T} (hz : N.length ≤ 2400) (hn : N.Nodup) {b b' : Nat} {x y : T} {v w : Int32} (h : ckc N b x v) (h' : ckc N b' y w) (hxy : x = nil ↔ y = nil) : v = w ↔ x = y := by
  rcases h with ⟨rfl, rfl⟩ | ⟨h0, j, h1, h2, rfl⟩
  · rcases h' with ⟨rfl, rfl⟩ | ⟨h0', _⟩
    · simp
    · exact absurd (hxy.mp rfl) h0'
  · rcases h' with ⟨rfl, rfl⟩ | ⟨h0', j', h1', h2', rfl⟩
    · exact absurd (hxy.mpr rfl) h0
    · have hj := lt_of_at h2
      have hj' := lt_of_at h2'
      rw [nI_eq (by omega) (by omega)]
      constructor
      · rintro rfl
        rw [h2] at h2'; injection h2'
      · rintro rfl
        exact (List.getElem?_inj hj hn).mp (by rw [h2, h2'])
def hsh (a b c : Int32) : Int32 := ((((a * 31) + b) * 1009) + (c * 17)) &&& 4095
theorem and4095 (y : Int32) : ∃ b, b < 4096 ∧ y &&& 4095 = nI b := by
  refine ⟨y.toBitVec.toNat % 4096, Nat.mod_lt _ (by omega), ?_⟩
  apply Int32.toBitVec_inj.mp
  rw [Int32.toBitVec_and]
  show y.toBitVec &&& BitVec.ofNat 32 4095 = BitVec.ofNat 32 (y.toBitVec.toNat % 4096)
  apply BitVec.eq_of_toNat_eq
  rw [BitVec.toNat_and, BitVec.toNat_ofNat, BitVec.toNat_ofNat, show (4095 : Nat) % 2 ^ 32 = 2 ^ 12 - 1 from rfl, Nat.and_two_pow_sub_one_eq_mod]
  have := y.toBitVec.isLt
  omega
theorem nx4095 {p : Nat} : (nI p + 1) &&& 4095 = nI ((p + 1) % 4096) := by
  rw [nI_1, show (4095 : Int32) = nI 4095 from rfl, nI_and, show 4095 = 2 ^ 12 - 1 from rfl, Nat.and_two_pow_sub_one_eq_mod]
def cN (D : xDt) (N B : List T) : Prop := N.Nodup ∧ N.length ≤ 2400 ∧ D.1 224 7 = nI N.length ∧ (∀ i x, N[i]? = some x → tmw x ∧ D.1 225 i = nI (tk (tsr x) (mrk x)) ∧ ckc N i (lft x) (D.1 226 i) ∧ ckc N i (rgt x) (D.1 227 i) ∧ ((isB (tsr x) = false ∧ D.1 228 i = -1) ∨ ∃ k, B[k]? = some x ∧ D.1 228 i = nI k)) ∧ B.Nodup ∧ B.length ≤ 13 ∧ D.1 224 8 = nI B.length ∧ ∀ k x, B[k]? = some x → isB (tsr x) = true ∧ ∃ i, N[i]? = some x ∧ D.1 229 k = nI i
def cT (D : xDt) (N : List T) : Prop := cn (fun p => decide (D.1 230 p ≠ 0)) 4096 = N.length ∧ (∀ p, p < 4096 → D.1 230 p = 0 ∨ ∃ i, i < N.length ∧ D.1 230 p = nI (i + 1)) ∧ ∀ i, i < N.length → ∃ h c, h < 4096 ∧ hsh (D.1 225 i) (D.1 226 i) (D.1 227 i) = nI h ∧ c < 4096 ∧ D.1 230 ((h + c) % 4096) = nI (i + 1) ∧ ∀ c', c' < c → D.1 230 ((h + c') % 4096) ≠ 0
theorem cn_aL : ∀ {p : Nat → Bool} {k : Nat}, (∀ j, j < k → p j = true) → cn p k = k
  | _, 0, _ => rfl
  | p, k + 1, h => by rw [cn, cn_aL (fun j hj => h j (by omega)), h k (by omega)]; rfl
/-- the terms that are gone through -/
theorem E_mk24 {F P : Nat} {D : xDt} {N B : List T} {v1 v2 v3 : Int32} {h : Nat} (hN : cN D N B) (hT : cT D N) (hh : h < 4096) : ∀ (d c n : Nat), c + d = 4096 → d < n → (∀ c', c' < c → D.1 230 ((h + c') % 4096) ≠ 0) → (∀ c' i, c' < c → i < N.length → D.1 230 ((h + c') % 4096) = nI (i + 1) → ¬ (D.1 225 i = v1 ∧ D.1 226 i = v2 ∧ D.1 227 i = v3)) → (∃ i, i < N.length ∧ (D.1 225 i = v1 ∧ D.1 226 i = v2 ∧ D.1 227 i = v3) ∧ f_X8_make_24 F P xS0 n 224 v1 v2 v3 (nI ((h + c) % 4096)) (nI c) D = some (nI i, D)) ∨ (∃ c2, c2 < 4096 ∧ D.1 230 ((h + c2) % 4096) = 0 ∧ (∀ c', c' < c2 → D.1 230 ((h + c') % 4096) ≠ 0) ∧ (∀ c' i, c' < c2 → i < N.length → D.1 230 ((h + c') % 4096) = nI (i + 1) → ¬ (D.1 225 i = v1 ∧ D.1 226 i = v2 ∧ D.1 227 i = v3)) ∧ f_X8_make_24 F P xS0 n 224 v1 v2 v3 (nI ((h + c) % 4096)) (nI c) D = f_X8_make_105 F P xS0 224 v1 v2 v3 (nI ((h + c2) % 4096)) D)
  | _, _, 0, _, h, _, _ => absurd h (by omega)
  | 0, c, n + 1, h1, _, h3, h4 => by
    have hz := hN.2.1
    have : cn (fun p => decide (D.1 230 p ≠ 0)) 4096 = 4096 := cn_aL (fun p hp => by
      have := h3 ((p + 4096 - h) % 4096) (by omega)
      rw [show (h + (p + 4096 - h) % 4096) % 4096 = p by omega] at this
      exact decide_eq_true this)
    rw [hT.1] at this
    omega
  | d + 1, c, n + 1, h1, h2, h3, h4 => by
    have hz := hN.2.1
    have hp : (h + c) % 4096 < 4096 := Nat.mod_lt _ (by omega)
    rw [e_X8_make_24, if_neg (show ¬ (4096 : Int32) ≤ nI c from fun q => by have := (nI_leI (a := 4096) (by omega) (by omega)).mp q; omega), xgrd_in hp (by omega), nI_clamp (by omega)]
    rcases hT.2.1 _ hp with q | ⟨i, hi, q⟩
    · rw [if_pos q]
      exact Or.inr ⟨c, by omega, q, h3, h4, rfl⟩
    · rw [q, if_neg (fun q' => by rw [nI_eq0 (by omega)] at q'; omega), xgrd_in hp (by omega), nI_s1 (by omega), Nat.add_sub_cancel]
      simp only [xlet]
      rw [xgrd_in (by omega) (by omega), xgrd_in (by omega) (by omega), xgrd_in (by omega) (by omega), nI_clamp (by omega)]
      have next : ¬ (D.1 225 i = v1 ∧ D.1 226 i = v2 ∧ D.1 227 i = v3) → ∀ o : Option (Int32 × xDt), o = f_X8_make_89 F P xS0 (f_X8_make_24 F P xS0 n) 224 v1 v2 v3 (nI ((h + c) % 4096)) (nI c) D → (∃ i, i < N.length ∧ (D.1 225 i = v1 ∧ D.1 226 i = v2 ∧ D.1 227 i = v3) ∧ o = some (nI i, D)) ∨ (∃ c2, c2 < 4096 ∧ D.1 230 ((h + c2) % 4096) = 0 ∧ (∀ c', c' < c2 → D.1 230 ((h + c') % 4096) ≠ 0) ∧ (∀ c' i, c' < c2 → i < N.length → D.1 230 ((h + c') % 4096) = nI (i + 1) → ¬ (D.1 225 i = v1 ∧ D.1 226 i = v2 ∧ D.1 227 i = v3)) ∧ o = f_X8_make_105 F P xS0 224 v1 v2 v3 (nI ((h + c2) % 4096)) D) := by
        intro hm o ho
        rw [ho, e_X8_make_89, nx4095, nI_1]
        simp only [xlet]
        rw [show ((h + c) % 4096 + 1) % 4096 = (h + (c + 1)) % 4096 by omega]
        refine E_mk24 hN hT hh d (c + 1) n (by omega) (by omega) (fun c' hc' => ?_) (fun c' j hc' hj hq => ?_)
        · by_cases e : c' = c
          · subst e; rw [q]; exact fun q' => by rw [nI_eq0 (by omega)] at q'; omega
          · exact h3 c' (by omega)
        · by_cases e : c' = c
          · subst e
            rw [q, nI_eq (by omega) (by omega)] at hq
            have : i = j := by omega
            subst this; exact hm
          · exact h4 c' j (by omega) hj hq
      by_cases b1 : D.1 225 i = v1
      · rw [if_pos b1]
        by_cases b2 : D.1 226 i = v2
        · rw [if_pos b2]
          by_cases b3 : D.1 227 i = v3
          · rw [if_pos b3]
            exact Or.inl ⟨i, hi, ⟨b1, b2, b3⟩, rfl⟩
          · rw [if_neg b3]; exact next (fun q => b3 q.2.2) _ rfl
        · rw [if_neg b2]; exact next (fun q => b2 q.2.1) _ rfl
      · rw [if_neg b1]; exact next (fun q => b1 q.1) _ rfl
def bsv (x : Int32) : Int32 := if x = 75 then 1 else if x = 67 then 1 else if x < 97 then 0 else if 104 < x then 0 else 1
theorem E_isBase' {F P : Nat} {S : xSt} {D : xDt} (x : Int32) : f_X8_isBase F P S x D = some (bsv x, D) := by
  unfold f_X8_isBase f_X8_isBase_24 f_X8_isBase_28 bsv
  split
  · rfl
  · split
    · rfl
    · split
      · rfl
      · split <;> rfl
theorem bsv_t : ∀ s, s < 15 → ∀ m, m < 16 → bsv (nI (sgn (s + 1) (mkv s m))) = bI (isB (s + 1)) := by decide +kernel
theorem E_isBase {F P : Nat} {S : xSt} {D : xDt} {s m : Nat} (h1 : 1 ≤ s) (h2 : s ≤ 15) (h : mOK s m) : f_X8_isBase F P S (nI (sgn s m)) D = some (bI (isB s), D) := by
  have := bsv_t (s - 1) (by omega) m (m16 h)
  rw [mkv_ok h1 h, Nat.sub_add_cancel h1] at this
  rw [E_isBase', this]
theorem E_243 {F P n : Nat} {D : xDt} (h7 : D.1 224 7 = nI n) : f_X8_make_243 F P xS0 224 D = some (nI n, (xup D.1 224 7 (nI (n + 1)), D.2)) := by
  rw [e_X8_make_243, h7, nI_1]
  rfl
theorem E_152 {F P : Nat} {D : xDt} {v1 v2 v3 : Int32} {p n b : Nat} {w : Bool} (hp : p < 4096) (hn : n < 2400) (hb : b < 13 ∨ w = false) (h7 : D.1 224 7 = nI n) (h8 : D.1 224 8 = nI b) : ∃ D', f_X8_make_152 F P xS0 224 v1 v2 v3 (nI p) (bI w) D = some (nI n, D') ∧ D'.1 224 7 = nI (n + 1) ∧ D'.1 224 8 = nI (if w = true then b + 1 else b) ∧ D'.1 224 9 = D.1 224 9 ∧ (∀ j, D'.1 225 j = if j = n then v1 else D.1 225 j) ∧ (∀ j, D'.1 226 j = if j = n then v2 else D.1 226 j) ∧ (∀ j, D'.1 227 j = if j = n then v3 else D.1 227 j) ∧ (∀ j, D'.1 228 j = if j = n then (if w = true then nI b else -1) else D.1 228 j) ∧ (∀ j, D'.1 229 j = if w = true ∧ j = b then nI n else D.1 229 j) ∧ (∀ j, D'.1 230 j = if j = p then nI (n + 1) else D.1 230 j) ∧ ch [224, 225, 226, 227, 228, 229, 230] [] D D' := by
  generalize hD5 : ((xup (xup (xup (xup (xup D.1 230 p (nI (n + 1))) 225 n v1) 226 n v2) 227 n v3) 228 n (-1), D.2) : xDt) = D5
  have g : ∀ x j, D5.1 x j = if x = 228 then (if j = n then -1 else D.1 228 j) else if x = 227 then (if j = n then v3 else D.1 227 j) else if x = 226 then (if j = n then v2 else D.1 226 j) else if x = 225 then (if j = n then v1 else D.1 225 j) else if x = 230 then (if j = p then nI (n + 1) else D.1 230 j) else D.1 x j := by
    intro x j
    rw [← hD5]
    dsimp only
    unfold xup
    by_cases c1 : x = 228
    · subst c1; simp
    by_cases c2 : x = 227
    · subst c2; simp
    by_cases c3 : x = 226
    · subst c3; simp
    by_cases c4 : x = 225
    · subst c4; simp
    by_cases c5 : x = 230
    · subst c5; simp
    · simp [c1, c2, c3, c4, c5]
  have g224 : ∀ j, D5.1 224 j = D.1 224 j := fun j => by rw [g]; simp
  have e1 : f_X8_make_152 F P xS0 224 v1 v2 v3 (nI p) (bI w) D = if bI w = 0 then (f_X8_make_243 F P xS0 224 D5) else (f_X8_make_243 F P xS0 224 (xup (xup (xup D5.1 228 n (nI b)) 224 8 (nI (b + 1))) 229 b (nI n), D5.2)) := by
    have s1 : ∀ (f : Nat → Nat → Int32) (k j : Nat) (v : Int32), xup f 230 k v 224 j = f 224 j := fun f k j v => xup_na _ _ _ _ _ (by omega)
    have s2 : ∀ (f : Nat → Nat → Int32) (k j : Nat) (v : Int32), xup f 225 k v 224 j = f 224 j := fun f k j v => xup_na _ _ _ _ _ (by omega)
    have s3 : ∀ (f : Nat → Nat → Int32) (k j : Nat) (v : Int32), xup f 226 k v 224 j = f 224 j := fun f k j v => xup_na _ _ _ _ _ (by omega)
    have s4 : ∀ (f : Nat → Nat → Int32) (k j : Nat) (v : Int32), xup f 227 k v 224 j = f 224 j := fun f k j v => xup_na _ _ _ _ _ (by omega)
    have s5 : ∀ (f : Nat → Nat → Int32) (k j : Nat) (v : Int32), xup f 228 k v 224 j = f 224 j := fun f k j v => xup_na _ _ _ _ _ (by omega)
    rw [e_X8_make_152, xgrd_in hp (by omega), nI_clamp (by omega)]
    simp only [xlet, s1, s2, s3, s4, s5]
    rw [h7, nI_1, xgrd_in hn (by omega), xgrd_in hn (by omega), xgrd_in hn (by omega), xgrd_in hn (by omega), xgrd_in hn (by omega), nI_clamp (by omega), h8]
    cases w
    · rw [if_pos (show bI false = 0 from rfl), if_pos (show bI false = 0 from rfl), hD5]
    · have hb' : b < 13 := hb.resolve_right (fun q => by cases q)
      rw [if_neg (show ¬ bI true = 0 by decide), if_neg (show ¬ bI true = 0 by decide), xgrd_in hb' (by omega), nI_clamp (by omega), nI_1, xup_nk _ _ _ _ _ (show 7 ≠ 8 by omega), s5, s5, s4, s3, s2, s1, h7, ← hD5]
  cases w
  · rw [e1, if_pos (show bI false = 0 from rfl), E_243 (by rw [g224]; exact h7)]
    have q : ∀ x j, x ≠ 224 → ((xup D5.1 224 7 (nI (n + 1)), D5.2) : xDt).1 x j = D5.1 x j := fun x j hx => by dsimp only; rw [xup_na _ _ _ _ _ hx]
    refine ⟨_, rfl, by dsimp only; rw [xup_at], by dsimp only; rw [xup_nk _ _ _ _ _ (by omega), g224]; exact h8, by dsimp only; rw [xup_nk _ _ _ _ _ (by omega), g224], fun j => ?_, fun j => ?_, fun j => ?_, fun j => ?_, fun j => ?_, fun j => ?_, fun x hx => ?_, fun x _ => ?_⟩
    · rw [q _ _ (by omega), g]; simp
    · rw [q _ _ (by omega), g]; simp
    · rw [q _ _ (by omega), g]; simp
    · rw [q _ _ (by omega), g]; simp
    · rw [q _ _ (by omega), g]; simp
    · rw [q _ _ (by omega), g]; simp
    · simp only [List.mem_cons, List.not_mem_nil, or_false, not_or] at hx
      funext j
      rw [q _ _ hx.1, g]
      simp [hx]
    · dsimp only; rw [← hD5]
  · rw [e1, if_neg (show ¬ bI true = 0 by decide), E_243 (n := n) (by dsimp only; rw [xup_na _ _ _ _ _ (by omega), xup_nk _ _ _ _ _ (by omega), xup_na _ _ _ _ _ (by omega), g224]; exact h7)]
    have q : ∀ x j, x ≠ 224 → x ≠ 229 → x ≠ 228 → xup (xup (xup (xup D5.1 228 n (nI b)) 224 8 (nI (b + 1))) 229 b (nI n)) 224 7 (nI (n + 1)) x j = D5.1 x j := fun x j h1 h2 h3 => by rw [xup_na _ _ _ _ _ h1, xup_na _ _ _ _ _ h2, xup_na _ _ _ _ _ h1, xup_na _ _ _ _ _ h3]
    refine ⟨_, rfl, by dsimp only; rw [xup_at], by dsimp only; rw [xup_nk _ _ _ _ _ (by omega), xup_na _ _ _ _ _ (by omega), xup_at]; rfl, by dsimp only; rw [xup_nk _ _ _ _ _ (by omega), xup_na _ _ _ _ _ (by omega), xup_nk _ _ _ _ _ (by omega), xup_na _ _ _ _ _ (by omega), g224], fun j => ?_, fun j => ?_, fun j => ?_, fun j => ?_, fun j => ?_, fun j => ?_, fun x hx => ?_, fun x _ => ?_⟩
    · dsimp only; rw [q _ _ (by omega) (by omega) (by omega), g]; simp
    · dsimp only; rw [q _ _ (by omega) (by omega) (by omega), g]; simp
    · dsimp only; rw [q _ _ (by omega) (by omega) (by omega), g]; simp
    · dsimp only
      rw [xup_na _ _ _ _ _ (by omega), xup_na _ _ _ _ _ (by omega), xup_na _ _ _ _ _ (by omega)]
      by_cases c : j = n
      · subst c; rw [xup_at]; simp
      · rw [xup_nk _ _ _ _ _ c, g]; simp [c]
    · dsimp only
      rw [xup_na _ _ _ _ _ (by omega)]
      by_cases c : j = b
      · subst c; rw [xup_at]; simp
      · rw [xup_nk _ _ _ _ _ c, xup_na _ _ _ _ _ (by omega), xup_na _ _ _ _ _ (by omega), g]; simp [c]
    · dsimp only; rw [q _ _ (by omega) (by omega) (by omega), g]; simp
    · simp only [List.mem_cons, List.not_mem_nil, or_false, not_or] at hx
      funext j
      dsimp only
      rw [q _ _ (by omega) (by omega) (by omega), g]
      simp [hx]
    · dsimp only; rw [← hD5]
