theorem oK_mk {α : Type} {o : Option α} {r : α} {Q : α → Prop} (h : o = some r) (q : Q r) : oK o Q := ⟨r, h, q⟩
/-! steps that are kept -/
theorem E_copy {F P : Nat} {D : xDt} {a ta ca b tb cb : Nat} (ho : oW a ta ca) (ho' : oW b tb cb) (h1 : ta ≠ ca) (h2 : ta ≠ cb) : ∃ D', f_X10_copy F P xS0 a b D = some D' ∧ D'.1 = xup D.1 a 0 (D.1 b 0) ∧ (∀ x, x ≠ ta → x ≠ ca → D'.2 x = D.2 x) ∧ (∀ j, j < 8 → D'.2 ta j = D.2 tb j) ∧ (∀ j, j < 256 → D'.2 ca j = D.2 cb j) := by
  refine ⟨(xup D.1 a 0 (D.1 b 0), xcp (xcp D.2 tb ta 0 0 8) cb ca 0 0 256), ?_, rfl, ?_, ?_, ?_⟩
  · unfold f_X10_copy
    rw [ho.1, ho.2.1, ho'.1, ho'.2.1, ho.2.2.1, ho'.2.2.1, ho.2.2.2, ho'.2.2.2]
    simp only [xlet]
    rw [show xcpin 0 0 8 8 8 = true by decide, show xcpin 0 0 (Int32.ofNat 256) 256 256 = true by decide]
    rfl
  · intro x hx hx2
    funext j
    simp only [xcp, hx, hx2, if_false]
  · intro j hj
    have : ¬ ta = ca := h1
    simp only [xcp, this, if_false, if_true, va_cpy]
    rw [if_pos (by omega)]
    simp
  · intro j hj
    simp only [xcp, if_true, va_cpy]
    have : ¬ cb = ta := fun c => h2 c.symm
    rw [if_pos (by omega)]
    simp [this]
theorem wC_copy {D D' : xDt} {a ta ca b tb cb : Nat} {W : Wd} (hn : W.1 ≤ 64) (h1 : D'.1 a 0 = D.1 b 0) (h2 : ∀ j, j < 8 → D'.2 ta j = D.2 tb j) (h3 : ∀ j, j < 256 → D'.2 ca j = D.2 cb j) (h : wC D b tb cb W) : wC D' a ta ca W := ⟨by rw [h1]; exact h.1, fun k hk w hw => by rw [h2 k hk]; exact h.2.1 k hk w hw, fun g hg w hw => by rw [h3 _ (by omega)]; exact h.2.2 g hg w hw⟩
theorem rg_r : ∀ p, p < 12 → xr xS0 5 p = 6 + 3 * p := by decide +kernel
theorem rg_o : ∀ p, p < 12 → xr xS0 (6 + 3 * p) 1 = 7 + 3 * p ∧ xr xS0 (6 + 3 * p) 2 = 8 + 3 * p ∧ xl xS0 (7 + 3 * p) = 8 ∧ xl xS0 (8 + 3 * p) = 256 := by decide +kernel
theorem rg_k : ∀ p, p < 12 → xkb xS0 (6 + 3 * p) 10 = true := by decide +kernel
/-- the class keeps its worlds -/
theorem E_kept {F P : Nat} {D : xDt} {p k : Nat} (hp : p < 12) (hk : k ≤ 12) (h1 : D.1 4 1 = nI p) (h2 : D.1 4 2 = nI k) : ∃ D', f_X11_keptWorlds F P xS0 0 D = some (6 + 3 * p, D') ∧ ch [0, 4, 6 + 3 * p] [7 + 3 * p, 8 + 3 * p] D D' ∧ (∀ j, j ≠ 13 → D'.1 0 j = D.1 0 j) ∧ D'.1 0 13 = 0 ∧ D'.1 4 1 = nI ((p + 1) % 12) ∧ D'.1 4 2 = nI (min (k + 1) 12) ∧ D'.1 (6 + 3 * p) 0 = D.1 1 0 ∧ (∀ j, j < 8 → D'.2 (7 + 3 * p) j = D.2 2 j) ∧ (∀ j, j < 256 → D'.2 (8 + 3 * p) j = D.2 3 j) := by
  rw [e_X11_keptWorlds]
  simp only [xlet]
  rw [e_X5_keep]
  dsimp only
  rw [xup_na _ _ _ _ _ (by omega), h1, xgrd_in hp (by omega), nI_clamp (by omega), rg_r p hp]
  obtain ⟨D', e, q1, q2, q3, q4⟩ := E_copy (F := F) (P := P) (D := (xup D.1 0 13 0, D.2)) (rg_o p hp) oW1 (by omega) (by omega)
  dsimp only at q1 q2 q3 q4
  rw [e, Option.bind_some]
  have q41 : D'.1 4 1 = nI p := by
    rw [q1, xup_na _ _ _ _ _ (by omega), xup_na _ _ _ _ _ (by omega)]; exact h1
  have q42 : D'.1 4 2 = nI k := by
    rw [q1, xup_na _ _ _ _ _ (by omega), xup_na _ _ _ _ _ (by omega)]; exact h2
  have key : ∀ s : Int32, s = nI ((p + 1) % 12) → f_X5_keep_37 F P xS0 4 (6 + 3 * p) s 4 D' = some (6 + 3 * p, ((xup (xup D'.1 4 1 (nI ((p + 1) % 12))) 4 2 (nI (min (k + 1) 12)), D'.2) : xDt)) := by
    rintro s rfl
    rw [e_X5_keep_37]
    simp only [xlet]
    rw [xup_nk _ _ _ _ _ (show 2 ≠ 1 by omega), q42, nI_1, k12, jmin_n (by omega) (by omega)]
  rw [q41, nI_1]
  have hif : (if 12 ≤ nI (p + 1) then f_X5_keep_37 F P xS0 4 (6 + 3 * p) 0 4 D' else f_X5_keep_37 F P xS0 4 (6 + 3 * p) (nI (p + 1)) 4 D') = some (6 + 3 * p, ((xup (xup D'.1 4 1 (nI ((p + 1) % 12))) 4 2 (nI (min (k + 1) 12)), D'.2) : xDt)) := by
    by_cases c : 12 ≤ p + 1
    · rw [if_pos (show 12 ≤ nI (p + 1) from (nI_leI (a := 12) (by omega) (by omega)).mpr c)]
      exact key 0 (by rw [show (p + 1) % 12 = 0 by omega]; rfl)
    · rw [if_neg (show ¬ 12 ≤ nI (p + 1) from fun q => c ((nI_leI (a := 12) (by omega) (by omega)).mp q))]
      exact key _ (by rw [Nat.mod_eq_of_lt (by omega)])
  rw [hif, Option.bind_some, rg_k p hp, xgrd_t]
  refine ⟨_, rfl, ⟨fun x hx => ?_, fun x hx => ?_⟩, fun j hj => ?_, ?_, ?_, ?_, ?_, q3, q4⟩
  · simp only [List.mem_cons, List.not_mem_nil, or_false, not_or] at hx
    dsimp only
    rw [xup_ne _ _ _ _ hx.2.1, xup_ne _ _ _ _ hx.2.1, q1, xup_ne _ _ _ _ hx.2.2, xup_ne _ _ _ _ hx.1]
  · simp only [List.mem_cons, List.not_mem_nil, or_false, not_or] at hx
    exact q2 x hx.1 hx.2
  · dsimp only
    rw [xup_na _ _ _ _ _ (by omega), xup_na _ _ _ _ _ (by omega), q1, xup_na _ _ _ _ _ (by omega), xup_nk _ _ _ _ _ hj]
  · dsimp only
    rw [xup_na _ _ _ _ _ (by omega), xup_na _ _ _ _ _ (by omega), q1, xup_na _ _ _ _ _ (by omega), xup_at]
  · dsimp only
    rw [xup_nk _ _ _ _ _ (by omega), xup_at]
  · dsimp only
    rw [xup_at]
  · dsimp only
    rw [xup_na _ _ _ _ _ (by omega), xup_na _ _ _ _ _ (by omega), q1, xup_at, xup_na _ _ _ _ _ (by omega)]
/-- slot j of what the reference keeps -/
def slot (D : xDt) (j : Nat) (m : Int32) (fa fc : Nat → Int32) : Prop := D.1 244 j = m ∧ (∀ w, w < 64 → D.1 245 (64 * j + w) = fa w) ∧ (∀ c, c < 256 → D.1 246 (256 * j + c) = fc c)
theorem E_move {F P : Nat} (hF : 10000 < F) {D : xDt} {j : Nat} (hj : j + 1 < 12) : oK (f_X12_moveKept F P xS0 241 (nI (j + 1)) (nI j) D) (fun D' => ch [244, 245, 246] [] D D' ∧ slot D' j (D.1 244 (j + 1)) (fun w => D.1 245 (64 * (j + 1) + w)) (fun c => D.1 246 (256 * (j + 1) + c)) ∧ ∀ i, i ≠ j → slot D' i (D.1 244 i) (fun w => D.1 245 (64 * i + w)) (fun c => D.1 246 (256 * i + c))) := by
  rw [e_X12_moveKept, xgrd_in (by omega) (by omega), xgrd_in (by omega) (by omega), nI_clamp (by omega), nI_clamp (by omega)]
  simp only [xlet]
  refine lpu (W := fun n i (D1 : xDt) => oK (f_X12_moveKept_14 F P xS0 n 241 (nI (j + 1)) (nI j) (nI i) D1) _) (I := fun i D1 => D1 = (upP (xup D.1 244 j (D.1 244 (j + 1))) 245 (64 * j) i tt (fun w => D.1 245 (64 * (j + 1) + w)), D.2)) 64 ?_ ?_ 64 0 _ F (by omega) (by omega) (by rw [upP_0])
  · rintro n D1 rfl
    rw [e_X12_moveKept_14, if_pos (by decide)]
    refine lpu (W := fun n i (D2 : xDt) => oK (f_X12_moveKept_50 F P xS0 n 241 (nI (j + 1)) (nI j) (nI i) D2) _) (I := fun i D2 => D2 = (upP (upP (xup D.1 244 j (D.1 244 (j + 1))) 245 (64 * j) 64 tt (fun w => D.1 245 (64 * (j + 1) + w))) 246 (256 * j) i tt (fun c => D.1 246 (256 * (j + 1) + c)), D.2)) 256 ?_ ?_ 256 0 _ F (by omega) (by omega) (by rw [upP_0])
    · rintro n D2 rfl
      rw [e_X12_moveKept_50, if_pos (by decide)]
      refine oK_some ⟨ch_ip (D' := (upP (xup D.1 244 j (D.1 244 (j + 1))) 245 (64 * j) 64 tt (fun w => D.1 245 (64 * (j + 1) + w)), D.2)) (by simp) (ch_ip (D' := (xup D.1 244 j (D.1 244 (j + 1)), D.2)) (by simp) (ch_i (by simp) (ch_rfl _ _ _))), ⟨?_, ?_, ?_⟩, fun i hi => ⟨?_, ?_, ?_⟩⟩
      · dsimp only
        rw [upP_na (by omega), upP_na (by omega), xup_at]
      · intro w hw
        dsimp only
        rw [upP_na (by omega), upP_in hw rfl]
      · intro c hc
        dsimp only
        rw [upP_in hc rfl]
      · dsimp only
        rw [upP_na (by omega), upP_na (by omega), xup_nk _ _ _ _ _ hi]
      · intro w hw
        dsimp only
        rw [upP_na (by omega), upP_out (by omega), xup_na _ _ _ _ _ (by omega)]
      · intro c hc
        dsimp only
        rw [upP_out (by omega), upP_na (by omega), xup_na _ _ _ _ _ (by omega)]
    · rintro n i D2 hi rfl hk
      rw [e_X12_moveKept_50, k256, if_neg (by rw [nI_leI (by omega) (by omega)]; omega), nI_mul, nI_mul, nI_add, nI_add, xgrd_in (by omega) (by omega), xgrd_in (by omega) (by omega), nI_clamp (by omega), nI_clamp (by omega)]
      simp only [xlet, nI_1]
      refine hk _ ?_
      rw [upP_out (show 256 * (j + 1) + i < 256 * j ∨ 256 * j + i ≤ 256 * (j + 1) + i by omega), upP_na (by omega), xup_na _ _ _ _ _ (by omega), upP_t rfl rfl]
  · rintro n i D1 hi rfl hk
    rw [e_X12_moveKept_14, k64, if_neg (by rw [nI_leI (by omega) (by omega)]; omega), nI_mul, nI_mul, nI_add, nI_add, xgrd_in (by omega) (by omega), xgrd_in (by omega) (by omega), nI_clamp (by omega), nI_clamp (by omega)]
    simp only [xlet, nI_1]
    refine hk _ ?_
    rw [upP_out (show 64 * (j + 1) + i < 64 * j ∨ 64 * j + i ≤ 64 * (j + 1) + i by omega), xup_na _ _ _ _ _ (by omega), upP_t rfl rfl]
theorem E_keep43 {F P : Nat} (hF : 10000 < F) {D : xDt} {q : Nat} (hq : q < 12) (h7 : D.1 241 7 = nI q) : oK (f_X12_keep_43 F P xS0 241 D) (fun D' => ch [241, 244, 245, 246] [] D D' ∧ (∀ j, j ≠ 7 → D'.1 241 j = D.1 241 j) ∧ D'.1 241 7 = nI (q + 1) ∧ slot D' q (D.1 241 1) (D.1 242) (D.1 243) ∧ ∀ i, i ≠ q → slot D' i (D.1 244 i) (fun w => D.1 245 (64 * i + w)) (fun c => D.1 246 (256 * i + c))) := by
  rw [e_X12_keep_43, h7, xgrd_in hq (by omega), nI_clamp (by omega)]
  simp only [xlet]
  refine lpu (W := fun n i (D1 : xDt) => oK (f_X12_keep_58 F P xS0 n 241 (nI i) D1) _) (I := fun i D1 => D1 = (upP (xup D.1 244 q (D.1 241 1)) 245 (64 * q) i tt (D.1 242), D.2)) 64 ?_ ?_ 64 0 _ F (by omega) (by omega) (by rw [upP_0])
  · rintro n D1 rfl
    rw [e_X12_keep_58, if_pos (by decide)]
    refine lpu (W := fun n i (D2 : xDt) => oK (f_X12_keep_92 F P xS0 n 241 (nI i) D2) _) (I := fun i D2 => D2 = (upP (upP (xup D.1 244 q (D.1 241 1)) 245 (64 * q) 64 tt (D.1 242)) 246 (256 * q) i tt (D.1 243), D.2)) 256 ?_ ?_ 256 0 _ F (by omega) (by omega) (by rw [upP_0])
    · rintro n D2 rfl
      rw [e_X12_keep_92, if_pos (by decide)]
      simp only [xlet]
      rw [upP_na (by omega), upP_na (by omega), xup_na _ _ _ _ _ (by omega), h7, nI_1]
      refine oK_some ⟨ch_i (D' := (upP (upP (xup D.1 244 q (D.1 241 1)) 245 (64 * q) 64 tt (D.1 242)) 246 (256 * q) 256 tt (D.1 243), D.2)) (by simp) (ch_ip (D' := (upP (xup D.1 244 q (D.1 241 1)) 245 (64 * q) 64 tt (D.1 242), D.2)) (by simp) (ch_ip (D' := (xup D.1 244 q (D.1 241 1), D.2)) (by simp) (ch_i (by simp) (ch_rfl _ _ _)))), ?_, ?_, ⟨?_, ?_, ?_⟩, fun i hi => ⟨?_, ?_, ?_⟩⟩
      · intro j hj
        dsimp only
        rw [xup_nk _ _ _ _ _ hj, upP_na (by omega), upP_na (by omega), xup_na _ _ _ _ _ (by omega)]
      · dsimp only
        rw [xup_at]
      · dsimp only
        rw [xup_na _ _ _ _ _ (by omega), upP_na (by omega), upP_na (by omega), xup_at]
      · intro w hw
        dsimp only
        rw [xup_na _ _ _ _ _ (by omega), upP_na (by omega), upP_in hw rfl]
      · intro c hc
        dsimp only
        rw [xup_na _ _ _ _ _ (by omega), upP_in hc rfl]
      · dsimp only
        rw [xup_na _ _ _ _ _ (by omega), upP_na (by omega), upP_na (by omega), xup_nk _ _ _ _ _ hi]
      · intro w hw
        dsimp only
        rw [xup_na _ _ _ _ _ (by omega), upP_na (by omega), upP_out (by omega), xup_na _ _ _ _ _ (by omega)]
      · intro c hc
        dsimp only
        rw [xup_na _ _ _ _ _ (by omega), upP_out (by omega), upP_na (by omega), xup_na _ _ _ _ _ (by omega)]
    · rintro n i D2 hi rfl hk
      rw [e_X12_keep_92, k256, if_neg (by rw [nI_leI (by omega) (by omega)]; omega)]
      dsimp only
      rw [upP_na (by omega), upP_na (by omega), xup_na _ _ _ _ _ (show 241 ≠ 244 by omega), h7, nI_mul, nI_add, xgrd_in (by omega) (by omega), xgrd_in (by omega) (by omega), nI_clamp (by omega), nI_clamp (by omega)]
      simp only [xlet, nI_1]
      refine hk _ ?_
      rw [upP_na (by omega), upP_na (by omega), xup_na _ _ _ _ _ (by omega), upP_t rfl rfl]
  · rintro n i D1 hi rfl hk
    rw [e_X12_keep_58, k64, if_neg (by rw [nI_leI (by omega) (by omega)]; omega)]
    dsimp only
    rw [upP_na (by omega), xup_na _ _ _ _ _ (show 241 ≠ 244 by omega), h7, nI_mul, nI_add, xgrd_in (by omega) (by omega), xgrd_in (by omega) (by omega), nI_clamp (by omega), nI_clamp (by omega)]
    simp only [xlet, nI_1]
    refine hk _ ?_
    rw [upP_na (by omega), xup_na _ _ _ _ _ (by omega), upP_t rfl rfl]
theorem E_mkeep {F P : Nat} (hF : 10000 < F) {D : xDt} {k : Nat} (hk : k ≤ 12) (h7 : D.1 241 7 = nI k) : oK (f_X12_keep F P xS0 241 D) (fun D' => ch [241, 244, 245, 246] [] D D' ∧ (∀ j, j ≠ 7 → D'.1 241 j = D.1 241 j) ∧ D'.1 241 7 = nI (min (k + 1) 12) ∧ slot D' (min (k + 1) 12 - 1) (D.1 241 1) (D.1 242) (D.1 243) ∧ ∀ i, i < min (k + 1) 12 - 1 → slot D' i (D.1 244 (if k = 12 then i + 1 else i)) (fun w => D.1 245 (64 * (if k = 12 then i + 1 else i) + w)) (fun c => D.1 246 (256 * (if k = 12 then i + 1 else i) + c))) := by
  rw [e_X12_keep, h7]
  by_cases c : k = 12
  · subst c
    rw [if_pos (show nI 12 = 12 from rfl)]
    refine lpu (W := fun n i (D1 : xDt) => oK (f_X12_keep_11 F P xS0 n 241 (nI i) D1) _) (I := fun i D1 => ch [244, 245, 246] [] D D1 ∧ (∀ a, a < i → slot D1 a (D.1 244 (a + 1)) (fun w => D.1 245 (64 * (a + 1) + w)) (fun c => D.1 246 (256 * (a + 1) + c))) ∧ (∀ a, i ≤ a → slot D1 a (D.1 244 a) (fun w => D.1 245 (64 * a + w)) (fun c => D.1 246 (256 * a + c)))) 11 ?_ ?_ 11 0 _ F (by omega) (by omega) ⟨ch_rfl _ _ _, fun a ha => absurd ha (by omega), fun a _ => ⟨rfl, fun _ _ => rfl, fun _ _ => rfl⟩⟩
    · rintro n D1 ⟨i1, i2, i3⟩
      rw [e_X12_keep_11, if_pos (by decide)]
      simp only [xlet]
      rw [i1.1 241 (by decide), h7, nI_s1 (by omega)]
      obtain ⟨D', e, e1, e2, e3, e4, e5⟩ := E_keep43 (F := F) (P := P) (D := (xup D1.1 241 7 (nI (12 - 1)), D1.2)) hF (q := 11) (by omega) (by dsimp only; rw [xup_at])
      refine oK_mk e ⟨?_, ?_, e3, ?_, ?_⟩
      · exact ch_trans (ch_mono i1 (by intro x hx; simp at hx ⊢; omega) (fun _ h => h)) (ch_trans (ch_i (by simp) (ch_rfl _ _ _)) e1)
      · intro j hj
        rw [e2 j hj]
        dsimp only
        rw [xup_nk _ _ _ _ _ hj, i1.1 241 (by decide)]
      · have : D1.1 241 1 = D.1 241 1 := by rw [i1.1 241 (by decide)]
        dsimp only at e4
        rw [xup_nk _ _ _ _ _ (by omega), this, xup_ne _ _ _ _ (by omega), xup_ne _ _ _ _ (by omega), i1.1 242 (by decide), i1.1 243 (by decide)] at e4
        exact e4
      · intro i hi
        have hi2 : i < 11 := hi
        obtain ⟨s1, s2, s3⟩ := e5 i (by omega)
        obtain ⟨r1, r2, r3⟩ := i2 i hi2
        simp only [if_true]
        dsimp only at s1 s2 s3
        refine ⟨?_, fun w hw => ?_, fun c hc => ?_⟩
        · rw [s1, xup_na _ _ _ _ _ (by omega)]; exact r1
        · rw [s2 w hw, xup_na _ _ _ _ _ (by omega)]; exact r2 w hw
        · rw [s3 c hc, xup_na _ _ _ _ _ (by omega)]; exact r3 c hc
    · rintro n i D1 hi ⟨i1, i2, i3⟩ hk2
      rw [e_X12_keep_11, nI_1, k12, if_neg (by rw [nI_leI (by omega) (by omega)]; omega)]
      obtain ⟨D2, e, e1, e2, e3⟩ := E_move (F := F) (P := P) hF (D := D1) (j := i) (by omega)
      rw [e, Option.bind_some]
      simp only [xlet]
      refine hk2 D2 ⟨ch_trans i1 e1, fun a ha => ?_, fun a ha => ?_⟩
      · by_cases ea : a = i
        · subst ea
          obtain ⟨s1, s2, s3⟩ := e2
          obtain ⟨r1, r2, r3⟩ := i3 (a + 1) (by omega)
          exact ⟨s1.trans r1, fun w hw => (s2 w hw).trans (r2 w hw), fun c hc => (s3 c hc).trans (r3 c hc)⟩
        · obtain ⟨s1, s2, s3⟩ := e3 a ea
          obtain ⟨r1, r2, r3⟩ := i2 a (by omega)
          exact ⟨s1.trans r1, fun w hw => (s2 w hw).trans (r2 w hw), fun c hc => (s3 c hc).trans (r3 c hc)⟩
      · obtain ⟨s1, s2, s3⟩ := e3 a (by omega)
        obtain ⟨r1, r2, r3⟩ := i3 a (by omega)
        exact ⟨s1.trans r1, fun w hw => (s2 w hw).trans (r2 w hw), fun c hc => (s3 c hc).trans (r3 c hc)⟩
  · rw [if_neg (show ¬ nI k = 12 from fun q => c ((nI_eq (b := 12) (by omega) (by omega)).mp q))]
    obtain ⟨D', e, e1, e2, e3, e4, e5⟩ := E_keep43 (F := F) (P := P) hF (q := k) (by omega) h7
    have hmin : min (k + 1) 12 = k + 1 := Nat.min_eq_left (by omega)
    rw [hmin]
    refine oK_mk e ⟨e1, e2, e3, e4, fun i hi => ?_⟩
    rw [if_neg c]
    exact e5 i (by omega)
