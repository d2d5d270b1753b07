/-! rules: fields, arrays, returns, calls -/
/-- what is known of a row of vwCl -/
def xCB (ci : Nat) (C : String) (T : u_T) (N : Nat) (ty : Nat → FieldType) : Prop := vwCl[ci]? = some (C, T, N) ∧ (∀ w ∈ u_ws C T N, w ∈ xTG) ∧ (∀ k, k < N → parseFieldDescriptor (T k).2.2.1 = some (ty k)) ∧ (∀ a, a < N → ∀ b, b < N → a ≠ b → (T a).2.1 ≠ (T b).2.1) ∧ ci < 100
section xOps
variable {d : xMd} {B : Nat × Nat × Nat} {K : Nat × Nat} {pc : Nat} {lv : List (Nat × Value)} {st : List Value} {M : xMem} {Q : Option Value → xMem → Prop}
theorem xfs_get {G : xG} {M : xMem} {a ci N k : Nat} (hk : k < N) : ((List.range N).map (xfv G M a ci))[k]? = some (xfv G M a ci k) := by simp [hk]
theorem x_geti {idx a ci N k : Nat} {C : String} {T : u_T} {ty : Nat → FieldType} (hC : xCB ci C T N ty) (hk : k < N) (hd : decode d.2.1 pc = .ok (.getfield idx, 3)) (hw : Cond.fieldLink d.1.cls idx (T k).1 (T k).2.1 (T k).2.2.1 ∈ xTG) (ht : xft ci k = 0) (ha : M.1.1[a]? = some (ci, N)) (kk : xEx d B K (pc + 3) lv (.int (M.2.1 a k) :: st) M Q) : xEx d B K pc lv (.ref a :: st) M Q := by
  intro p l e s m args below meth c G A H locs ls X I hl
  exact va_get X.1 X.2.1 X.2.2.2.2.2.1 hC.2.1 X.2.2.2.2.1 X.2.2.2.2.2.2.2.1 I.1 a (xW_obj ha hC.2.2.2.2) hC.1 k hk (X.2.2.2.2.2.1 _ hw) (fun _ h => h) (v := .int (M.2.1 a k)) (by rw [xfs_get hk]; simp [xfv, ht]) hd (kk p l e s m args below meth c G A H locs ls X I hl)
theorem x_getl {idx a ci N k : Nat} {C : String} {T : u_T} {ty : Nat → FieldType} (hC : xCB ci C T N ty) (hk : k < N) (hd : decode d.2.1 pc = .ok (.getfield idx, 3)) (hw : Cond.fieldLink d.1.cls idx (T k).1 (T k).2.1 (T k).2.2.1 ∈ xTG) (ht : xft ci k = 1) (ha : M.1.1[a]? = some (ci, N)) (kk : xEx d B K (pc + 3) lv (.long (M.2.2 a k) :: st) M Q) : xEx d B K pc lv (.ref a :: st) M Q := by
  intro p l e s m args below meth c G A H locs ls X I hl
  exact va_get X.1 X.2.1 X.2.2.2.2.2.1 hC.2.1 X.2.2.2.2.1 X.2.2.2.2.2.2.2.1 I.1 a (xW_obj ha hC.2.2.2.2) hC.1 k hk (X.2.2.2.2.2.1 _ hw) (fun _ h => h) (v := .long (M.2.2 a k)) (by rw [xfs_get hk]; simp [xfv, ht]) hd (kk p l e s m args below meth c G A H locs ls X I hl)
theorem x_getr {idx a ci N k b : Nat} {C : String} {T : u_T} {ty : Nat → FieldType} (hC : xCB ci C T N ty) (hk : k < N) (hd : decode d.2.1 pc = .ok (.getfield idx, 3)) (hw : Cond.fieldLink d.1.cls idx (T k).1 (T k).2.1 (T k).2.2.1 ∈ xTG) (ht : xft ci k = 2) (ha : M.1.1[a]? = some (ci, N)) (hb : M.1.2 a k = some b) (kk : xEx d B K (pc + 3) lv (.ref b :: st) M Q) : xEx d B K pc lv (.ref a :: st) M Q := by
  intro p l e s m args below meth c G A H locs ls X I hl
  exact va_get X.1 X.2.1 X.2.2.2.2.2.1 hC.2.1 X.2.2.2.2.1 X.2.2.2.2.2.2.2.1 I.1 a (xW_obj ha hC.2.2.2.2) hC.1 k hk (X.2.2.2.2.2.1 _ hw) (fun _ h => h) (v := .ref (G.1 + b)) (by rw [xfs_get hk]; simp [xfv, ht, hb, va_rf]) hd (kk p l e s m args below meth c G A H locs ls X I hl)
theorem x_puti {idx a ci N k : Nat} {v : Int32} {C : String} {T : u_T} {ty : Nat → FieldType} (hC : xCB ci C T N ty) (hk : k < N) (hd : decode d.2.1 pc = .ok (.putfield idx, 3)) (hw : Cond.fieldLink d.1.cls idx (T k).1 (T k).2.1 (T k).2.2.1 ∈ xTG) (ht : xft ci k = 0) (hf : (T k).2.2.2 = false) (hn : narrow (ty k) (.int v) = .int v) (hfit : fits (ty k) (.int v) = true) (ha : M.1.1[a]? = some (ci, N)) (kk : xEx d B K (pc + 3) lv st (M.1, (xup M.2.1 a k v, M.2.2)) Q) : xEx d B K pc lv (.int v :: .ref a :: st) M Q := by
  intro p l e s m args below meth c G A H locs ls X I hl
  refine va_put X.1 X.2.1 X.2.2.2.2.2.1 hC.2.1 ty hC.2.2.1 hC.2.2.2.1 X.2.2.2.2.1 X.2.2.2.2.2.2.2.1 I.1 I.2.1 I.2.2.1 a (xW_obj ha hC.2.2.2.2) hC.1 k hk (X.2.2.2.2.2.1 _ hw) (fun _ h => h) hf (v := .int v) (hC.2.2.1 k hk) hn hfit (by simpa using hk) hd (fun H1 locs1 hP hD hS => ?_)
  rw [← xW_puti ha hC.2.2.2.2 hk ht] at hP hD
  exact kk p l e s m args below meth c G A H1 locs1 ls X ⟨hP, hD, hS, I.2.2.2⟩ hl
theorem x_putl {idx a ci N k : Nat} {v : Int64} {C : String} {T : u_T} {ty : Nat → FieldType} (hC : xCB ci C T N ty) (hk : k < N) (hd : decode d.2.1 pc = .ok (.putfield idx, 3)) (hw : Cond.fieldLink d.1.cls idx (T k).1 (T k).2.1 (T k).2.2.1 ∈ xTG) (ht : xft ci k = 1) (hf : (T k).2.2.2 = false) (hn : narrow (ty k) (.long v) = .long v) (hfit : fits (ty k) (.long v) = true) (ha : M.1.1[a]? = some (ci, N)) (kk : xEx d B K (pc + 3) lv st (M.1, (M.2.1, xup M.2.2 a k v)) Q) : xEx d B K pc lv (.long v :: .ref a :: st) M Q := by
  intro p l e s m args below meth c G A H locs ls X I hl
  refine va_put X.1 X.2.1 X.2.2.2.2.2.1 hC.2.1 ty hC.2.2.1 hC.2.2.2.1 X.2.2.2.2.1 X.2.2.2.2.2.2.2.1 I.1 I.2.1 I.2.2.1 a (xW_obj ha hC.2.2.2.2) hC.1 k hk (X.2.2.2.2.2.1 _ hw) (fun _ h => h) hf (v := .long v) (hC.2.2.1 k hk) hn hfit (by simpa using hk) hd (fun H1 locs1 hP hD hS => ?_)
  rw [← xW_putl ha hC.2.2.2.2 hk ht] at hP hD
  exact kk p l e s m args below meth c G A H1 locs1 ls X ⟨hP, hD, hS, I.2.2.2⟩ hl
/-- a final reference field, in a constructor -/
theorem x_putF {idx a ci N k b : Nat} {C : String} {T : u_T} {ty : Nat → FieldType} (hC : xCB ci C T N ty) (hk : k < N) (hd : decode d.2.1 pc = .ok (.putfield idx, 3)) (hw : Cond.fieldLink d.1.cls idx (T k).1 (T k).2.1 (T k).2.2.1 ∈ xTG) (ht : xft ci k = 2) (hf : (T k).2.2.2 = true) (hi : d.1.name = "<init>") (ho : (T k).1 = d.1.cls) (hn : ∀ r : Nat, narrow (ty k) (.ref r) = .ref r) (hfit : ∀ r : Nat, fits (ty k) (.ref r) = true) (ha : M.1.1[a]? = some (ci, N)) (kk : xEx d B K (pc + 3) lv st ((M.1.1, xup M.1.2 a k (some b)), M.2) Q) : xEx d B K pc lv (.ref b :: .ref a :: st) M Q := by
  intro p l e s m args below meth c G A H locs ls X I hl
  refine va_putF X.1 X.2.1 X.2.2.2.2.2.1 hC.2.1 ty hC.2.2.1 hC.2.2.2.1 X.2.2.2.2.1 X.2.2.2.2.2.2.2.1 I.1 I.2.1 I.2.2.1 a (xW_obj ha hC.2.2.2.2) hC.1 k hk (X.2.2.2.2.2.1 _ hw) (fun _ h => h) hf (X.2.2.2.2.2.2.2.2.2.2.2.2.trans hi) ho (v := .ref (G.1 + b)) (hC.2.2.1 k hk) (hn _) (hfit _) (by simpa using hk) hd (fun H1 locs1 hP hD hS => ?_)
  rw [← xW_putr ha hC.2.2.2.2 hk ht] at hP hD
  exact kk p l e s m args below meth c G A H1 locs1 ls X ⟨hP, hD, hS, I.2.2.2⟩ hl
/-! arrays -/
def xin (i : Int32) (n : Nat) : Bool := decide (0 ≤ i) && decide (i.toNatClampNeg < n)
theorem xin_vp {i : Int32} {n : Nat} (h : xin i n = true) : vp_in i n := by
  simp only [xin, Bool.and_eq_true, decide_eq_true_eq] at h
  intro q
  rcases q with q | q
  · exact absurd h.1 (Int32.not_le.mpr q)
  · omega
theorem x_alen {a t n : Nat} (hd : decode d.2.1 pc = .ok (.arraylength, 1)) (ha : M.1.1[a]? = some (t, n)) (ht : t = 100 ∨ t = 101 ∨ t = 202 ∨ t = 210 ∨ t = 102 ∨ t = 103 ∨ t = 104) (kk : xEx d B K (pc + 1) lv (.int (Int32.ofNat n) :: st) M Q) : xEx d B K pc lv (.ref a :: st) M Q := by
  intro p l e s m args below meth c G A H locs ls X I hl
  have k' := kk p l e s m args below meth c G A H locs ls X I hl
  rcases ht with rfl | rfl | rfl | rfl | rfl | rfl | rfl
  · exact va_alen X.1 X.2.1 X.2.2.2.2.2.2.2.1 I.1 a 0 (xW_int ha (by decide) (by decide) (by decide)) rfl rfl hd k'
  · exact va_alen X.1 X.2.1 X.2.2.2.2.2.2.2.1 I.1 a 1 (xW_long ha) rfl rfl hd k'
  · exact va_alen X.1 X.2.1 X.2.2.2.2.2.2.2.1 I.1 a 6 (xW_refs ha (by decide)) rfl rfl hd k'
  · exact va_alen X.1 X.2.1 X.2.2.2.2.2.2.2.1 I.1 a 5 (xW_refs ha (by decide)) rfl rfl hd k'
  · exact va_alen X.1 X.2.1 X.2.2.2.2.2.2.2.1 I.1 a 2 (xW_int ha (by decide) (by decide) (by decide)) rfl rfl hd k'
  · exact va_alen X.1 X.2.1 X.2.2.2.2.2.2.2.1 I.1 a 3 (xW_int ha (by decide) (by decide) (by decide)) rfl rfl hd k'
  · exact va_alen X.1 X.2.1 X.2.2.2.2.2.2.2.1 I.1 a 4 (xW_int ha (by decide) (by decide) (by decide)) rfl rfl hd k'
theorem x_iald {a n : Nat} {i : Int32} (hd : decode d.2.1 pc = .ok (.iaload, 1)) (ha : M.1.1[a]? = some (100, n)) (hi : xin i n = true) (kk : xEx d B K (pc + 1) lv (.int (M.2.1 a i.toNatClampNeg) :: st) M Q) : xEx d B K pc lv (.int i :: .ref a :: st) M Q := fun p l e s m args below meth c G A H locs ls X I hl =>
  va_iald X.1 X.2.1 X.2.2.2.2.2.2.2.1 I.1 a 0 (xW_int ha (by decide) (by decide) (by decide)) rfl (xin_vp hi) hd (kk p l e s m args below meth c G A H locs ls X I hl)
theorem x_cald {a n : Nat} {i : Int32} (hd : decode d.2.1 pc = .ok (.caload, 1)) (ha : M.1.1[a]? = some (102, n)) (hi : xin i n = true) (kk : xEx d B K (pc + 1) lv (.int (M.2.1 a i.toNatClampNeg) :: st) M Q) : xEx d B K pc lv (.int i :: .ref a :: st) M Q := fun p l e s m args below meth c G A H locs ls X I hl =>
  va_cald X.1 X.2.1 X.2.2.2.2.2.2.2.1 I.1 a 2 (xW_int ha (by decide) (by decide) (by decide)) rfl (xin_vp hi) hd (kk p l e s m args below meth c G A H locs ls X I hl)
theorem x_bald {a n : Nat} {i : Int32} (hd : decode d.2.1 pc = .ok (.baload, 1)) (ha : M.1.1[a]? = some (103, n)) (hi : xin i n = true) (kk : xEx d B K (pc + 1) lv (.int (M.2.1 a i.toNatClampNeg) :: st) M Q) : xEx d B K pc lv (.int i :: .ref a :: st) M Q := fun p l e s m args below meth c G A H locs ls X I hl =>
  va_bald X.1 X.2.1 X.2.2.2.2.2.2.2.1 I.1 a 3 (xW_int ha (by decide) (by decide) (by decide)) rfl (xin_vp hi) hd (kk p l e s m args below meth c G A H locs ls X I hl)
theorem x_zald {a n : Nat} {i : Int32} (hd : decode d.2.1 pc = .ok (.baload, 1)) (ha : M.1.1[a]? = some (104, n)) (hi : xin i n = true) (kk : xEx d B K (pc + 1) lv (.int (M.2.1 a i.toNatClampNeg) :: st) M Q) : xEx d B K pc lv (.int i :: .ref a :: st) M Q := fun p l e s m args below meth c G A H locs ls X I hl =>
  va_zald X.1 X.2.1 X.2.2.2.2.2.2.2.1 I.1 a 4 (xW_int ha (by decide) (by decide) (by decide)) rfl (xin_vp hi) hd (kk p l e s m args below meth c G A H locs ls X I hl)
theorem x_lald {a n : Nat} {i : Int32} (hd : decode d.2.1 pc = .ok (.laload, 1)) (ha : M.1.1[a]? = some (101, n)) (hi : xin i n = true) (kk : xEx d B K (pc + 1) lv (.long (M.2.2 a i.toNatClampNeg) :: st) M Q) : xEx d B K pc lv (.int i :: .ref a :: st) M Q := fun p l e s m args below meth c G A H locs ls X I hl =>
  va_lald X.1 X.2.1 X.2.2.2.2.2.2.2.1 I.1 a 1 (xW_long ha) rfl (xin_vp hi) hd (kk p l e s m args below meth c G A H locs ls X I hl)
theorem x_aald {a n t b : Nat} {i : Int32} (hd : decode d.2.1 pc = .ok (.aaload, 1)) (ha : M.1.1[a]? = some (t, n)) (ht : t = 210 ∨ t = 202) (hi : xin i n = true) (hb : M.1.2 a i.toNatClampNeg = some b) (kk : xEx d B K (pc + 1) lv (.ref b :: st) M Q) : xEx d B K pc lv (.int i :: .ref a :: st) M Q := by
  intro p l e s m args below meth c G A H locs ls X I hl
  have k' := kk p l e s m args below meth c G A H locs ls X I hl
  have e1 : va_rf ((M.1.2 a i.toNatClampNeg).map (fun r => G.1 + r)) = .ref (G.1 + b) := by rw [hb]; rfl
  rcases ht with rfl | rfl
  · refine va_aldq X.1 X.2.1 X.2.2.2.2.2.2.2.1 I.1 a 5 (xW_refs ha (by decide)) rfl (xin_vp hi) hd ?_
    rw [e1]; exact k'
  · refine va_aldq X.1 X.2.1 X.2.2.2.2.2.2.2.1 I.1 a 6 (xW_refs ha (by decide)) rfl (xin_vp hi) hd ?_
    rw [e1]; exact k'
theorem x_iast {a n : Nat} {i x : Int32} (hd : decode d.2.1 pc = .ok (.iastore, 1)) (ha : M.1.1[a]? = some (100, n)) (hi : xin i n = true) (kk : xEx d B K (pc + 1) lv st (M.1, (xup M.2.1 a i.toNatClampNeg x, M.2.2)) Q) : xEx d B K pc lv (.int x :: .int i :: .ref a :: st) M Q := by
  intro p l e s m args below meth c G A H locs ls X I hl
  refine va_iast X.1 X.2.1 X.2.2.2.2.2.2.2.1 I.1 I.2.1 I.2.2.1 a 0 (xW_int ha (by decide) (by decide) (by decide)) rfl (xin_vp hi) hd (fun H1 locs1 hP hD hS => ?_)
  rw [← xW_sti ha (by decide) (by decide) (by decide)] at hP hD
  exact kk p l e s m args below meth c G A H1 locs1 ls X ⟨hP, hD, hS, I.2.2.2⟩ hl
theorem x_cast {a n : Nat} {i x : Int32} (hd : decode d.2.1 pc = .ok (.castore, 1)) (ha : M.1.1[a]? = some (102, n)) (hi : xin i n = true) (kk : xEx d B K (pc + 1) lv st (M.1, (xup M.2.1 a i.toNatClampNeg (ji2c x), M.2.2)) Q) : xEx d B K pc lv (.int x :: .int i :: .ref a :: st) M Q := by
  intro p l e s m args below meth c G A H locs ls X I hl
  refine va_cast X.1 X.2.1 X.2.2.2.2.2.2.2.1 I.1 I.2.1 I.2.2.1 a 2 (xW_int ha (by decide) (by decide) (by decide)) rfl (xin_vp hi) hd (fun H1 locs1 hP hD hS => ?_)
  rw [← xW_sti ha (by decide) (by decide) (by decide)] at hP hD
  exact kk p l e s m args below meth c G A H1 locs1 ls X ⟨hP, hD, hS, I.2.2.2⟩ hl
theorem x_bast {a n : Nat} {i x : Int32} (hd : decode d.2.1 pc = .ok (.bastore, 1)) (ha : M.1.1[a]? = some (103, n)) (hi : xin i n = true) (kk : xEx d B K (pc + 1) lv st (M.1, (xup M.2.1 a i.toNatClampNeg (ji2b x), M.2.2)) Q) : xEx d B K pc lv (.int x :: .int i :: .ref a :: st) M Q := by
  intro p l e s m args below meth c G A H locs ls X I hl
  refine va_bast X.1 X.2.1 X.2.2.2.2.2.2.2.1 I.1 I.2.1 I.2.2.1 a 3 (xW_int ha (by decide) (by decide) (by decide)) rfl (xin_vp hi) hd (fun H1 locs1 hP hD hS => ?_)
  rw [← xW_sti ha (by decide) (by decide) (by decide)] at hP hD
  exact kk p l e s m args below meth c G A H1 locs1 ls X ⟨hP, hD, hS, I.2.2.2⟩ hl
theorem x_zast {a n : Nat} {i x : Int32} (hd : decode d.2.1 pc = .ok (.bastore, 1)) (ha : M.1.1[a]? = some (104, n)) (hi : xin i n = true) (kk : xEx d B K (pc + 1) lv st (M.1, (xup M.2.1 a i.toNatClampNeg (x &&& 1), M.2.2)) Q) : xEx d B K pc lv (.int x :: .int i :: .ref a :: st) M Q := by
  intro p l e s m args below meth c G A H locs ls X I hl
  refine va_zast X.1 X.2.1 X.2.2.2.2.2.2.2.1 I.1 I.2.1 I.2.2.1 a 4 (xW_int ha (by decide) (by decide) (by decide)) rfl (xin_vp hi) hd (fun H1 locs1 hP hD hS => ?_)
  rw [← xW_sti ha (by decide) (by decide) (by decide)] at hP hD
  exact kk p l e s m args below meth c G A H1 locs1 ls X ⟨hP, hD, hS, I.2.2.2⟩ hl
theorem x_last {a n : Nat} {i : Int32} {x : Int64} (hd : decode d.2.1 pc = .ok (.lastore, 1)) (ha : M.1.1[a]? = some (101, n)) (hi : xin i n = true) (kk : xEx d B K (pc + 1) lv st (M.1, (M.2.1, xup M.2.2 a i.toNatClampNeg x)) Q) : xEx d B K pc lv (.long x :: .int i :: .ref a :: st) M Q := by
  intro p l e s m args below meth c G A H locs ls X I hl
  refine va_last X.1 X.2.1 X.2.2.2.2.2.2.2.1 I.1 I.2.1 I.2.2.1 a 1 (xW_long ha) rfl (xin_vp hi) hd (fun H1 locs1 hP hD hS => ?_)
  rw [← xW_stl ha] at hP hD
  exact kk p l e s m args below meth c G A H1 locs1 ls X ⟨hP, hD, hS, I.2.2.2⟩ hl
/-! the static row SET -/
theorem x_getSET {idx : Nat} (hd : decode d.2.1 pc = .ok (.getstatic idx, 3)) (hw : Cond.fieldLink d.1.cls idx RX0 "SET" "[J" ∈ xTG) (kk : xEx d B K (pc + 3) lv (.float 0 :: st) M Q) : xEx d B K pc lv st M Q := fun p l e s m args below meth c G A H locs ls X I hl =>
  va_gets X.1 X.2.1 X.2.2.2.2.2.2.2.2.2.1.1 I.2.2.1 X.2.2.2.2.1 (X.2.2.2.2.2.1 _ hw) (fun _ h => h) hd (kk p l e s m args below meth c G A H locs ls X I hl)
def xSETv (j : Nat) : Int64 := match j with | 0 => 0xAAAAAAAAAAAAAAAA | 1 => 0xCCCCCCCCCCCCCCCC | 2 => 0xF0F0F0F0F0F0F0F0 | 3 => 0xFF00FF00FF00FF00 | 4 => 0xFFFF0000FFFF0000 | _ => 0xFFFFFFFF00000000
theorem x_SETld {i : Int32} (hd : decode d.2.1 pc = .ok (.laload, 1)) (hi : xin i 6 = true) (kk : xEx d B K (pc + 1) lv (.long (xSETv i.toNatClampNeg) :: st) M Q) : xEx d B K pc lv (.int i :: .float 0 :: st) M Q := fun p l e s m args below meth c G A H locs ls X I hl =>
  va_tl X.1 X.2.1 X.2.2.2.2.2.2.2.2.2.1.2.1 I.2.2.1 (xin_vp hi) rfl hd (kk p l e s m args below meth c G A H locs ls X I hl)
/-! returns -/
theorem x_iret {x : Int32} {ty : FieldType} (hr : d.2.2.2 = some ty) (hn : narrow ty (.int x) = .int x) (h1 : K.1 ≤ B.2.1) (h2 : K.2 ≤ B.2.2) (hd : decode d.2.1 pc = .ok (.ireturn, 1)) (hQ : Q (some (.int x)) M) : xEx d B K pc lv [.int x] M Q := by
  intro p l e s m args below meth c G A H locs ls X I hl
  refine W.widen h1 h2 ?_
  exact W.zret X.1 X.2.1 (X.2.2.2.1.trans hr) hn (fun t ht hW => ⟨⟨_, M, rfl, hQ, by rw [ht]; exact I.1, I.2.1⟩, I.2.2.1.F ht⟩) I.2.2.1.2.2 hd X.2.2.2.2.2.2.1
theorem x_lret {x : Int64} (hr : d.2.2.2 = some .long) (h1 : K.1 ≤ B.2.1) (h2 : K.2 ≤ B.2.2) (hd : decode d.2.1 pc = .ok (.lreturn, 1)) (hQ : Q (some (.long x)) M) : xEx d B K pc lv [.long x] M Q := by
  intro p l e s m args below meth c G A H locs ls X I hl
  refine W.widen h1 h2 ?_
  exact W.lret X.1 X.2.1 (X.2.2.2.1.trans hr) (fun t ht hW => ⟨⟨_, M, rfl, hQ, by rw [ht]; exact I.1, I.2.1⟩, I.2.2.1.F ht⟩) I.2.2.1.2.2 hd X.2.2.2.2.2.2.1
theorem x_vret (hr : d.2.2.2 = none) (h1 : K.1 ≤ B.2.1) (h2 : K.2 ≤ B.2.2) (hd : decode d.2.1 pc = .ok (.return_, 1)) (hQ : Q none M) : xEx d B K pc lv [] M Q := by
  intro p l e s m args below meth c G A H locs ls X I hl
  refine W.widen h1 h2 ?_
  exact W.vret X.1 X.2.1 (X.2.2.2.1.trans hr) (fun t ht hW => ⟨⟨none, M, rfl, hQ, by rw [ht]; exact I.1, I.2.1⟩, I.2.2.1.F ht⟩) I.2.2.1.2.2 hd X.2.2.2.2.2.2.1
theorem x_aret {b : Nat} {nm : String} (hr : d.2.2.2 = some (.object nm)) (h1 : K.1 ≤ B.2.1) (h2 : K.2 ≤ B.2.2) (hd : decode d.2.1 pc = .ok (.areturn, 1)) (hQ : Q (some (.ref b)) M) : xEx d B K pc lv [.ref b] M Q := by
  intro p l e s m args below meth c G A H locs ls X I hl
  refine W.widen h1 h2 ?_
  exact W.aret X.1 X.2.1 (X.2.2.2.1.trans hr) (Or.inl ⟨_, rfl⟩) (Or.inr ⟨_, rfl⟩) (fun t ht hW => ⟨⟨some (.ref b), M, rfl, hQ, by rw [ht]; exact I.1, I.2.1⟩, I.2.2.1.F ht⟩) I.2.2.1.2.2 hd X.2.2.2.2.2.2.1
end xOps
