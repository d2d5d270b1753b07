/-! THE PLAIN RULES for methods that make nothing: the shape S stays, D is the data -/
def xnfL : List Nat := [10, 6, 2, 6, 4, 3, 13, 5, 10, 4, 3, 15, 44]
def xnf (ci : Nat) : Nat := xnfL.getD ci 0
def xkdL : List (List Nat) := [[100, 8, 101, 101, 101, 101, 101, 101, 100, 999], [999, 202, 100, 101, 100, 100], [100, 999], [100, 104, 101, 101, 999, 999], [100, 101, 100, 100], [210, 999, 999], [102, 999, 2, 102, 100, 100, 100, 100, 104, 999, 999, 999, 999], [100, 100, 2, 999, 999], [100, 100, 100, 100, 100, 100, 100, 999, 999, 999], [102, 999, 100, 999], [999, 101, 101], [10, 5, 1, 6, 2, 9, 3, 4, 7, 0, 100, 100, 999, 999, 999], [999, 999, 100, 100, 100, 100, 100, 999, 100, 100, 100, 100, 100, 999, 999, 103, 999, 999, 999, 999, 103, 999, 100, 100, 100, 999, 100, 100, 100, 101, 101, 100, 100, 100, 100, 100, 999, 100, 999, 104, 100, 100, 100, 104]]
def xkd (ci k : Nat) : Nat := (xkdL.getD ci []).getD k 999
def xl (S : xSt) (a : Nat) : Nat := (S.1.getD a (0, 0)).2
def xr (S : xSt) (a k : Nat) : Nat := (S.2 a k).getD 0
/-- the cell a is of the kind kd -/
def xK (S : xSt) (a kd : Nat) : Prop := ∃ n, S.1[a]? = some (kd, n) ∧ (kd < 100 → n = xnf kd)
theorem xK.obj {S : xSt} {a kd : Nat} (h : xK S a kd) (hk : kd < 100) : S.1[a]? = some (kd, xnf kd) := by
  obtain ⟨n, h1, h2⟩ := h
  rw [h1, h2 hk]
theorem xK.arr {S : xSt} {a kd : Nat} (h : xK S a kd) : S.1[a]? = some (kd, xl S a) := by
  obtain ⟨n, h1, h2⟩ := h
  rw [h1]
  simp [xl, List.getD_eq_getElem?_getD, h1]
/-- the same, as a test -/
def xkb (S : xSt) (a kd : Nat) : Bool := decide (S.1[a]? = some (kd, if kd < 100 then xnf kd else xl S a))
theorem xkb_K {S : xSt} {a kd : Nat} (h : xkb S a kd = true) : xK S a kd := by
  simp only [xkb, decide_eq_true_eq] at h
  exact ⟨_, h, fun hk => by rw [if_pos hk]⟩
/-- every reference field, and every place of a row of references, holds a cell of its kind -/
def xWF (S : xSt) : Prop := ∀ a ci, xK S a ci → (ci < 100 → ∀ k, k < xnf ci → xft ci k = 2 → ∃ b, S.2 a k = some b ∧ xK S b (xkd ci k)) ∧ (200 ≤ ci → ∀ i, i < xl S a → ∃ b, S.2 a i = some b ∧ xK S b (ci - 200))
def xff (ci k kd : Nat) : Bool := decide (ci < 100) && decide (k < xnf ci) && decide (xft ci k = 2) && decide (xkd ci k = kd)
theorem xWF.f {S : xSt} (h : xWF S) {a ci : Nat} (ha : xK S a ci) (k kd : Nat) (hk : xff ci k kd = true) : S.2 a k = some (xr S a k) ∧ xK S (xr S a k) kd := by
  simp only [xff, Bool.and_eq_true, decide_eq_true_eq] at hk
  obtain ⟨⟨⟨h1, h2⟩, h3⟩, rfl⟩ := hk
  obtain ⟨b, e1, e2⟩ := (h a ci ha).1 h1 k h2 h3
  have : xr S a k = b := by simp [xr, e1]
  rw [this]
  exact ⟨e1, e2⟩
theorem xWF.e {S : xSt} (h : xWF S) {a ci : Nat} (ha : xK S a ci) (hc : 200 ≤ ci) {i : Nat} (hi : i < xl S a) : S.2 a i = some (xr S a i) ∧ xK S (xr S a i) (ci - 200) := by
  obtain ⟨b, e1, e2⟩ := (h a ci ha).2 hc i hi
  have : xr S a i = b := by simp [xr, e1]
  rw [this]
  exact ⟨e1, e2⟩
abbrev yEx (d : xMd) (h : Nat) (pc : Nat) (lv : List (Nat × Value)) (st : List Value) (S : xSt) (D : xDt) (Q : Option Value → xMem → Prop) : Prop := xEx d (h, 0, 0) (0, 0) pc lv st (S, D) Q
def xQi (S : xSt) (q : Int32 × xDt) : Option Value → xMem → Prop := fun v M => v = some (.int q.1) ∧ M = (S, q.2)
def xQl (S : xSt) (q : Int64 × xDt) : Option Value → xMem → Prop := fun v M => v = some (.long q.1) ∧ M = (S, q.2)
def xQr (S : xSt) (q : Nat × xDt) : Option Value → xMem → Prop := fun v M => v = some (.ref q.1) ∧ M = (S, q.2)
def xQv (S : xSt) (q : xDt) : Option Value → xMem → Prop := fun v M => v = none ∧ M = (S, q)
/-! the pieces of plain programs -/
def xlet {α β : Type} (a : α) (f : α → β) : β := f a
def xgrd {β : Type} (c : Bool) (o : Option β) : Option β := if c = true then o else none
theorem xlet_e {α β : Type} {a : α} {f : α → Option β} {r : β} {P : Prop} (h : xlet a f = some r) (k : ∀ x, x = a → f x = some r → P) : P := k a rfl h
theorem xgrd_e {β : Type} {c : Bool} {o : Option β} {r : β} {P : Prop} (h : xgrd c o = some r) (k : c = true → o = some r → P) : P := by
  unfold xgrd at h
  split at h
  · exact k (by assumption) h
  · cases h
theorem xbnd_e {α β : Type} {o : Option α} {f : α → Option β} {r : β} {P : Prop} (h : o.bind f = some r) (k : ∀ q, o = some q → f q = some r → P) : P := by
  cases o with
  | none => cases h
  | some q => exact k q rfl h
def xb (x : Int32) : Bool := decide (x = 0) || decide (x = 1)
theorem xb_nar {x : Int32} (h : xb x = true) : narrow .boolean (.int x) = .int x := by
  simp only [xb, Bool.or_eq_true, decide_eq_true_eq] at h
  rcases h with rfl | rfl <;> rfl
theorem xb_fit {x : Int32} (h : xb x = true) : fits .boolean (.int x) = true := by
  simp only [xb, Bool.or_eq_true, decide_eq_true_eq] at h
  rcases h with rfl | rfl <;> rfl
def xFL (own : String) (idx ci k : Nat) : Prop := ∃ (C : String) (T : u_T) (ty : Nat → FieldType), xCB ci C T (xnf ci) ty ∧ k < xnf ci ∧ Cond.fieldLink own idx (T k).1 (T k).2.1 (T k).2.2.1 ∈ xTG
def xFP (own : String) (idx ci k : Nat) (t : FieldType) : Prop := ∃ (C : String) (T : u_T) (ty : Nat → FieldType), xCB ci C T (xnf ci) ty ∧ k < xnf ci ∧ Cond.fieldLink own idx (T k).1 (T k).2.1 (T k).2.2.1 ∈ xTG ∧ (T k).2.2.2 = false ∧ ty k = t
section yRules
variable {d d' : xMd} {h h' : Nat} {pc : Nat} {lv : List (Nat × Value)} {st : List Value} {S : xSt} {D D' : xDt} {Q : Option Value → xMem → Prop} {a ci k idx : Nat}
theorem y_geti (hF : xFL d.1.cls idx ci k) (hd : decode d.2.1 pc = .ok (.getfield idx, 3)) (ht : xft ci k = 0) (ha : xK S a ci) (kk : yEx d h (pc + 3) lv (.int (D.1 a k) :: st) S D Q) : yEx d h pc lv (.ref a :: st) S D Q := by
  obtain ⟨C, T, ty, h1, h2, h3⟩ := hF
  exact x_geti h1 h2 hd h3 ht (ha.obj h1.2.2.2.2) kk
theorem y_getl (hF : xFL d.1.cls idx ci k) (hd : decode d.2.1 pc = .ok (.getfield idx, 3)) (ht : xft ci k = 1) (ha : xK S a ci) (kk : yEx d h (pc + 3) lv (.long (D.2 a k) :: st) S D Q) : yEx d h pc lv (.ref a :: st) S D Q := by
  obtain ⟨C, T, ty, h1, h2, h3⟩ := hF
  exact x_getl h1 h2 hd h3 ht (ha.obj h1.2.2.2.2) kk
theorem y_getr {kd : Nat} (hS : xWF S) (hF : xFL d.1.cls idx ci k) (hd : decode d.2.1 pc = .ok (.getfield idx, 3)) (ht : xff ci k kd = true) (ha : xK S a ci) (kk : yEx d h (pc + 3) lv (.ref (xr S a k) :: st) S D Q) : yEx d h pc lv (.ref a :: st) S D Q := by
  obtain ⟨C, T, ty, h1, h2, h3⟩ := hF
  have h4 := (hS.f ha k kd ht).1
  simp only [xff, Bool.and_eq_true, decide_eq_true_eq] at ht
  exact x_getr h1 h2 hd h3 ht.1.2 (ha.obj h1.2.2.2.2) h4 kk
theorem y_puti {v : Int32} (hF : xFP d.1.cls idx ci k .int) (hd : decode d.2.1 pc = .ok (.putfield idx, 3)) (ht : xft ci k = 0) (ha : xK S a ci) (hD : D' = (xup D.1 a k v, D.2)) (kk : yEx d h (pc + 3) lv st S D' Q) : yEx d h pc lv (.int v :: .ref a :: st) S D Q := by
  obtain ⟨C, T, ty, h1, h2, h3, h4, h5⟩ := hF
  subst hD
  exact x_puti h1 h2 hd h3 ht h4 (by rw [h5]; rfl) (by rw [h5]; rfl) (ha.obj h1.2.2.2.2) kk
theorem y_putz {v : Int32} (hv : xb v = true) (hF : xFP d.1.cls idx ci k .boolean) (hd : decode d.2.1 pc = .ok (.putfield idx, 3)) (ht : xft ci k = 0) (ha : xK S a ci) (hD : D' = (xup D.1 a k v, D.2)) (kk : yEx d h (pc + 3) lv st S D' Q) : yEx d h pc lv (.int v :: .ref a :: st) S D Q := by
  obtain ⟨C, T, ty, h1, h2, h3, h4, h5⟩ := hF
  subst hD
  exact x_puti h1 h2 hd h3 ht h4 (by rw [h5]; exact xb_nar hv) (by rw [h5]; exact xb_fit hv) (ha.obj h1.2.2.2.2) kk
theorem y_putl {v : Int64} (hF : xFP d.1.cls idx ci k .long) (hd : decode d.2.1 pc = .ok (.putfield idx, 3)) (ht : xft ci k = 1) (ha : xK S a ci) (hD : D' = (D.1, xup D.2 a k v)) (kk : yEx d h (pc + 3) lv st S D' Q) : yEx d h pc lv (.long v :: .ref a :: st) S D Q := by
  obtain ⟨C, T, ty, h1, h2, h3, h4, h5⟩ := hF
  subst hD
  exact x_putl h1 h2 hd h3 ht h4 (by rw [h5]; rfl) (by rw [h5]; rfl) (ha.obj h1.2.2.2.2) kk
theorem y_alen {t : Nat} (hd : decode d.2.1 pc = .ok (.arraylength, 1)) (ha : xK S a t) (ht : t = 100 ∨ t = 101 ∨ t = 202 ∨ t = 210 ∨ t = 102 ∨ t = 103 ∨ t = 104) (kk : yEx d h (pc + 1) lv (.int (Int32.ofNat (xl S a)) :: st) S D Q) : yEx d h pc lv (.ref a :: st) S D Q := x_alen hd ha.arr ht kk
theorem y_iald {i : Int32} (hd : decode d.2.1 pc = .ok (.iaload, 1)) (ha : xK S a 100) (hi : xin i (xl S a) = true) (kk : yEx d h (pc + 1) lv (.int (D.1 a i.toNatClampNeg) :: st) S D Q) : yEx d h pc lv (.int i :: .ref a :: st) S D Q := x_iald hd ha.arr hi kk
theorem y_cald {i : Int32} (hd : decode d.2.1 pc = .ok (.caload, 1)) (ha : xK S a 102) (hi : xin i (xl S a) = true) (kk : yEx d h (pc + 1) lv (.int (D.1 a i.toNatClampNeg) :: st) S D Q) : yEx d h pc lv (.int i :: .ref a :: st) S D Q := x_cald hd ha.arr hi kk
theorem y_bald {i : Int32} (hd : decode d.2.1 pc = .ok (.baload, 1)) (ha : xK S a 103) (hi : xin i (xl S a) = true) (kk : yEx d h (pc + 1) lv (.int (D.1 a i.toNatClampNeg) :: st) S D Q) : yEx d h pc lv (.int i :: .ref a :: st) S D Q := x_bald hd ha.arr hi kk
theorem y_zald {i : Int32} (hd : decode d.2.1 pc = .ok (.baload, 1)) (ha : xK S a 104) (hi : xin i (xl S a) = true) (kk : yEx d h (pc + 1) lv (.int (D.1 a i.toNatClampNeg) :: st) S D Q) : yEx d h pc lv (.int i :: .ref a :: st) S D Q := x_zald hd ha.arr hi kk
theorem y_lald {i : Int32} (hd : decode d.2.1 pc = .ok (.laload, 1)) (ha : xK S a 101) (hi : xin i (xl S a) = true) (kk : yEx d h (pc + 1) lv (.long (D.2 a i.toNatClampNeg) :: st) S D Q) : yEx d h pc lv (.int i :: .ref a :: st) S D Q := x_lald hd ha.arr hi kk
theorem xin_lt {i : Int32} {n : Nat} (h : xin i n = true) : i.toNatClampNeg < n := by
  simp only [xin, Bool.and_eq_true, decide_eq_true_eq] at h
  exact h.2
theorem y_aald {i : Int32} (hS : xWF S) (hd : decode d.2.1 pc = .ok (.aaload, 1)) (ha : xK S a ci) (hc : ci = 210 ∨ ci = 202) (hi : xin i (xl S a) = true) (kk : yEx d h (pc + 1) lv (.ref (xr S a i.toNatClampNeg) :: st) S D Q) : yEx d h pc lv (.int i :: .ref a :: st) S D Q := x_aald hd ha.arr hc hi (hS.e ha (by omega) (xin_lt hi)).1 kk
theorem y_iast {i x : Int32} (hd : decode d.2.1 pc = .ok (.iastore, 1)) (ha : xK S a 100) (hi : xin i (xl S a) = true) (hD : D' = (xup D.1 a i.toNatClampNeg x, D.2)) (kk : yEx d h (pc + 1) lv st S D' Q) : yEx d h pc lv (.int x :: .int i :: .ref a :: st) S D Q := by subst hD; exact x_iast hd ha.arr hi kk
theorem y_cast {i x : Int32} (hd : decode d.2.1 pc = .ok (.castore, 1)) (ha : xK S a 102) (hi : xin i (xl S a) = true) (hD : D' = (xup D.1 a i.toNatClampNeg (ji2c x), D.2)) (kk : yEx d h (pc + 1) lv st S D' Q) : yEx d h pc lv (.int x :: .int i :: .ref a :: st) S D Q := by subst hD; exact x_cast hd ha.arr hi kk
theorem y_bast {i x : Int32} (hd : decode d.2.1 pc = .ok (.bastore, 1)) (ha : xK S a 103) (hi : xin i (xl S a) = true) (hD : D' = (xup D.1 a i.toNatClampNeg (ji2b x), D.2)) (kk : yEx d h (pc + 1) lv st S D' Q) : yEx d h pc lv (.int x :: .int i :: .ref a :: st) S D Q := by subst hD; exact x_bast hd ha.arr hi kk
theorem y_zast {i x : Int32} (hd : decode d.2.1 pc = .ok (.bastore, 1)) (ha : xK S a 104) (hi : xin i (xl S a) = true) (hD : D' = (xup D.1 a i.toNatClampNeg (x &&& 1), D.2)) (kk : yEx d h (pc + 1) lv st S D' Q) : yEx d h pc lv (.int x :: .int i :: .ref a :: st) S D Q := by subst hD; exact x_zast hd ha.arr hi kk
theorem y_last {i : Int32} {x : Int64} (hd : decode d.2.1 pc = .ok (.lastore, 1)) (ha : xK S a 101) (hi : xin i (xl S a) = true) (hD : D' = (D.1, xup D.2 a i.toNatClampNeg x)) (kk : yEx d h (pc + 1) lv st S D' Q) : yEx d h pc lv (.long x :: .int i :: .ref a :: st) S D Q := by subst hD; exact x_last hd ha.arr hi kk
/-- arraycopy's words -/
def xCPw (own : String) (idx : Nat) : Prop := Cond.methodLink own idx arraycopyName ∈ xTG ∧ Cond.native arraycopyName ∈ xTG ∧ Cond.static arraycopyName ∈ xTG ∧ Cond.initialized "java/lang/System" ∈ xTG
theorem y_copyi {a0 : Nat} {sp dp n : Int32} (hw : xCPw d.1.cls idx) (hd : decode d.2.1 pc = .ok (.invokestatic idx, 3)) (ha0 : xK S a0 100) (ha : xK S a 100) (hi : xcpin sp dp n (xl S a0) (xl S a) = true) (hst : (st.map fun v => v.category).sum ≤ 8) (hB : 1 ≤ h) (hD : D' = (xcp D.1 a0 a sp.toNatClampNeg dp.toNatClampNeg n.toNatClampNeg, D.2)) (kk : yEx d h (pc + 3) lv st S D' Q) : yEx d h pc lv (.int n :: .int dp :: .ref a :: .int sp :: .ref a0 :: st) S D Q := by
  subst hD
  exact x_copyi hd hw.1 hw.2.1 hw.2.2.1 hw.2.2.2 ha0.arr ha.arr hi hst hB kk
theorem y_copyl {a0 : Nat} {sp dp n : Int32} (hw : xCPw d.1.cls idx) (hd : decode d.2.1 pc = .ok (.invokestatic idx, 3)) (ha0 : xK S a0 101) (ha : xK S a 101) (hi : xcpin sp dp n (xl S a0) (xl S a) = true) (hst : (st.map fun v => v.category).sum ≤ 8) (hB : 1 ≤ h) (hD : D' = (D.1, xcp D.2 a0 a sp.toNatClampNeg dp.toNatClampNeg n.toNatClampNeg)) (kk : yEx d h (pc + 3) lv st S D' Q) : yEx d h pc lv (.int n :: .int dp :: .ref a :: .int sp :: .ref a0 :: st) S D Q := by
  subst hD
  exact x_copyl hd hw.1 hw.2.1 hw.2.2.1 hw.2.2.2 ha0.arr ha.arr hi hst hB kk
def xMXw (own : String) (idx : Nat) : Prop := Cond.methodLink own idx Lib.Math.max.name ∈ xTG ∧ Cond.static Lib.Math.max.name ∈ xTG ∧ Cond.initialized "java/lang/Math" ∈ xTG ∧ Cond.code Lib.Math.max.name Lib.Math.max.code 2 (some .int) ∈ xTG
def xMNw (own : String) (idx : Nat) : Prop := Cond.methodLink own idx Lib.Math.min.name ∈ xTG ∧ Cond.static Lib.Math.min.name ∈ xTG ∧ Cond.initialized "java/lang/Math" ∈ xTG ∧ Cond.code Lib.Math.min.name Lib.Math.min.code 2 (some .int) ∈ xTG
theorem y_max {x y : Int32} (hw : xMXw d.1.cls idx) (hd : decode d.2.1 pc = .ok (.invokestatic idx, 3)) (hst : (st.map fun v => v.category).sum ≤ 8) (hB : 1 ≤ h) (kk : yEx d h (pc + 3) lv (.int (jmax x y) :: st) S D Q) : yEx d h pc lv (.int y :: .int x :: st) S D Q := x_max hd hw.1 hw.2.1 hw.2.2.1 hw.2.2.2 hst hB (Nat.le_refl _) (Nat.le_refl _) kk
theorem y_min {x y : Int32} (hw : xMNw d.1.cls idx) (hd : decode d.2.1 pc = .ok (.invokestatic idx, 3)) (hst : (st.map fun v => v.category).sum ≤ 8) (hB : 1 ≤ h) (kk : yEx d h (pc + 3) lv (.int (jmin x y) :: st) S D Q) : yEx d h pc lv (.int y :: .int x :: st) S D Q := x_min hd hw.1 hw.2.1 hw.2.2.1 hw.2.2.2 hst hB (Nat.le_refl _) (Nat.le_refl _) kk
/-! calls -/
def xCV (own : String) (idx : Nat) (d' : xMd) (ci n : Nat) : Prop := ∃ (C : String) (T : u_T) (ty : Nat → FieldType), xCB ci C T (xnf ci) ty ∧ d'.1.cls = C ∧ xcw d' n ∧ Cond.methodLink own idx d'.1 ∈ xTG ∧ Cond.instanceMethod d'.1 ∈ xTG ∧ Cond.selects C d'.1 d'.1 ∈ xTG
def xCS (own : String) (idx : Nat) (d' : xMd) (n : Nat) : Prop := xcw d' n ∧ Cond.methodLink own idx d'.1 ∈ xTG ∧ Cond.static d'.1 ∈ xTG
def xCSN (own : String) (idx : Nat) (d' : xMd) (n : Nat) : Prop := ∃ host : String, xcw d' n ∧ Cond.methodLinkNest own idx d'.1 host ∈ xNW ∧ Cond.static d'.1 ∈ xTG
theorem y_callVi {n : Nat} {As : List Value} {q : Int32 × xDt} (hc : xCV d.1.cls idx d' ci n) (hd : decode d.2.1 pc = .ok (.invokevirtual idx, 3)) (ha : xK S a ci) (hn : As.length = n) (hst : (st.map fun v => v.category).sum ≤ 8) (hB : h' + 1 ≤ h) (hM : xSp d' (h', 0, 0) (.ref a :: As) (S, D) (xQi S q)) (kk : yEx d h (pc + 3) lv (.int q.1 :: st) S q.2 Q) : yEx d h pc lv (As.reverse ++ .ref a :: st) S D Q := by
  obtain ⟨C, T, ty, h1, h2, h3, h4, h5, h6⟩ := hc
  refine x_callV (B' := (h', 0, 0)) h1 (ha.obj h1.2.2.2.2) h2 h3 hd h4 h5 h6 hn hst hB (Nat.le_refl _) (Nat.le_refl _) hM ?_ ?_
  · rintro v M' ⟨rfl, rfl⟩; rfl
  · rintro v M' ⟨rfl, rfl⟩; exact kk
theorem y_callVl {n : Nat} {As : List Value} {q : Int64 × xDt} (hc : xCV d.1.cls idx d' ci n) (hd : decode d.2.1 pc = .ok (.invokevirtual idx, 3)) (ha : xK S a ci) (hn : As.length = n) (hst : (st.map fun v => v.category).sum ≤ 8) (hB : h' + 1 ≤ h) (hM : xSp d' (h', 0, 0) (.ref a :: As) (S, D) (xQl S q)) (kk : yEx d h (pc + 3) lv (.long q.1 :: st) S q.2 Q) : yEx d h pc lv (As.reverse ++ .ref a :: st) S D Q := by
  obtain ⟨C, T, ty, h1, h2, h3, h4, h5, h6⟩ := hc
  refine x_callV (B' := (h', 0, 0)) h1 (ha.obj h1.2.2.2.2) h2 h3 hd h4 h5 h6 hn hst hB (Nat.le_refl _) (Nat.le_refl _) hM ?_ ?_
  · rintro v M' ⟨rfl, rfl⟩; rfl
  · rintro v M' ⟨rfl, rfl⟩; exact kk
theorem y_callVr {n : Nat} {As : List Value} {q : Nat × xDt} (hc : xCV d.1.cls idx d' ci n) (hd : decode d.2.1 pc = .ok (.invokevirtual idx, 3)) (ha : xK S a ci) (hn : As.length = n) (hst : (st.map fun v => v.category).sum ≤ 8) (hB : h' + 1 ≤ h) (hM : xSp d' (h', 0, 0) (.ref a :: As) (S, D) (xQr S q)) (kk : yEx d h (pc + 3) lv (.ref q.1 :: st) S q.2 Q) : yEx d h pc lv (As.reverse ++ .ref a :: st) S D Q := by
  obtain ⟨C, T, ty, h1, h2, h3, h4, h5, h6⟩ := hc
  refine x_callV (B' := (h', 0, 0)) h1 (ha.obj h1.2.2.2.2) h2 h3 hd h4 h5 h6 hn hst hB (Nat.le_refl _) (Nat.le_refl _) hM ?_ ?_
  · rintro v M' ⟨rfl, rfl⟩; rfl
  · rintro v M' ⟨rfl, rfl⟩; exact kk
theorem y_callVv {n : Nat} {As : List Value} {q : xDt} (hc : xCV d.1.cls idx d' ci n) (hd : decode d.2.1 pc = .ok (.invokevirtual idx, 3)) (ha : xK S a ci) (hn : As.length = n) (hst : (st.map fun v => v.category).sum ≤ 8) (hB : h' + 1 ≤ h) (hM : xSp d' (h', 0, 0) (.ref a :: As) (S, D) (xQv S q)) (kk : yEx d h (pc + 3) lv (st) S q Q) : yEx d h pc lv (As.reverse ++ .ref a :: st) S D Q := by
  obtain ⟨C, T, ty, h1, h2, h3, h4, h5, h6⟩ := hc
  refine x_callV (B' := (h', 0, 0)) h1 (ha.obj h1.2.2.2.2) h2 h3 hd h4 h5 h6 hn hst hB (Nat.le_refl _) (Nat.le_refl _) hM ?_ ?_
  · rintro v M' ⟨rfl, rfl⟩; rfl
  · rintro v M' ⟨rfl, rfl⟩; exact kk
theorem y_callSi {n : Nat} {As : List Value} {q : Int32 × xDt} (hc : xCS d.1.cls idx d' n) (hd : decode d.2.1 pc = .ok (.invokestatic idx, 3)) (hn : As.length = n) (hst : (st.map fun v => v.category).sum ≤ 8) (hB : h' + 1 ≤ h) (hM : xSp d' (h', 0, 0) As (S, D) (xQi S q)) (kk : yEx d h (pc + 3) lv (.int q.1 :: st) S q.2 Q) : yEx d h pc lv (As.reverse ++ st) S D Q := by
  obtain ⟨h1, h2, h3⟩ := hc
  refine x_callS (B' := (h', 0, 0)) h1 hd h2 h3 hn hst hB (Nat.le_refl _) (Nat.le_refl _) hM ?_ ?_
  · rintro v M' ⟨rfl, rfl⟩; rfl
  · rintro v M' ⟨rfl, rfl⟩; exact kk
theorem y_callSl {n : Nat} {As : List Value} {q : Int64 × xDt} (hc : xCS d.1.cls idx d' n) (hd : decode d.2.1 pc = .ok (.invokestatic idx, 3)) (hn : As.length = n) (hst : (st.map fun v => v.category).sum ≤ 8) (hB : h' + 1 ≤ h) (hM : xSp d' (h', 0, 0) As (S, D) (xQl S q)) (kk : yEx d h (pc + 3) lv (.long q.1 :: st) S q.2 Q) : yEx d h pc lv (As.reverse ++ st) S D Q := by
  obtain ⟨h1, h2, h3⟩ := hc
  refine x_callS (B' := (h', 0, 0)) h1 hd h2 h3 hn hst hB (Nat.le_refl _) (Nat.le_refl _) hM ?_ ?_
  · rintro v M' ⟨rfl, rfl⟩; rfl
  · rintro v M' ⟨rfl, rfl⟩; exact kk
theorem y_callSr {n : Nat} {As : List Value} {q : Nat × xDt} (hc : xCS d.1.cls idx d' n) (hd : decode d.2.1 pc = .ok (.invokestatic idx, 3)) (hn : As.length = n) (hst : (st.map fun v => v.category).sum ≤ 8) (hB : h' + 1 ≤ h) (hM : xSp d' (h', 0, 0) As (S, D) (xQr S q)) (kk : yEx d h (pc + 3) lv (.ref q.1 :: st) S q.2 Q) : yEx d h pc lv (As.reverse ++ st) S D Q := by
  obtain ⟨h1, h2, h3⟩ := hc
  refine x_callS (B' := (h', 0, 0)) h1 hd h2 h3 hn hst hB (Nat.le_refl _) (Nat.le_refl _) hM ?_ ?_
  · rintro v M' ⟨rfl, rfl⟩; rfl
  · rintro v M' ⟨rfl, rfl⟩; exact kk
theorem y_callSv {n : Nat} {As : List Value} {q : xDt} (hc : xCS d.1.cls idx d' n) (hd : decode d.2.1 pc = .ok (.invokestatic idx, 3)) (hn : As.length = n) (hst : (st.map fun v => v.category).sum ≤ 8) (hB : h' + 1 ≤ h) (hM : xSp d' (h', 0, 0) As (S, D) (xQv S q)) (kk : yEx d h (pc + 3) lv (st) S q Q) : yEx d h pc lv (As.reverse ++ st) S D Q := by
  obtain ⟨h1, h2, h3⟩ := hc
  refine x_callS (B' := (h', 0, 0)) h1 hd h2 h3 hn hst hB (Nat.le_refl _) (Nat.le_refl _) hM ?_ ?_
  · rintro v M' ⟨rfl, rfl⟩; rfl
  · rintro v M' ⟨rfl, rfl⟩; exact kk
theorem y_callNi {n : Nat} {As : List Value} {q : Int32 × xDt} (hc : xCSN d.1.cls idx d' n) (hd : decode d.2.1 pc = .ok (.invokestatic idx, 3)) (hn : As.length = n) (hst : (st.map fun v => v.category).sum ≤ 8) (hB : h' + 1 ≤ h) (hM : xSp d' (h', 0, 0) As (S, D) (xQi S q)) (kk : yEx d h (pc + 3) lv (.int q.1 :: st) S q.2 Q) : yEx d h pc lv (As.reverse ++ st) S D Q := by
  obtain ⟨host, h1, h2, h3⟩ := hc
  refine x_callSN (B' := (h', 0, 0)) h1 hd h2 h3 hn hst hB (Nat.le_refl _) (Nat.le_refl _) hM ?_ ?_
  · rintro v M' ⟨rfl, rfl⟩; rfl
  · rintro v M' ⟨rfl, rfl⟩; exact kk
theorem y_callNl {n : Nat} {As : List Value} {q : Int64 × xDt} (hc : xCSN d.1.cls idx d' n) (hd : decode d.2.1 pc = .ok (.invokestatic idx, 3)) (hn : As.length = n) (hst : (st.map fun v => v.category).sum ≤ 8) (hB : h' + 1 ≤ h) (hM : xSp d' (h', 0, 0) As (S, D) (xQl S q)) (kk : yEx d h (pc + 3) lv (.long q.1 :: st) S q.2 Q) : yEx d h pc lv (As.reverse ++ st) S D Q := by
  obtain ⟨host, h1, h2, h3⟩ := hc
  refine x_callSN (B' := (h', 0, 0)) h1 hd h2 h3 hn hst hB (Nat.le_refl _) (Nat.le_refl _) hM ?_ ?_
  · rintro v M' ⟨rfl, rfl⟩; rfl
  · rintro v M' ⟨rfl, rfl⟩; exact kk
theorem y_callNr {n : Nat} {As : List Value} {q : Nat × xDt} (hc : xCSN d.1.cls idx d' n) (hd : decode d.2.1 pc = .ok (.invokestatic idx, 3)) (hn : As.length = n) (hst : (st.map fun v => v.category).sum ≤ 8) (hB : h' + 1 ≤ h) (hM : xSp d' (h', 0, 0) As (S, D) (xQr S q)) (kk : yEx d h (pc + 3) lv (.ref q.1 :: st) S q.2 Q) : yEx d h pc lv (As.reverse ++ st) S D Q := by
  obtain ⟨host, h1, h2, h3⟩ := hc
  refine x_callSN (B' := (h', 0, 0)) h1 hd h2 h3 hn hst hB (Nat.le_refl _) (Nat.le_refl _) hM ?_ ?_
  · rintro v M' ⟨rfl, rfl⟩; rfl
  · rintro v M' ⟨rfl, rfl⟩; exact kk
theorem y_callNv {n : Nat} {As : List Value} {q : xDt} (hc : xCSN d.1.cls idx d' n) (hd : decode d.2.1 pc = .ok (.invokestatic idx, 3)) (hn : As.length = n) (hst : (st.map fun v => v.category).sum ≤ 8) (hB : h' + 1 ≤ h) (hM : xSp d' (h', 0, 0) As (S, D) (xQv S q)) (kk : yEx d h (pc + 3) lv (st) S q Q) : yEx d h pc lv (As.reverse ++ st) S D Q := by
  obtain ⟨host, h1, h2, h3⟩ := hc
  refine x_callSN (B' := (h', 0, 0)) h1 hd h2 h3 hn hst hB (Nat.le_refl _) (Nat.le_refl _) hM ?_ ?_
  · rintro v M' ⟨rfl, rfl⟩; rfl
  · rintro v M' ⟨rfl, rfl⟩; exact kk
/-! returns -/
theorem y_iret {x : Int32} (hr : d.2.2.2 = some .int) (hd : decode d.2.1 pc = .ok (.ireturn, 1)) : yEx d h pc lv [.int x] S D (xQi S (x, D)) := x_iret hr rfl (Nat.le_refl _) (Nat.le_refl _) hd ⟨rfl, rfl⟩
theorem y_zret {x : Int32} (hr : d.2.2.2 = some .boolean) (hx : xb x = true) (hd : decode d.2.1 pc = .ok (.ireturn, 1)) : yEx d h pc lv [.int x] S D (xQi S (x, D)) := x_iret hr (xb_nar hx) (Nat.le_refl _) (Nat.le_refl _) hd ⟨rfl, rfl⟩
theorem y_lret {x : Int64} (hr : d.2.2.2 = some .long) (hd : decode d.2.1 pc = .ok (.lreturn, 1)) : yEx d h pc lv [.long x] S D (xQl S (x, D)) := x_lret hr (Nat.le_refl _) (Nat.le_refl _) hd ⟨rfl, rfl⟩
theorem y_aret {b : Nat} {nm : String} (hr : d.2.2.2 = some (.object nm)) (hd : decode d.2.1 pc = .ok (.areturn, 1)) : yEx d h pc lv [.ref b] S D (xQr S (b, D)) := x_aret hr (Nat.le_refl _) (Nat.le_refl _) hd ⟨rfl, rfl⟩
theorem y_vret (hr : d.2.2.2 = none) (hd : decode d.2.1 pc = .ok (.return_, 1)) : yEx d h pc lv [] S D (xQv S D) := x_vret hr (Nat.le_refl _) (Nat.le_refl _) hd ⟨rfl, rfl⟩
/-! stores under a new name -/
theorem y_istore_n {kf : Fin 4} {x : Int32} (v : Int32) (hv : v = x) (lv' : List (Nat × Value)) (hd : decode d.2.1 pc = .ok (.istore_n kf, 1)) (hn : (kf : Nat) < d.2.2.1) (hl' : xst1 (kf : Nat) (.int v) lv = lv') (k : yEx d h (pc + 1) lv' st S D Q) : yEx d h pc lv (.int x :: st) S D Q := by subst hv; exact x_istore_n lv' hd hn hl' k
theorem y_istore {i : Nat} {x : Int32} (v : Int32) (hv : v = x) (lv' : List (Nat × Value)) (hd : decode d.2.1 pc = .ok (.istore i, 2)) (hn : i < d.2.2.1) (hl' : xst1 i (.int v) lv = lv') (k : yEx d h (pc + 2) lv' st S D Q) : yEx d h pc lv (.int x :: st) S D Q := by subst hv; exact x_istore lv' hd hn hl' k
theorem y_lstore_n {kf : Fin 4} {x : Int64} (v : Int64) (hv : v = x) (lv' : List (Nat × Value)) (hd : decode d.2.1 pc = .ok (.lstore_n kf, 1)) (hn : (kf : Nat) + 1 < d.2.2.1) (hl' : xst2 (kf : Nat) (.long v) lv = lv') (k : yEx d h (pc + 1) lv' st S D Q) : yEx d h pc lv (.long x :: st) S D Q := by subst hv; exact x_lstore_n lv' hd hn hl' k
theorem y_lstore {i : Nat} {x : Int64} (v : Int64) (hv : v = x) (lv' : List (Nat × Value)) (hd : decode d.2.1 pc = .ok (.lstore i, 2)) (hn : i + 1 < d.2.2.1) (hl' : xst2 i (.long v) lv = lv') (k : yEx d h (pc + 2) lv' st S D Q) : yEx d h pc lv (.long x :: st) S D Q := by subst hv; exact x_lstore lv' hd hn hl' k
theorem y_iinc {i : Nat} {n : Int} {x c : Int32} (v : Int32) (hv : v = x + c) (hc : Int32.ofInt n = c) (lv' : List (Nat × Value)) (hd : decode d.2.1 pc = .ok (.iinc i n, 3)) (j : Nat) (hj : lv[j]? = some (i, .int x)) (hn : i < d.2.2.1) (hl' : xst1 i (.int v) lv = lv') (k : yEx d h (pc + 3) lv' st S D Q) : yEx d h pc lv st S D Q := by subst hv; subst hc; exact x_iinc _ lv' hd j hj rfl hn hl' k
end yRules
/-! words by their places -/
theorem xmem {w : Cond} (i : Nat) (h : tables_1[i]? = some w) (hg : goodWord w = true) : w ∈ xTG := List.mem_filter.mpr ⟨List.mem_append_right _ (List.mem_of_getElem? h), hg⟩
theorem xmemP {w : Cond} (i : Nat) (h : (k2_sels lw_privs)[i]? = some w) (hg : goodWord w = true) : w ∈ xTG := List.mem_filter.mpr ⟨List.mem_append_left _ (List.mem_of_getElem? h), hg⟩
theorem xmemN {w : Cond} (i : Nat) (h : tables_1[i]? = some w) (hg : xisN w = true) : w ∈ xNW := List.mem_filter.mpr ⟨List.mem_of_getElem? h, hg⟩
