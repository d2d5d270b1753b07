/-! rules: String constants (place i), their bytes, two statics of the JDK -/
section xText
variable {d d' : xMd} {h h' : Nat} {pc : Nat} {lv : List (Nat × Value)} {st : List Value} {S : xSt} {D : xDt} {Q : Option Value → xMem → Prop} {idx i : Nat}
theorem y_ldcS (i : Nat) (hi : i < 4) (ho : (xsOwn i).1 = d.1.cls) (hk : (xsOwn i).2.1 = idx) (hd : decode d.2.1 pc = .ok (.ldc idx, 2)) (kk : yEx d h (pc + 2) lv (.float (xsS i) :: st) S D Q) : yEx d h pc lv st S D Q := by
  intro p l e s m args below meth c G A H locs ls X I hl
  subst hk
  exact va_ldcS X.1 X.2.1 (by rw [ho]; exact X.2.2.2.2.1) (X.2.2.2.2.2.2.2.2.2.1.2.2.1 i hi) hd (kk p l e s m args below meth c G A H locs ls X I hl)
theorem y_strval (hi : i < 4) (hw : Cond.fieldLink d.1.cls idx "java/lang/String" "value" "[B" ∈ xTG) (hd : decode d.2.1 pc = .ok (.getfield idx, 3)) (kk : yEx d h (pc + 3) lv (.float (xsB i) :: st) S D Q) : yEx d h pc lv (.float (xsS i) :: st) S D Q := by
  intro p l e s m args below meth c G A H locs ls X I hl
  exact vk_getf X.1 X.2.1 (X.2.2.2.2.2.2.2.2.2.1.2.2.2.1.1 i hi).2.2.1 I.2.2.1 X.2.2.2.2.1 (X.2.2.2.2.2.1 _ hw) (fun _ q => q) hd (kk p l e s m args below meth c G A H locs ls X I hl)
theorem y_strcod (hi : i < 4) (hw : Cond.fieldLink d.1.cls idx "java/lang/String" "coder" "B" ∈ xTG) (hd : decode d.2.1 pc = .ok (.getfield idx, 3)) (kk : yEx d h (pc + 3) lv (.int 0 :: st) S D Q) : yEx d h pc lv (.float (xsS i) :: st) S D Q := by
  intro p l e s m args below meth c G A H locs ls X I hl
  exact vk_getf X.1 X.2.1 (X.2.2.2.2.2.2.2.2.2.1.2.2.2.1.1 i hi).2.1 I.2.2.1 X.2.2.2.2.1 (X.2.2.2.2.2.1 _ hw) (fun _ q => q) hd (kk p l e s m args below meth c G A H locs ls X I hl)
theorem y_compact (hw : Cond.fieldLink d.1.cls idx "java/lang/String" "COMPACT_STRINGS" "Z" ∈ xTG) (hd : decode d.2.1 pc = .ok (.getstatic idx, 3)) (kk : yEx d h (pc + 3) lv (.int 1 :: st) S D Q) : yEx d h pc lv st S D Q := fun p l e s m args below meth c G A H locs ls X I hl =>
  va_gets X.1 X.2.1 X.2.2.2.2.2.2.2.2.2.1.2.2.2.2.1 I.2.2.1 X.2.2.2.2.1 (X.2.2.2.2.2.1 _ hw) (fun _ h => h) hd (kk p l e s m args below meth c G A H locs ls X I hl)
theorem y_fmt (hw : Cond.fieldLink d.1.cls idx "jdk/internal/util/Preconditions" "SIOOBE_FORMATTER" "Ljava/util/function/BiFunction;" ∈ xTG) (hd : decode d.2.1 pc = .ok (.getstatic idx, 3)) (kk : yEx d h (pc + 3) lv (.retAddr 0 :: st) S D Q) : yEx d h pc lv st S D Q := fun p l e s m args below meth c G A H locs ls X I hl =>
  va_gets X.1 X.2.1 X.2.2.2.2.2.2.2.2.2.1.2.2.2.2.2 I.2.2.1 X.2.2.2.2.1 (X.2.2.2.2.2.1 _ hw) (fun _ h => h) hd (kk p l e s m args below meth c G A H locs ls X I hl)
theorem y_tlen (hi : i < 4) (hd : decode d.2.1 pc = .ok (.arraylength, 1)) (kk : yEx d h (pc + 1) lv (.int (Int32.ofNat (xsLen.getD i 0)) :: st) S D Q) : yEx d h pc lv (.float (xsB i) :: st) S D Q := fun p l e s m args below meth c G A H locs ls X I hl =>
  va_tlen X.1 X.2.1 (X.2.2.2.2.2.2.2.2.2.1.2.2.2.1.1 i hi).2.2.2 I.2.2.1 rfl hd (kk p l e s m args below meth c G A H locs ls X I hl)
theorem y_tbald {j : Int32} (hi : i < 4) (hj : xin j (xsLen.getD i 0) = true) (hd : decode d.2.1 pc = .ok (.baload, 1)) (kk : yEx d h (pc + 1) lv (.int ((xsByt.getD i []).getD j.toNatClampNeg 0) :: st) S D Q) : yEx d h pc lv (.int j :: .float (xsB i) :: st) S D Q := fun p l e s m args below meth c G A H locs ls X I hl =>
  va_tb X.1 X.2.1 (X.2.2.2.2.2.2.2.2.2.1.2.2.2.1.1 i hi).2.2.2 I.2.2.1 (xin_vp hj) rfl hd (kk p l e s m args below meth c G A H locs ls X I hl)
def xCT (own : String) (idx : Nat) (d' : xMd) (n : Nat) : Prop := d'.1.cls = "java/lang/String" ∧ xcw d' n ∧ Cond.methodLink own idx d'.1 ∈ xTG ∧ Cond.instanceMethod d'.1 ∈ xTG ∧ Cond.selects "java/lang/String" d'.1 d'.1 ∈ xTG
/-- a method of a String constant -/
theorem y_callT {n : Nat} {As : List Value} {q : Int32 × xDt} (hi : i < 4) (hc : xCT d.1.cls idx d' n) (hd : decode d.2.1 pc = .ok (.invokevirtual idx, 3)) (hn : As.length = n) (hst : (st.map fun v => v.category).sum ≤ 8) (hB : h' + 1 ≤ h) (hM : xSp d' (h', 0, 0) (.float (xsS i) :: As) (S, D) (xQi S q)) (kk : yEx d h (pc + 3) lv (.int q.1 :: st) S q.2 Q) : yEx d h pc lv (As.reverse ++ .float (xsS i) :: st) S D Q := by
  intro p l e s m args below meth c G A H locs ls X I hl T0 hT0 X0
  obtain ⟨hcls, hcw, hw1, hw2, hw3⟩ := hc
  have hz := I.size hT0 X0
  have hts := X.2.2.2.2.2.1
  rw [← hcls] at hw3
  have cw := cwV (R := xrm (h, 0, 0)) (s := s) (args := args) (own := d.1.cls) (index := idx) (C := d'.1.cls) (y := d'.1) (rm := xrm (h', 0, 0)) n hts (xgood (ws := wsV d.1.cls idx d'.1.cls d'.1 (xws d')) (fun w hw => by
    rcases List.mem_append.mp hw with h | h
    · simp only [List.mem_cons, List.not_mem_nil, or_false] at h
      rcases h with rfl | rfl | rfl | rfl
      · exact hw1
      · exact hw2
      · exact hw3
      · exact hcw.2.1
    · exact xws_in hcw w h)) rfl rfl rfl ⟨rfl, hcw.2.2.1⟩ (xhR hcw hB)
  have hrec := vk_recv (i := i) X.2.2.2.2.2.2.2.2.2.1.2.2.2.1 hi I.2.2.1
  rw [← hcls] at hrec
  refine xcall (p := p) (l := l) (e := e) (B' := (h', 0, 0)) (Qc := xQi S q) (a := (Value.ref (G.2.1 (xsS i)) :: As.map (xtr G)).toArray) X I hl ?_ (by rintro v M' ⟨rfl, rfl⟩; rfl) (by rintro v M' ⟨rfl, rfl⟩; exact kk) T0 hT0 X0
  refine va_runV (As := As.map (xtr G)) (b := G.2.1 (xsS i)) ⟨X.1, X.2.1, X.2.2.1, X.2.2.2.2.1, hts⟩ (hM l G) cw ⟨xblind G _ (S, D), hrec, xpre X I hz (.float (xsS i) :: As)⟩ rfl (by rw [List.length_map]; exact hn) hl.1 ?_ (xroom hst) hd ⟨Nat.le_refl _, Nat.le_refl _⟩
  simp [xtr]
def xnr (ty : FieldType) (x : Int32) : Bool := decide (narrow ty (.int x) = .int x)
theorem y_nret {x : Int32} {ty : FieldType} (hr : d.2.2.2 = some ty) (hx : xnr ty x = true) (hd : decode d.2.1 pc = .ok (.ireturn, 1)) : yEx d h pc lv [.int x] S D (xQi S (x, D)) := x_iret hr (by simpa [xnr] using hx) (Nat.le_refl _) (Nat.le_refl _) hd ⟨rfl, rfl⟩
end xText
