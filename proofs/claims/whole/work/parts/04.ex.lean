/-! THE JUDGEMENT xEx: from this place of a method, over the plain memory, the method returns with Q. A rule an instruction; xSp: a method's contract. -/
def xisN : Cond → Bool
  | .methodLinkNest _ _ _ _ => true
  | .arrayOver (.object _) => true
  | _ => false
def xNW : List Cond := tables_1.filter xisN
def xTG : List Cond := lw_tbl.filter goodWord
def xSET : Nat → Value := fun j => .long (match j with | 0 => 0xAAAAAAAAAAAAAAAA | 1 => 0xCCCCCCCCCCCCCCCC | 2 => 0xF0F0F0F0F0F0F0F0 | 3 => 0xFF00FF00FF00FF00 | 4 => 0xFFFF0000FFFF0000 | _ => 0xFFFFFFFF00000000)
/-- the String constants: whose, their places, their texts -/
def xsOwn (i : Nat) : String × Nat × String := match i with
  | 0 => ("KnowledgeRoom$Reducer", 27, "ECD")
  | 1 => ("KnowledgeRoom$Reducer", 33, "[{")
  | 2 => ("KnowledgeRoom$Decider", 44, "D[{")
  | _ => ("KnowledgeRoomModel", 247, "????~KPECD=>|&[{")
def xsLen : List Nat := [3, 2, 3, 16]
def xsByt : List (List Int32) := [[69, 67, 68], [91, 123], [68, 91, 123], [63, 63, 63, 63, 126, 75, 80, 69, 67, 68, 61, 62, 124, 38, 91, 123]]
def xsS (i : Nat) : UInt32 := UInt32.ofNat (i + 1)
def xsB (i : Nat) : UInt32 := UInt32.ofNat (i + 17)
/-- what the heap holds beside the memory, for good: the static row SET, the texts, two statics of the JDK -/
def xX (G : xG) (A : Nat → Prop) (U : State) (H : Heap) : Prop := va_Z RX0 "SET" "[J" (.ref (G.2.1 0)) A U H ∧ va_T .long (G.2.1 0) 6 xSET A U H ∧ (∀ i, i < 4 → vk_R (xsOwn i).1 (xsOwn i).2.1 (xsOwn i).2.2 (G.2.1 (xsS i)) U) ∧ vk_S 4 xsLen xsByt (fun i => G.2.1 (xsS i)) (fun i => G.2.1 (xsB i)) A U H ∧ va_Z "java/lang/String" "COMPACT_STRINGS" "Z" (.int 1) A U H ∧ va_Z "jdk/internal/util/Preconditions" "SIOOBE_FORMATTER" "Ljava/util/function/BiFunction;" (if G.2.1 41 = 0 then .null else .ref (G.2.1 40)) A U H
theorem xX.same {G : xG} {A : Nat → Prop} {u U : State} {H : Heap} (hv : U.vm = u.vm) (h : xX G A u H) : xX G A U H := by
  have hvm : u.vm.Alike U.vm := by rw [hv]; exact Vm.Alike.refl _
  exact ⟨h.1.moved hvm, h.2.1.moved hvm, fun i hi => (h.2.2.1 i hi).same hv, h.2.2.2.1.moved hvm, h.2.2.2.2.1.moved hvm, h.2.2.2.2.2.moved hvm⟩
theorem xX.warm {G : xG} {A : Nat → Prop} {s U : State} {H : Heap} (hW : s.WarmedH U.vm) (h : xX G A s H) : xX G A U H := ⟨h.1.moved hW.alike, h.2.1.moved hW.alike, fun i hi => (h.2.2.1 i hi).warm hW, h.2.2.2.1.moved hW.alike, h.2.2.2.2.1.moved hW.alike, h.2.2.2.2.2.moved hW.alike⟩
theorem xX.kept {G : xG} {A : Nat → Prop} {U : State} {H H1 : Heap} (h : xX G A U H) (hq : ∀ a : Nat, a < H.size → ¬ A a → H1[a]? = H[a]?) : xX G A U H1 := ⟨h.1.kept hq, h.2.1.kept hq, h.2.2.1, h.2.2.2.1.kept hq, h.2.2.2.2.1.kept hq, h.2.2.2.2.2.kept hq⟩
theorem xX.narrow {G : xG} {A B : Nat → Prop} {U : State} {H : Heap} (h : xX G A U H) (hAB : ∀ q, B q → A q) : xX G B U H := ⟨h.1.narrow hAB, h.2.1.narrow hAB, h.2.2.1, h.2.2.2.1.narrow hAB, h.2.2.2.2.1.narrow hAB, h.2.2.2.2.2.narrow hAB⟩
/-- the classes of the arrays -/
def xT (G : xG) : List (ClassId × FieldType) := [(G.2.2.2 100, .int), (G.2.2.2 101, .long), (G.2.2.2 102, .char), (G.2.2.2 103, .byte), (G.2.2.2 104, .boolean), (G.2.2.2 210, .object RX10), (G.2.2.2 202, .object RX2)]
/-- a method: name, bytes, locals, what it returns -/
abbrev xMd : Type := MethodName × ByteArray × Nat × Option FieldType
/-- frames, cells, slots -/
def xrm (B : Nat × Nat × Nat) : Room := { frames := B.1, cells := B.2.1, slots := B.2.2, locals := 40 * B.1 }
def xCx (p : Program) (s : State) (m : MethodId) (args : Array Value) (meth : Method) (c : Code) (d : xMd) (G : xG) (A : Nat → Prop) : Prop :=
  p.tables.exec = Jvm.exec ∧ c.code = d.2.1 ∧ c.maxLocals = d.2.2.1 ∧ meth.sig.returnType = d.2.2.2 ∧ s.vm.findClass d.1.cls = some m.cls ∧ (∀ w ∈ xTG, w.before args s = true) ∧ meth.locks = false ∧ va_K G.2.2.1 vwCl (xT G) s ∧ (∀ w ∈ xNW, va_Nw w s) ∧ xX G A s s.heap ∧ (∀ q, s.heap.size ≤ q → A q) ∧ (∀ q, A q → G.1 ≤ q) ∧ meth.name = d.1.name
def xInv (s : State) (G : xG) (A : Nat → Prop) (k : Nat) (M : xMem) (H : Heap) (locs : List Loc) : Prop :=
  va_P G.2.2.1 vwCl (xW G M) H ∧ va_D A (xW G M) ∧ va_S A s.heap H locs ∧ s.heap.size + k = G.1 + M.1.1.length ∧ G.1 ≤ s.heap.size
def xQA (G : xG) (A : Nat → Prop) (Q : Option Value → xMem → Prop) : Array Value → State → Outcome → State → Prop := fun _ st oc t => (∃ (v : Option Value) (M' : xMem), oc = .returned (v.map (xtr G)) ∧ Q v M' ∧ va_P G.2.2.1 vwCl (xW G M') t.heap ∧ va_D A (xW G M')) ∧ va_F A st t
def xlv (G : xG) (lv : List (Nat × Value)) : List (Nat × Value) := lv.map (fun q => (q.1, xtr G q.2))
def xEx (d : xMd) (B : Nat × Nat × Nat) (K : Nat × Nat) (pc : Nat) (lv : List (Nat × Value)) (st : List Value) (M : xMem) (Q : Option Value → xMem → Prop) : Prop :=
  ∀ (p : Program) (l : Launch) (e : Env) (s : State) (m : MethodId) (args : Array Value) (below : List Frame) (meth : Method) (c : Code) (G : xG) (A : Nat → Prop) (H : Heap) (locs : List Loc) (ls : Array Slot), xCx p s m args meth c d G A → xInv s G A K.1 M H locs → lv_has ls d.2.2.1 (xlv G lv) →
    W p l e (xrm B) s m args below meth c H locs K.1 K.2 (MQ below (xQA G A Q) args s B.2.1 B.2.2 A) (F0 m pc ls (st.map (xtr G)))
def xws (d : xMd) : List Cond := Cond.code d.1 d.2.1 d.2.2.1 d.2.2.2 :: xTG
def xA (G : xG) (M : xMem) : Nat → Prop := va_A (xW G M) (G.1 + M.1.1.length)
def xPre (G : xG) (args : List Value) (M : xMem) : Array Value → State → Prop := va_Pc (args.map (xtr G)) (fun U => U.heap.size = G.1 + M.1.1.length ∧ va_P G.2.2.1 vwCl (xW G M) U.heap ∧ va_D (fun _ => True) (xW G M) ∧ va_K G.2.2.1 vwCl (xT G) U ∧ (∀ w ∈ xNW, va_Nw w U) ∧ xX G (xA G M) U U.heap)
def xSp (d : xMd) (B : Nat × Nat × Nat) (args : List Value) (M : xMem) (Q : Option Value → xMem → Prop) : Prop :=
  ∀ (l : Launch) (G : xG), Met l d.1 (xws d) (xrm B) (xPre G args M) (xQA G (xA G M) Q) B.2.1 B.2.2 (xA G M)
theorem xA_ge {G : xG} {M : xMem} {q : Nat} (h : xA G M q) : G.1 ≤ q := by
  rcases h with ⟨k, e, h⟩ | h
  · rw [xW_get] at h
    cases hs : M.1.1[k]? with
    | none => rw [hs] at h; cases h
    | some x =>
      rw [hs] at h
      have h2 := Option.some.inj h
      have h3 : q = G.1 + k := by rw [show q = (xent G M k x).1 by rw [h2]]; rfl
      omega
  · omega
theorem xlv_args (G : xG) (vs : List Value) : ∀ i : Nat, lv_args i (vs.map (xtr G)) = xlv G (lv_args i vs) := by
  induction vs with
  | nil => intro i; rfl
  | cons v t ih =>
    intro i
    show (i, xtr G v) :: lv_args (if (xtr G v).category = 2 then i + 2 else i + 1) (t.map (xtr G)) = _
    rw [xtr_cat, ih]
    rfl
theorem xsl_len (G : xG) (vs : List Value) : (lg_sl (vs.map (xtr G))).length = (lg_sl vs).length := by
  induction vs with
  | nil => rfl
  | cons v t ih =>
    simp only [lg_sl, List.map_cons, List.flatMap_cons, List.length_append, xtr_cat] at ih ⊢
    rw [ih]
    split <;> rfl
set_option maxHeartbeats 1000000 in
theorem xEntry {d : xMd} {B : Nat × Nat × Nat} {args : List Value} {M : xMem} {Q : Option Value → xMem → Prop} (hy : plainName d.1.cls = true) (hL : (lg_sl args).length ≤ d.2.2.1) (h : xEx d B (0, 0) 0 (lv_args 0 args) [] M Q) : xSp d B args M Q := by
  intro l G
  refine Met.ofW (cc := d.2.1) (maxL := d.2.2.1) (ret := d.2.2.2) hy rfl ?_
  intro p e s m args' below meth c s₁ B' hml hv
  obtain ⟨rfl, hsz, hP, hD, hK, hN, hX⟩ := hv
  have hts := atoms_spec (ws := xws d) B'.pre
  have hS : va_S (xA G M) s.heap s.heap [] := va_S.rf
  have hD2 : va_D (xA G M) (xW G M) := hD.self
  have hl := lv_entry (args.map (xtr G)) (n := d.2.2.1) (by rw [xsl_len]; exact hL)
  rw [lg_entry_eq]
  generalize (lg_sl (args.map (xtr G)) ++ List.replicate (d.2.2.1 - (lg_sl (args.map (xtr G))).length) Slot.unset).toArray = ls at hl ⊢
  rw [xlv_args] at hl
  refine h p l e s m _ below meth c G (xA G M) s.heap [] ls ⟨B'.exec, B'.bytes, hml, B'.returns, findClass_of_methodNamed B'.named, fun w hw => hts w (List.mem_cons_of_mem _ hw), B'.notSynchronized, hK, hN, hX, fun q hq => Or.inr (by rw [← hsz]; exact hq), fun q hq => xA_ge hq, (name_of_methodNamed B'.named B'.method).1⟩ ⟨hP, hD2, hS, by rw [hsz]; rfl, by omega⟩ hl
section xRules
variable {d : xMd} {B : Nat × Nat × Nat} {K : Nat × Nat} {pc : Nat} {lv : List (Nat × Value)} {st : List Value} {M : xMem} {Q : Option Value → xMem → Prop}
theorem xlv_at {G : xG} {ls : Array Slot} {n : Nat} (h : lv_has ls n (xlv G lv)) {i : Nat} {v : Value} (j : Nat) (hj : lv[j]? = some (i, v)) : ls[i]? = some (.val (xtr G v)) :=
  lv_at h j (by rw [xlv, List.getElem?_map, hj]; rfl)
theorem xlv_pick (G : xG) (ks : List Nat) : lv_pick (xlv G lv) ks = xlv G (lv_pick lv ks) := by
  simp only [lv_pick, xlv]
  induction ks with
  | nil => rfl
  | cons a t ih =>
    simp only [List.filterMap_cons, List.getElem?_map]
    cases hh : lv[a]? with
    | none => simpa using ih
    | some q => simpa using ih
/-- fewer locals are known -/
theorem x_lv {lv' : List (Nat × Value)} (ks : List Nat) (hp : lv_pick lv ks = lv') (k : xEx d B K pc lv' st M Q) : xEx d B K pc lv st M Q := by
  intro p l e s m args below meth c G A H locs ls C I hl
  exact k p l e s m args below meth c G A H locs ls C I (lv_sub hl ks (by rw [← hp]; exact xlv_pick G ks))
def xst1 (i : Nat) (v : Value) (lv : List (Nat × Value)) : List (Nat × Value) := (i, v) :: lv.filter (fun q => !(q.1 == i) && !(q.1 + 1 == i && q.2.category == 2))
def xst2 (i : Nat) (v : Value) (lv : List (Nat × Value)) : List (Nat × Value) := (i, v) :: lv.filter (fun q => !(q.1 == i) && (!(q.1 == i + 1) && !(q.1 + 1 == i && q.2.category == 2)))
theorem xst1_map (G : xG) (i : Nat) (v : Value) : (i, xtr G v) :: (xlv G lv).filter (fun q => !(q.1 == i) && !(q.1 + 1 == i && q.2.category == 2)) = xlv G (xst1 i v lv) := by
  simp only [xlv, xst1, List.map_cons, List.filter_map]
  congr 2
  apply List.filter_congr
  intro q _
  simp only [Function.comp, xtr_cat]
theorem xst2_map (G : xG) (i : Nat) (v : Value) : (i, xtr G v) :: (xlv G lv).filter (fun q => !(q.1 == i) && (!(q.1 == i + 1) && !(q.1 + 1 == i && q.2.category == 2))) = xlv G (xst2 i v lv) := by
  simp only [xlv, xst2, List.map_cons, List.filter_map]
  congr 2
  apply List.filter_congr
  intro q _
  simp only [Function.comp, xtr_cat]

theorem x_iadd {x y : Int32} (hd : decode d.2.1 pc = .ok (.iadd, 1)) (k : xEx d B K (pc + 1) lv (.int (x + y) :: st) M Q) : xEx d B K pc lv (.int y :: .int x :: st) M Q := fun p l e s m args below meth c G A H locs ls C I hl => lv_iadd C.1 C.2.1 hd (k p l e s m args below meth c G A H locs ls C I hl)
theorem x_isub {x y : Int32} (hd : decode d.2.1 pc = .ok (.isub, 1)) (k : xEx d B K (pc + 1) lv (.int (x - y) :: st) M Q) : xEx d B K pc lv (.int y :: .int x :: st) M Q := fun p l e s m args below meth c G A H locs ls C I hl => lv_isub C.1 C.2.1 hd (k p l e s m args below meth c G A H locs ls C I hl)
theorem x_imul {x y : Int32} (hd : decode d.2.1 pc = .ok (.imul, 1)) (k : xEx d B K (pc + 1) lv (.int (x * y) :: st) M Q) : xEx d B K pc lv (.int y :: .int x :: st) M Q := fun p l e s m args below meth c G A H locs ls C I hl => lv_imul C.1 C.2.1 hd (k p l e s m args below meth c G A H locs ls C I hl)
theorem x_iand {x y : Int32} (hd : decode d.2.1 pc = .ok (.iand, 1)) (k : xEx d B K (pc + 1) lv (.int (x &&& y) :: st) M Q) : xEx d B K pc lv (.int y :: .int x :: st) M Q := fun p l e s m args below meth c G A H locs ls C I hl => lv_iand C.1 C.2.1 hd (k p l e s m args below meth c G A H locs ls C I hl)
theorem x_ior {x y : Int32} (hd : decode d.2.1 pc = .ok (.ior, 1)) (k : xEx d B K (pc + 1) lv (.int (x ||| y) :: st) M Q) : xEx d B K pc lv (.int y :: .int x :: st) M Q := fun p l e s m args below meth c G A H locs ls C I hl => lv_ior C.1 C.2.1 hd (k p l e s m args below meth c G A H locs ls C I hl)
theorem x_ixor {x y : Int32} (hd : decode d.2.1 pc = .ok (.ixor, 1)) (k : xEx d B K (pc + 1) lv (.int (x ^^^ y) :: st) M Q) : xEx d B K pc lv (.int y :: .int x :: st) M Q := fun p l e s m args below meth c G A H locs ls C I hl => lv_ixor C.1 C.2.1 hd (k p l e s m args below meth c G A H locs ls C I hl)
theorem x_ladd {x y : Int64} (hd : decode d.2.1 pc = .ok (.ladd, 1)) (k : xEx d B K (pc + 1) lv (.long (x + y) :: st) M Q) : xEx d B K pc lv (.long y :: .long x :: st) M Q := fun p l e s m args below meth c G A H locs ls C I hl => lv_ladd C.1 C.2.1 hd (k p l e s m args below meth c G A H locs ls C I hl)
theorem x_lsub {x y : Int64} (hd : decode d.2.1 pc = .ok (.lsub, 1)) (k : xEx d B K (pc + 1) lv (.long (x - y) :: st) M Q) : xEx d B K pc lv (.long y :: .long x :: st) M Q := fun p l e s m args below meth c G A H locs ls C I hl => lv_lsub C.1 C.2.1 hd (k p l e s m args below meth c G A H locs ls C I hl)
theorem x_lmul {x y : Int64} (hd : decode d.2.1 pc = .ok (.lmul, 1)) (k : xEx d B K (pc + 1) lv (.long (x * y) :: st) M Q) : xEx d B K pc lv (.long y :: .long x :: st) M Q := fun p l e s m args below meth c G A H locs ls C I hl => lv_lmul C.1 C.2.1 hd (k p l e s m args below meth c G A H locs ls C I hl)
theorem x_land {x y : Int64} (hd : decode d.2.1 pc = .ok (.land, 1)) (k : xEx d B K (pc + 1) lv (.long (x &&& y) :: st) M Q) : xEx d B K pc lv (.long y :: .long x :: st) M Q := fun p l e s m args below meth c G A H locs ls C I hl => lv_land C.1 C.2.1 hd (k p l e s m args below meth c G A H locs ls C I hl)
theorem x_lor {x y : Int64} (hd : decode d.2.1 pc = .ok (.lor, 1)) (k : xEx d B K (pc + 1) lv (.long (x ||| y) :: st) M Q) : xEx d B K pc lv (.long y :: .long x :: st) M Q := fun p l e s m args below meth c G A H locs ls C I hl => lv_lor C.1 C.2.1 hd (k p l e s m args below meth c G A H locs ls C I hl)
theorem x_lxor {x y : Int64} (hd : decode d.2.1 pc = .ok (.lxor, 1)) (k : xEx d B K (pc + 1) lv (.long (x ^^^ y) :: st) M Q) : xEx d B K pc lv (.long y :: .long x :: st) M Q := fun p l e s m args below meth c G A H locs ls C I hl => lv_lxor C.1 C.2.1 hd (k p l e s m args below meth c G A H locs ls C I hl)
def jishl (x y : Int32) : Int32 := x <<< (y &&& 31)
def jishr (x y : Int32) : Int32 := x >>> (y &&& 31)
def jiushr (x y : Int32) : Int32 := (x.toUInt32 >>> (y.toUInt32 &&& Int32.toUInt32 31)).toInt32
def jlushr (x : Int64) (y : Int32) : Int64 := (x.toUInt64 >>> (y.toInt64.toUInt64 &&& Int64.toUInt64 63)).toInt64
def jlshl (x : Int64) (y : Int32) : Int64 := x <<< (y.toInt64 &&& 63)
def ji2c (x : Int32) : Int32 := (x.toUInt32 % 65536).toInt32
def ji2b (x : Int32) : Int32 := x.toInt8.toInt32
theorem x_ishl {x y : Int32} (hd : decode d.2.1 pc = .ok (.ishl, 1)) (k : xEx d B K (pc + 1) lv (.int (jishl x y) :: st) M Q) : xEx d B K pc lv (.int y :: .int x :: st) M Q := fun p l e s m args below meth c G A H locs ls C I hl => lv_ishl C.1 C.2.1 hd (k p l e s m args below meth c G A H locs ls C I hl)
theorem x_ishr {x y : Int32} (hd : decode d.2.1 pc = .ok (.ishr, 1)) (k : xEx d B K (pc + 1) lv (.int (jishr x y) :: st) M Q) : xEx d B K pc lv (.int y :: .int x :: st) M Q := fun p l e s m args below meth c G A H locs ls C I hl => lv_ishr C.1 C.2.1 hd (k p l e s m args below meth c G A H locs ls C I hl)
theorem x_iushr {x y : Int32} (hd : decode d.2.1 pc = .ok (.iushr, 1)) (k : xEx d B K (pc + 1) lv (.int (jiushr x y) :: st) M Q) : xEx d B K pc lv (.int y :: .int x :: st) M Q := fun p l e s m args below meth c G A H locs ls C I hl => lv_iushr C.1 C.2.1 hd rfl (k p l e s m args below meth c G A H locs ls C I hl)
theorem x_lushr {x : Int64} {y : Int32} (hd : decode d.2.1 pc = .ok (.lushr, 1)) (k : xEx d B K (pc + 1) lv (.long (jlushr x y) :: st) M Q) : xEx d B K pc lv (.int y :: .long x :: st) M Q := fun p l e s m args below meth c G A H locs ls C I hl => lv_lushr C.1 C.2.1 hd rfl (k p l e s m args below meth c G A H locs ls C I hl)
theorem x_lshl {x : Int64} {y : Int32} (hd : decode d.2.1 pc = .ok (.lshl, 1)) (k : xEx d B K (pc + 1) lv (.long (jlshl x y) :: st) M Q) : xEx d B K pc lv (.int y :: .long x :: st) M Q := fun p l e s m args below meth c G A H locs ls C I hl => lv_lshl C.1 C.2.1 hd rfl (k p l e s m args below meth c G A H locs ls C I hl)
theorem x_lneg {x : Int64} (hd : decode d.2.1 pc = .ok (.lneg, 1)) (k : xEx d B K (pc + 1) lv (.long (-x) :: st) M Q) : xEx d B K pc lv (.long x :: st) M Q := fun p l e s m args below meth c G A H locs ls C I hl => lv_lneg C.1 C.2.1 hd (k p l e s m args below meth c G A H locs ls C I hl)
theorem x_i2l {x : Int32} (hd : decode d.2.1 pc = .ok (.i2l, 1)) (k : xEx d B K (pc + 1) lv (.long x.toInt64 :: st) M Q) : xEx d B K pc lv (.int x :: st) M Q := fun p l e s m args below meth c G A H locs ls C I hl => lv_i2l C.1 C.2.1 hd rfl (k p l e s m args below meth c G A H locs ls C I hl)
theorem x_l2i {x : Int64} (hd : decode d.2.1 pc = .ok (.l2i, 1)) (k : xEx d B K (pc + 1) lv (.int x.toInt32 :: st) M Q) : xEx d B K pc lv (.long x :: st) M Q := fun p l e s m args below meth c G A H locs ls C I hl => lv_l2i C.1 C.2.1 hd rfl (k p l e s m args below meth c G A H locs ls C I hl)
theorem x_i2b {x : Int32} (hd : decode d.2.1 pc = .ok (.i2b, 1)) (k : xEx d B K (pc + 1) lv (.int (ji2b x) :: st) M Q) : xEx d B K pc lv (.int x :: st) M Q := fun p l e s m args below meth c G A H locs ls C I hl => lv_i2b C.1 C.2.1 hd rfl (k p l e s m args below meth c G A H locs ls C I hl)
theorem x_i2c {x : Int32} (hd : decode d.2.1 pc = .ok (.i2c, 1)) (k : xEx d B K (pc + 1) lv (.int (ji2c x) :: st) M Q) : xEx d B K pc lv (.int x :: st) M Q := fun p l e s m args below meth c G A H locs ls C I hl => lv_i2c C.1 C.2.1 hd rfl (k p l e s m args below meth c G A H locs ls C I hl)
theorem x_lcmp {x y : Int64} (hd : decode d.2.1 pc = .ok (.lcmp, 1)) (k : xEx d B K (pc + 1) lv (.int (lg_cmp x y) :: st) M Q) : xEx d B K pc lv (.long y :: .long x :: st) M Q := fun p l e s m args below meth c G A H locs ls C I hl => W.lcmp C.1 C.2.1 hd (k p l e s m args below meth c G A H locs ls C I hl)
theorem x_iconst {n : Int} (v : Int32) (hd : decode d.2.1 pc = .ok (.iconst n, 1)) (hv : Int32.ofInt n = v) (k : xEx d B K (pc + 1) lv (.int v :: st) M Q) : xEx d B K pc lv st M Q := fun p l e s m args below meth c G A H locs ls C I hl => lv_iconst C.1 C.2.1 hd hv (k p l e s m args below meth c G A H locs ls C I hl)
theorem x_bipush {n : Int} (v : Int32) (hd : decode d.2.1 pc = .ok (.bipush n, 2)) (hv : (Int8.ofInt n).toInt32 = v) (k : xEx d B K (pc + 2) lv (.int v :: st) M Q) : xEx d B K pc lv st M Q := fun p l e s m args below meth c G A H locs ls C I hl => lv_bipush C.1 C.2.1 hd hv (k p l e s m args below meth c G A H locs ls C I hl)
theorem x_sipush {n : Int} (v : Int32) (hd : decode d.2.1 pc = .ok (.sipush n, 3)) (hv : (Int16.ofInt n).toInt32 = v) (k : xEx d B K (pc + 3) lv (.int v :: st) M Q) : xEx d B K pc lv st M Q := fun p l e s m args below meth c G A H locs ls C I hl => lv_sipush C.1 C.2.1 hd hv (k p l e s m args below meth c G A H locs ls C I hl)
theorem x_lconst {n : Fin 2} (v : Int64) (hd : decode d.2.1 pc = .ok (.lconst n, 1)) (hv : Int64.ofNat (n : Nat) = v) (k : xEx d B K (pc + 1) lv (.long v :: st) M Q) : xEx d B K pc lv st M Q := fun p l e s m args below meth c G A H locs ls C I hl => lv_lconst C.1 C.2.1 hd hv (k p l e s m args below meth c G A H locs ls C I hl)
theorem x_ldc {i : Nat} (v : Int32) (hd : decode d.2.1 pc = .ok (.ldc i, 2)) (hw : Cond.constant d.1.cls i v ∈ xTG) (k : xEx d B K (pc + 2) lv (.int v :: st) M Q) : xEx d B K pc lv st M Q := fun p l e s m args below meth c G A H locs ls C I hl => lv_ldc C.1 C.2.1 C.2.2.2.2.1 (C.2.2.2.2.2.1 _ hw) hd (k p l e s m args below meth c G A H locs ls C I hl)
theorem x_ldcw {i : Nat} (v : Int32) (hd : decode d.2.1 pc = .ok (.ldc_w i, 3)) (hw : Cond.constant d.1.cls i v ∈ xTG) (k : xEx d B K (pc + 3) lv (.int v :: st) M Q) : xEx d B K pc lv st M Q := fun p l e s m args below meth c G A H locs ls C I hl => lv_ldcw C.1 C.2.1 C.2.2.2.2.1 (C.2.2.2.2.2.1 _ hw) hd (k p l e s m args below meth c G A H locs ls C I hl)
theorem x_ldc2 {i : Nat} (v : Int64) (hd : decode d.2.1 pc = .ok (.ldc2_w i, 3)) (hw : Cond.constantLong d.1.cls i v ∈ xTG) (k : xEx d B K (pc + 3) lv (.long v :: st) M Q) : xEx d B K pc lv st M Q := fun p l e s m args below meth c G A H locs ls C I hl => lv_ldc2 C.1 C.2.1 C.2.2.2.2.1 (C.2.2.2.2.2.1 _ hw) hd (k p l e s m args below meth c G A H locs ls C I hl)
theorem x_iload_n {kf : Fin 4} {x : Int32} (hd : decode d.2.1 pc = .ok (.iload_n kf, 1)) (j : Nat) (hj : lv[j]? = some ((kf : Nat), .int x)) (k : xEx d B K (pc + 1) lv (.int x :: st) M Q) : xEx d B K pc lv st M Q := fun p l e s m args below meth c G A H locs ls C I hl => lv_iload_n C.1 C.2.1 hd rfl (xlv_at hl j hj) (k p l e s m args below meth c G A H locs ls C I hl)
theorem x_iload {i : Nat} {x : Int32} (hd : decode d.2.1 pc = .ok (.iload i, 2)) (j : Nat) (hj : lv[j]? = some (i, .int x)) (k : xEx d B K (pc + 2) lv (.int x :: st) M Q) : xEx d B K pc lv st M Q := fun p l e s m args below meth c G A H locs ls C I hl => lv_iload C.1 C.2.1 hd (xlv_at hl j hj) (k p l e s m args below meth c G A H locs ls C I hl)
theorem x_lload_n {kf : Fin 4} {x : Int64} (hd : decode d.2.1 pc = .ok (.lload_n kf, 1)) (j : Nat) (hj : lv[j]? = some ((kf : Nat), .long x)) (k : xEx d B K (pc + 1) lv (.long x :: st) M Q) : xEx d B K pc lv st M Q := fun p l e s m args below meth c G A H locs ls C I hl => lv_lload_n C.1 C.2.1 hd rfl (xlv_at hl j hj) (k p l e s m args below meth c G A H locs ls C I hl)
theorem x_lload {i : Nat} {x : Int64} (hd : decode d.2.1 pc = .ok (.lload i, 2)) (j : Nat) (hj : lv[j]? = some (i, .long x)) (k : xEx d B K (pc + 2) lv (.long x :: st) M Q) : xEx d B K pc lv st M Q := fun p l e s m args below meth c G A H locs ls C I hl => lv_lload C.1 C.2.1 hd (xlv_at hl j hj) (k p l e s m args below meth c G A H locs ls C I hl)
theorem x_aload_n {kf : Fin 4} {x : Nat} (hd : decode d.2.1 pc = .ok (.aload_n kf, 1)) (j : Nat) (hj : lv[j]? = some ((kf : Nat), .ref x)) (k : xEx d B K (pc + 1) lv (.ref x :: st) M Q) : xEx d B K pc lv st M Q := fun p l e s m args below meth c G A H locs ls C I hl => lv_aload_n C.1 C.2.1 hd rfl (xlv_at hl j hj) (k p l e s m args below meth c G A H locs ls C I hl)
theorem x_aload {i : Nat} {x : Nat} (hd : decode d.2.1 pc = .ok (.aload i, 2)) (j : Nat) (hj : lv[j]? = some (i, .ref x)) (k : xEx d B K (pc + 2) lv (.ref x :: st) M Q) : xEx d B K pc lv st M Q := fun p l e s m args below meth c G A H locs ls C I hl => lv_aload C.1 C.2.1 hd (xlv_at hl j hj) (k p l e s m args below meth c G A H locs ls C I hl)
theorem x_sload_n {kf : Fin 4} {x : UInt32} (hd : decode d.2.1 pc = .ok (.aload_n kf, 1)) (j : Nat) (hj : lv[j]? = some ((kf : Nat), .float x)) (k : xEx d B K (pc + 1) lv (.float x :: st) M Q) : xEx d B K pc lv st M Q := fun p l e s m args below meth c G A H locs ls C I hl => lv_aload_n C.1 C.2.1 hd rfl (xlv_at hl j hj) (k p l e s m args below meth c G A H locs ls C I hl)
theorem x_sload {i : Nat} {x : UInt32} (hd : decode d.2.1 pc = .ok (.aload i, 2)) (j : Nat) (hj : lv[j]? = some (i, .float x)) (k : xEx d B K (pc + 2) lv (.float x :: st) M Q) : xEx d B K pc lv st M Q := fun p l e s m args below meth c G A H locs ls C I hl => lv_aload C.1 C.2.1 hd (xlv_at hl j hj) (k p l e s m args below meth c G A H locs ls C I hl)
theorem x_istore_n {kf : Fin 4} {x : Int32} (lv' : List (Nat × Value)) (hd : decode d.2.1 pc = .ok (.istore_n kf, 1)) (hn : (kf : Nat) < d.2.2.1) (hl' : xst1 (kf : Nat) (.int x) lv = lv') (k : xEx d B K (pc + 1) lv' st M Q) : xEx d B K pc lv (.int x :: st) M Q := fun p l e s m args below meth c G A H locs ls C I hl => lv_istore_n C.1 C.2.1 hd rfl hl hn (xst1_map G _ (.int x)) (fun ls h2 => k p l e s m args below meth c G A H locs ls C I (by rw [← hl']; exact h2))
theorem x_istore {i : Nat} {x : Int32} (lv' : List (Nat × Value)) (hd : decode d.2.1 pc = .ok (.istore i, 2)) (hn : i < d.2.2.1) (hl' : xst1 i (.int x) lv = lv') (k : xEx d B K (pc + 2) lv' st M Q) : xEx d B K pc lv (.int x :: st) M Q := fun p l e s m args below meth c G A H locs ls C I hl => lv_istore C.1 C.2.1 hd hl hn (xst1_map G _ (.int x)) (fun ls h2 => k p l e s m args below meth c G A H locs ls C I (by rw [← hl']; exact h2))
theorem x_lstore_n {kf : Fin 4} {x : Int64} (lv' : List (Nat × Value)) (hd : decode d.2.1 pc = .ok (.lstore_n kf, 1)) (hn : (kf : Nat) + 1 < d.2.2.1) (hl' : xst2 (kf : Nat) (.long x) lv = lv') (k : xEx d B K (pc + 1) lv' st M Q) : xEx d B K pc lv (.long x :: st) M Q := fun p l e s m args below meth c G A H locs ls C I hl => lv_lstore_n C.1 C.2.1 hd rfl hl hn (xst2_map G _ (.long x)) (fun ls h2 => k p l e s m args below meth c G A H locs ls C I (by rw [← hl']; exact h2))
theorem x_lstore {i : Nat} {x : Int64} (lv' : List (Nat × Value)) (hd : decode d.2.1 pc = .ok (.lstore i, 2)) (hn : i + 1 < d.2.2.1) (hl' : xst2 i (.long x) lv = lv') (k : xEx d B K (pc + 2) lv' st M Q) : xEx d B K pc lv (.long x :: st) M Q := fun p l e s m args below meth c G A H locs ls C I hl => lv_lstore C.1 C.2.1 hd hl hn (xst2_map G _ (.long x)) (fun ls h2 => k p l e s m args below meth c G A H locs ls C I (by rw [← hl']; exact h2))
theorem x_astore_n {kf : Fin 4} {x : Nat} (lv' : List (Nat × Value)) (hd : decode d.2.1 pc = .ok (.astore_n kf, 1)) (hn : (kf : Nat) < d.2.2.1) (hl' : xst1 (kf : Nat) (.ref x) lv = lv') (k : xEx d B K (pc + 1) lv' st M Q) : xEx d B K pc lv (.ref x :: st) M Q := fun p l e s m args below meth c G A H locs ls C I hl => lv_astore_n C.1 C.2.1 hd rfl hl hn (xst1_map G _ (.ref x)) (fun ls h2 => k p l e s m args below meth c G A H locs ls C I (by rw [← hl']; exact h2))
theorem x_astore {i : Nat} {x : Nat} (lv' : List (Nat × Value)) (hd : decode d.2.1 pc = .ok (.astore i, 2)) (hn : i < d.2.2.1) (hl' : xst1 i (.ref x) lv = lv') (k : xEx d B K (pc + 2) lv' st M Q) : xEx d B K pc lv (.ref x :: st) M Q := fun p l e s m args below meth c G A H locs ls C I hl => lv_astore C.1 C.2.1 hd hl hn (xst1_map G _ (.ref x)) (fun ls h2 => k p l e s m args below meth c G A H locs ls C I (by rw [← hl']; exact h2))
theorem x_iinc {i : Nat} {n : Int} {x : Int32} (v : Int32) (lv' : List (Nat × Value)) (hd : decode d.2.1 pc = .ok (.iinc i n, 3)) (j : Nat) (hj : lv[j]? = some (i, .int x)) (hv : x + Int32.ofInt n = v) (hn : i < d.2.2.1) (hl' : xst1 i (.int v) lv = lv') (k : xEx d B K (pc + 3) lv' st M Q) : xEx d B K pc lv st M Q := fun p l e s m args below meth c G A H locs ls C I hl => lv_iinc C.1 C.2.1 hd hl (k := j) (by rw [xlv, List.getElem?_map, hj]; rfl) hv hn (xst1_map G _ (.int v)) (fun ls h2 => k p l e s m args below meth c G A H locs ls C I (by rw [← hl']; exact h2))
theorem x_dup {v : Value} (hd : decode d.2.1 pc = .ok (.dup, 1)) (hv : v.category = 1) (k : xEx d B K (pc + 1) lv (v :: v :: st) M Q) : xEx d B K pc lv (v :: st) M Q := fun p l e s m args below meth c G A H locs ls C I hl => lv_dup C.1 C.2.1 hd ((xtr_cat G v).trans hv) (k p l e s m args below meth c G A H locs ls C I hl)
theorem x_pop {v : Value} (hd : decode d.2.1 pc = .ok (.pop, 1)) (hv : v.category = 1) (k : xEx d B K (pc + 1) lv st M Q) : xEx d B K pc lv (v :: st) M Q := fun p l e s m args below meth c G A H locs ls C I hl => lv_pop C.1 C.2.1 hd ((xtr_cat G v).trans hv) (k p l e s m args below meth c G A H locs ls C I hl)
theorem x_dup_x1 {v w : Value} (hd : decode d.2.1 pc = .ok (.dup_x1, 1)) (hv : v.category = 1) (hw : w.category = 1) (k : xEx d B K (pc + 1) lv (v :: w :: v :: st) M Q) : xEx d B K pc lv (v :: w :: st) M Q := fun p l e s m args below meth c G A H locs ls C I hl => lv_dup_x1 C.1 C.2.1 hd ((xtr_cat G v).trans hv) ((xtr_cat G w).trans hw) (k p l e s m args below meth c G A H locs ls C I hl)
theorem x_dup2 {v w : Value} (hd : decode d.2.1 pc = .ok (.dup2, 1)) (hv : v.category = 1) (hw : w.category = 1) (k : xEx d B K (pc + 1) lv (v :: w :: v :: w :: st) M Q) : xEx d B K pc lv (v :: w :: st) M Q := fun p l e s m args below meth c G A H locs ls C I hl => lv_dup2_11 C.1 C.2.1 hd ((xtr_cat G v).trans hv) ((xtr_cat G w).trans hw) (k p l e s m args below meth c G A H locs ls C I hl)
theorem x_goto {off : Int} (tgt : Nat) (hd : decode d.2.1 pc = .ok (.goto off, 3)) (ht : (pc : Int) + off = (tgt : Int)) (k : xEx d B K tgt lv st M Q) : xEx d B K pc lv st M Q := fun p l e s m args below meth c G A H locs ls C I hl => lv_goto C.1 C.2.1 hd ht (k p l e s m args below meth c G A H locs ls C I hl)
theorem x_if_eq {x : Int32} {off : Int} (tgt : Nat) (hd : decode d.2.1 pc = .ok (.ifCond .eq off, 3)) (ht : (pc : Int) + off = (tgt : Int)) (kt : x = 0 → xEx d B K tgt lv st M Q) (kf : ¬ x = 0 → xEx d B K (pc + 3) lv st M Q) : xEx d B K pc lv (.int x :: st) M Q := fun p l e s m args below meth c G A H locs ls C I hl => lv_if_eq C.1 C.2.1 hd ht (fun h => kt h p l e s m args below meth c G A H locs ls C I hl) (fun h => kf h p l e s m args below meth c G A H locs ls C I hl)
theorem x_if_ne {x : Int32} {off : Int} (tgt : Nat) (hd : decode d.2.1 pc = .ok (.ifCond .ne off, 3)) (ht : (pc : Int) + off = (tgt : Int)) (kt : ¬ x = 0 → xEx d B K tgt lv st M Q) (kf : x = 0 → xEx d B K (pc + 3) lv st M Q) : xEx d B K pc lv (.int x :: st) M Q := fun p l e s m args below meth c G A H locs ls C I hl => lv_if_ne C.1 C.2.1 hd ht (fun h => kt h p l e s m args below meth c G A H locs ls C I hl) (fun h => kf h p l e s m args below meth c G A H locs ls C I hl)
theorem x_if_lt {x : Int32} {off : Int} (tgt : Nat) (hd : decode d.2.1 pc = .ok (.ifCond .lt off, 3)) (ht : (pc : Int) + off = (tgt : Int)) (kt : x < 0 → xEx d B K tgt lv st M Q) (kf : ¬ x < 0 → xEx d B K (pc + 3) lv st M Q) : xEx d B K pc lv (.int x :: st) M Q := fun p l e s m args below meth c G A H locs ls C I hl => lv_if_lt C.1 C.2.1 hd ht (fun h => kt h p l e s m args below meth c G A H locs ls C I hl) (fun h => kf h p l e s m args below meth c G A H locs ls C I hl)
theorem x_if_ge {x : Int32} {off : Int} (tgt : Nat) (hd : decode d.2.1 pc = .ok (.ifCond .ge off, 3)) (ht : (pc : Int) + off = (tgt : Int)) (kt : 0 ≤ x → xEx d B K tgt lv st M Q) (kf : ¬ 0 ≤ x → xEx d B K (pc + 3) lv st M Q) : xEx d B K pc lv (.int x :: st) M Q := fun p l e s m args below meth c G A H locs ls C I hl => lv_if_ge C.1 C.2.1 hd ht (fun h => kt h p l e s m args below meth c G A H locs ls C I hl) (fun h => kf h p l e s m args below meth c G A H locs ls C I hl)
theorem x_if_gt {x : Int32} {off : Int} (tgt : Nat) (hd : decode d.2.1 pc = .ok (.ifCond .gt off, 3)) (ht : (pc : Int) + off = (tgt : Int)) (kt : 0 < x → xEx d B K tgt lv st M Q) (kf : ¬ 0 < x → xEx d B K (pc + 3) lv st M Q) : xEx d B K pc lv (.int x :: st) M Q := fun p l e s m args below meth c G A H locs ls C I hl => lv_if_gt C.1 C.2.1 hd ht (fun h => kt h p l e s m args below meth c G A H locs ls C I hl) (fun h => kf h p l e s m args below meth c G A H locs ls C I hl)
theorem x_if_le {x : Int32} {off : Int} (tgt : Nat) (hd : decode d.2.1 pc = .ok (.ifCond .le off, 3)) (ht : (pc : Int) + off = (tgt : Int)) (kt : x ≤ 0 → xEx d B K tgt lv st M Q) (kf : ¬ x ≤ 0 → xEx d B K (pc + 3) lv st M Q) : xEx d B K pc lv (.int x :: st) M Q := fun p l e s m args below meth c G A H locs ls C I hl => lv_if_le C.1 C.2.1 hd ht (fun h => kt h p l e s m args below meth c G A H locs ls C I hl) (fun h => kf h p l e s m args below meth c G A H locs ls C I hl)
theorem x_icmp_eq {x y : Int32} {off : Int} (tgt : Nat) (hd : decode d.2.1 pc = .ok (.if_icmp .eq off, 3)) (ht : (pc : Int) + off = (tgt : Int)) (kt : x = y → xEx d B K tgt lv st M Q) (kf : ¬ x = y → xEx d B K (pc + 3) lv st M Q) : xEx d B K pc lv (.int y :: .int x :: st) M Q := fun p l e s m args below meth c G A H locs ls C I hl => lv_icmp_eq C.1 C.2.1 hd ht (fun h => kt h p l e s m args below meth c G A H locs ls C I hl) (fun h => kf h p l e s m args below meth c G A H locs ls C I hl)
theorem x_icmp_ne {x y : Int32} {off : Int} (tgt : Nat) (hd : decode d.2.1 pc = .ok (.if_icmp .ne off, 3)) (ht : (pc : Int) + off = (tgt : Int)) (kt : ¬ x = y → xEx d B K tgt lv st M Q) (kf : x = y → xEx d B K (pc + 3) lv st M Q) : xEx d B K pc lv (.int y :: .int x :: st) M Q := fun p l e s m args below meth c G A H locs ls C I hl => lv_icmp_ne C.1 C.2.1 hd ht (fun h => kt h p l e s m args below meth c G A H locs ls C I hl) (fun h => kf h p l e s m args below meth c G A H locs ls C I hl)
theorem x_icmp_lt {x y : Int32} {off : Int} (tgt : Nat) (hd : decode d.2.1 pc = .ok (.if_icmp .lt off, 3)) (ht : (pc : Int) + off = (tgt : Int)) (kt : x < y → xEx d B K tgt lv st M Q) (kf : ¬ x < y → xEx d B K (pc + 3) lv st M Q) : xEx d B K pc lv (.int y :: .int x :: st) M Q := fun p l e s m args below meth c G A H locs ls C I hl => lv_icmp_lt C.1 C.2.1 hd ht (fun h => kt h p l e s m args below meth c G A H locs ls C I hl) (fun h => kf h p l e s m args below meth c G A H locs ls C I hl)
theorem x_icmp_ge {x y : Int32} {off : Int} (tgt : Nat) (hd : decode d.2.1 pc = .ok (.if_icmp .ge off, 3)) (ht : (pc : Int) + off = (tgt : Int)) (kt : y ≤ x → xEx d B K tgt lv st M Q) (kf : ¬ y ≤ x → xEx d B K (pc + 3) lv st M Q) : xEx d B K pc lv (.int y :: .int x :: st) M Q := fun p l e s m args below meth c G A H locs ls C I hl => lv_icmp_ge C.1 C.2.1 hd ht (fun h => kt h p l e s m args below meth c G A H locs ls C I hl) (fun h => kf h p l e s m args below meth c G A H locs ls C I hl)
theorem x_icmp_gt {x y : Int32} {off : Int} (tgt : Nat) (hd : decode d.2.1 pc = .ok (.if_icmp .gt off, 3)) (ht : (pc : Int) + off = (tgt : Int)) (kt : y < x → xEx d B K tgt lv st M Q) (kf : ¬ y < x → xEx d B K (pc + 3) lv st M Q) : xEx d B K pc lv (.int y :: .int x :: st) M Q := fun p l e s m args below meth c G A H locs ls C I hl => lv_icmp_gt C.1 C.2.1 hd ht (fun h => kt h p l e s m args below meth c G A H locs ls C I hl) (fun h => kf h p l e s m args below meth c G A H locs ls C I hl)
theorem x_icmp_le {x y : Int32} {off : Int} (tgt : Nat) (hd : decode d.2.1 pc = .ok (.if_icmp .le off, 3)) (ht : (pc : Int) + off = (tgt : Int)) (kt : x ≤ y → xEx d B K tgt lv st M Q) (kf : ¬ x ≤ y → xEx d B K (pc + 3) lv st M Q) : xEx d B K pc lv (.int y :: .int x :: st) M Q := fun p l e s m args below meth c G A H locs ls C I hl => lv_icmp_le C.1 C.2.1 hd ht (fun h => kt h p l e s m args below meth c G A H locs ls C I hl) (fun h => kf h p l e s m args below meth c G A H locs ls C I hl)
end xRules
