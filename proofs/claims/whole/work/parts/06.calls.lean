/-! calls -/
theorem xTG_good {w : Cond} (h : w ∈ xTG) : goodWord w = true := (List.mem_filter.mp h).2
theorem xgood {ws : List Cond} (h : ∀ w ∈ ws, w ∈ xTG) : GoodIn xTG ws := fun w hw => ⟨h w hw, good_of_word (xTG_good (h w hw))⟩
theorem xNW_warm {s U : State} (hW : s.WarmedH U.vm) (h : ∀ w ∈ xNW, va_Nw w s) : ∀ w ∈ xNW, va_Nw w U := by
  intro w hw
  have h1 := h w hw
  have h2 := (List.mem_filter.mp hw).2
  cases w <;> first | exact va_Nw.warmM hW h1 | cases h2 | (rename_i ty; cases ty <;> first | exact va_AO.moved hW.alike h1 | cases h2)
theorem xNW_same {u U : State} (hv : u.vm = U.vm) (h : ∀ w ∈ xNW, va_Nw w u) : ∀ w ∈ xNW, va_Nw w U := by
  intro w hw
  have h1 := h w hw
  have h2 := (List.mem_filter.mp hw).2
  cases w <;> first | exact va_Nw.same rfl hv h1 | cases h2 | (rename_i ty; cases ty <;> first | exact va_AO.moved (by rw [hv]; exact Vm.Alike.refl _) h1 | cases h2)
theorem xblind (G : xG) (args : List Value) (M : xMem) : FrameBlind (xPre G args M) := by
  intro a U g mk q
  obtain ⟨q0, q1, qP, qD, qK, qN, qX⟩ := q
  exact ⟨q0, q1, qP, qD, va_K.moved (u := U) (U := U.calling g mk a) (Vm.Alike.refl U.vm) qK, xNW_same (u := U) (U := U.calling g mk a) rfl qN, qX.same (u := U) (U := U.calling g mk a) rfl⟩
section xCalls
variable {p : Program} {l : Launch} {e : Env} {s : State} {m : MethodId} {args : Array Value} {below : List Frame} {meth : Method} {c : Code} {G : xG} {A : Nat → Prop} {H : Heap} {locs : List Loc} {ls : Array Slot} {d d' : xMd} {B B' : Nat × Nat × Nat} {K : Nat × Nat} {pc : Nat} {lv : List (Nat × Value)} {st : List Value} {M : xMem} {Q Qc : Option Value → xMem → Prop}
theorem xInv.size {k n : Nat} {R : Room} {T : State} (I : xInv s G A k M H locs) (hT : T.heap = H) (X : Stand p l e R s m args below meth c T locs k n) : H.size = G.1 + M.1.1.length := by
  obtain ⟨hP, hD, hS, h1, h2⟩ := I
  have h3 := X.heapSize
  rw [hT] at h3
  have h4 := hS.1
  cases hl : M.1.1.length with
  | zero => omega
  | succ N =>
    have hN : N < M.1.1.length := by omega
    have h5 := (hP N _ (xW_at (List.getElem?_eq_getElem hN))).lt
    have h6 : (xent G M N M.1.1[N]).1 = G.1 + N := rfl
    rw [h6] at h5
    omega
theorem xA_sub {k : Nat} (X : xCx p s m args meth c d G A) (I : xInv s G A k M H locs) : ∀ q, xA G M q → A q := by
  intro q h
  rcases h with ⟨j, e, h⟩ | h
  · exact I.2.1.2 j (q, e) h
  · exact X.2.2.2.2.2.2.2.2.2.2.1 q (by have := I.2.2.2.1; have := I.2.2.2.2; omega)
theorem xpre {k : Nat} (X : xCx p s m args meth c d G A) (I : xInv s G A k M H locs) (hz : H.size = G.1 + M.1.1.length) (As : List Value) : ∀ U : State, U.heap = H → s.WarmedH U.vm → xPre G As M (As.map (xtr G)).toArray U := by
  intro U hU hW
  refine ⟨rfl, by rw [hU]; exact hz, by rw [hU]; exact I.1, I.2.1.weaken (fun _ _ _ _ => trivial), va_K.moved hW.alike X.2.2.2.2.2.2.2.1, xNW_warm hW X.2.2.2.2.2.2.2.2.1, ?_⟩
  rw [hU]
  exact ((X.2.2.2.2.2.2.2.2.2.1.kept I.2.2.1.2.1).warm hW).narrow (xA_sub X I)
/-- behind a call -/
theorem xcall {a : Array Value} {st0 : List Value} (X : xCx p s m args meth c d G A) (I : xInv s G A K.1 M H locs) (hl : lv_has ls d.2.2.1 (xlv G lv))
    (hr : va_Run p l e (xrm B) s m args below meth c H locs K.1 K.2 B'.2.1 B'.2.2 (F0 m pc ls st0) (st.map (xtr G)) (xQA G (xA G M) Qc a) (xA G M))
    (hlen : ∀ v M', Qc v M' → M'.1.1.length = M.1.1.length + B'.2.1)
    (kk : ∀ v M', Qc v M' → xEx d B (K.1 + B'.2.1, K.2 + B'.2.2) (pc + 3) lv (v.toList ++ st) M' Q) :
    W p l e (xrm B) s m args below meth c H locs K.1 K.2 (MQ below (xQA G A Q) args s B.2.1 B.2.2 A) (F0 m pc ls st0) := by
  intro T hT X0
  obtain ⟨v, st₀, t, T', L, h0, X', hL, e1, e2, ⟨⟨v', M', hv, hQ, hP', hD'⟩, hz, hk⟩, go⟩ := hr T hT X0
  have hv2 : v = v'.map (xtr G) := by injection hv
  subst hv2
  rw [h0] at hz hk
  have hsub := xA_sub X I
  have hS : va_S A s.heap T'.heap (locs ++ L) := ⟨Nat.le_trans I.2.2.1.1 (by rw [e1]; exact hz), fun q h1 h2 => by rw [e1, hk q (Nat.lt_of_lt_of_le h1 I.2.2.1.1) (fun z => h2 (hsub q z))]; exact I.2.2.1.2.1 q h1 h2, fun q hq => by
      rcases List.mem_append.mp hq with h | h
      · exact I.2.2.1.2.2 q h
      · exact hsub _ (hL q h)⟩
  have I' : xInv s G A (K.1 + B'.2.1, K.2 + B'.2.2).1 M' T'.heap (locs ++ L) := ⟨by rw [e1]; exact hP', hD'.weaken (fun _ q _ h => hsub q.1 h), hS, by have := hlen v' M' hQ; have := I.2.2.2.1; dsimp only; omega, I.2.2.2.2⟩
  obtain ⟨t2, a1, b1⟩ := kk v' M' hQ p l e s m args below meth c G A T'.heap (locs ++ L) ls X I' hl T' rfl X'
  refine ⟨t2, go t2 ?_, b1⟩
  have e3 : (v'.map (xtr G)).toList ++ st.map (xtr G) = (v'.toList ++ st).map (xtr G) := by cases v' <;> rfl
  dsimp only [F0] at a1 ⊢
  rw [e3]
  exact a1
theorem xroom {G : xG} {st0 : List Value} (h : (st.map fun v => v.category).sum ≤ 8) : 2 * (F0 m pc ls st0).monitorRoom + ((st.map (xtr G)).map fun v => v.category).sum ≤ 8 := by
  refine lv_room ?_
  rw [List.map_map]
  have : ((fun v : Value => v.category) ∘ xtr G) = fun v => v.category := by funext v; exact xtr_cat G v
  rw [this]
  exact h
/-- what a call of d' needs of the tables: its code, that it may be called -/
def xcw (d' : xMd) (n : Nat) : Prop := Cond.code d'.1 d'.2.1 d'.2.2.1 d'.2.2.2 ∈ xTG ∧ Cond.initialized d'.1.cls ∈ xTG ∧ (d'.1.cls ≠ "java/lang/invoke/MethodHandle" ∧ d'.1.cls ≠ "java/lang/invoke/VarHandle" ∧ (parseMethodDescriptor d'.1.desc).map (fun q => q.parameters.length) = some n) ∧ d'.2.2.1 ≤ 21
theorem xws_in {n : Nat} (h : xcw d' n) : ∀ w ∈ xws d', w ∈ xTG := fun w hw => (List.mem_cons.mp hw).elim (fun e => e ▸ h.1) id
theorem xhR {n : Nat} (h : xcw d' n) (hB : B'.1 + 1 ≤ B.1) : (xrm B').frames + 1 ≤ (xrm B).frames ∧ 8 + (d'.2.2.1 + 11) + (xrm B').locals ≤ (xrm B).locals := by
  have := h.2.2.2
  simp only [xrm]
  omega
end xCalls
section xCalls2
variable {d d' : xMd} {B B' : Nat × Nat × Nat} {K : Nat × Nat} {pc : Nat} {lv : List (Nat × Value)} {st : List Value} {M : xMem} {Q Qc : Option Value → xMem → Prop}
/-- a method of an object -/
theorem x_callV {idx a ci N n : Nat} {C : String} {T : u_T} {ty : Nat → FieldType} {As : List Value} (hC : xCB ci C T N ty) (ha : M.1.1[a]? = some (ci, N)) (hcls : d'.1.cls = C) (hcw : xcw d' n) (hd : decode d.2.1 pc = .ok (.invokevirtual idx, 3)) (hw1 : Cond.methodLink d.1.cls idx d'.1 ∈ xTG) (hw2 : Cond.instanceMethod d'.1 ∈ xTG) (hw3 : Cond.selects C d'.1 d'.1 ∈ xTG) (hn : As.length = n) (hst : (st.map fun v => v.category).sum ≤ 8) (hB : B'.1 + 1 ≤ B.1) (hc1 : K.1 + B'.2.1 ≤ B.2.1) (hc2 : K.2 + B'.2.2 ≤ B.2.2)
    (hM : xSp d' B' (.ref a :: As) M Qc) (hlen : ∀ v M', Qc v M' → M'.1.1.length = M.1.1.length + B'.2.1)
    (kk : ∀ v M', Qc v M' → xEx d B (K.1 + B'.2.1, K.2 + B'.2.2) (pc + 3) lv (v.toList ++ st) M' Q) : xEx d B K pc lv (As.reverse ++ .ref a :: st) M Q := by
  intro p l e s m args below meth c G A H locs ls X I hl T0 hT0 X0
  have hz := I.size hT0 X0
  have hts := X.2.2.2.2.2.1
  subst hcls
  have cw := cwV (R := xrm B) (s := s) (args := args) (own := d.1.cls) (index := idx) (C := d'.1.cls) (y := d'.1) (rm := xrm B') n hts (xgood (ws := wsV d.1.cls idx d'.1.cls d'.1 (xws d')) (fun w hw => by
    rcases List.mem_append.mp hw with h | h
    · simp only [List.mem_cons, List.not_mem_nil, or_false] at h
      rcases h with rfl | rfl | rfl | rfl
      · exact hw1
      · exact hw2
      · exact hw3
      · exact hcw.2.1
    · exact xws_in hcw w h)) rfl rfl rfl ⟨rfl, hcw.2.2.1⟩ (xhR hcw hB)
  have hrec := va_recv (q := (d'.1.cls, T, N)) X.2.2.2.2.2.2.2.1 I.1 hC.1 (xW_obj ha hC.2.2.2.2)
  refine xcall (p := p) (l := l) (e := e) (a := (Value.ref (G.1 + a) :: As.map (xtr G)).toArray) X I hl ?_ hlen kk T0 hT0 X0
  refine va_runV (As := As.map (xtr G)) (b := G.1 + a) ⟨X.1, X.2.1, X.2.2.1, X.2.2.2.2.1, hts⟩ (hM l G) cw ⟨xblind G _ M, hrec, xpre X I hz (.ref a :: As)⟩ rfl (by rw [List.length_map]; exact hn) hl.1 ?_ (xroom hst) hd ⟨hc1, hc2⟩
  simp [xtr]
/-- a static method -/
theorem x_callS {idx n : Nat} {As : List Value} (hcw : xcw d' n) (hd : decode d.2.1 pc = .ok (.invokestatic idx, 3)) (hw1 : Cond.methodLink d.1.cls idx d'.1 ∈ xTG) (hw2 : Cond.static d'.1 ∈ xTG) (hn : As.length = n) (hst : (st.map fun v => v.category).sum ≤ 8) (hB : B'.1 + 1 ≤ B.1) (hc1 : K.1 + B'.2.1 ≤ B.2.1) (hc2 : K.2 + B'.2.2 ≤ B.2.2)
    (hM : xSp d' B' As M Qc) (hlen : ∀ v M', Qc v M' → M'.1.1.length = M.1.1.length + B'.2.1)
    (kk : ∀ v M', Qc v M' → xEx d B (K.1 + B'.2.1, K.2 + B'.2.2) (pc + 3) lv (v.toList ++ st) M' Q) : xEx d B K pc lv (As.reverse ++ st) M Q := by
  intro p l e s m args below meth c G A H locs ls X I hl T0 hT0 X0
  have hz := I.size hT0 X0
  have hts := X.2.2.2.2.2.1
  have cb := callB_of (R := xrm B) (s := s) (args := args) (own := d.1.cls) (index := idx) (y := d'.1) (rm := xrm B') n hts (xgood (xws_in hcw)) rfl rfl rfl (hts _ hcw.2.1) (hts _ hw1) hcw.2.2.1 (xhR hcw hB)
  refine xcall (p := p) (l := l) (e := e) (a := (As.map (xtr G)).toArray) X I hl ?_ hlen kk T0 hT0 X0
  refine va_runS (As := As.map (xtr G)) ⟨X.1, X.2.1, X.2.2.1, X.2.2.2.2.1, hts⟩ (hM l G) ⟨cb, hts _ hw2⟩ ⟨xblind G _ M, xpre X I hz As⟩ rfl (by rw [List.length_map]; exact hn) hl.1 ?_ (xroom hst) hd ⟨hc1, hc2⟩
  simp
/-- a static method of a nest mate -/
theorem x_callSN {idx n : Nat} {host : String} {As : List Value} (hcw : xcw d' n) (hd : decode d.2.1 pc = .ok (.invokestatic idx, 3)) (hw1 : Cond.methodLinkNest d.1.cls idx d'.1 host ∈ xNW) (hw2 : Cond.static d'.1 ∈ xTG) (hn : As.length = n) (hst : (st.map fun v => v.category).sum ≤ 8) (hB : B'.1 + 1 ≤ B.1) (hc1 : K.1 + B'.2.1 ≤ B.2.1) (hc2 : K.2 + B'.2.2 ≤ B.2.2)
    (hM : xSp d' B' As M Qc) (hlen : ∀ v M', Qc v M' → M'.1.1.length = M.1.1.length + B'.2.1)
    (kk : ∀ v M', Qc v M' → xEx d B (K.1 + B'.2.1, K.2 + B'.2.2) (pc + 3) lv (v.toList ++ st) M' Q) : xEx d B K pc lv (As.reverse ++ st) M Q := by
  intro p l e s m args below meth c G A H locs ls X I hl T0 hT0 X0
  have hz := I.size hT0 X0
  have hts := X.2.2.2.2.2.1
  have cb := va_cnB (R := xrm B) (s := s) (args := args) (own := d.1.cls) (host := host) (index := idx) (y := d'.1) (rm := xrm B') n hts (xgood (xws_in hcw)) rfl rfl rfl (X.2.2.2.2.2.2.2.2.1 _ hw1) (hts _ hcw.2.1) hcw.2.2.1 (xhR hcw hB)
  refine xcall (p := p) (l := l) (e := e) (a := (As.map (xtr G)).toArray) X I hl ?_ hlen kk T0 hT0 X0
  refine va_runSN (As := As.map (xtr G)) ⟨X.1, X.2.1, X.2.2.1, X.2.2.2.2.1, hts⟩ (hM l G) ⟨cb, hts _ hw2, trivial⟩ ⟨xblind G _ M, xpre X I hz As⟩ rfl (by rw [List.length_map]; exact hn) hl.1 ?_ (xroom hst) hd ⟨hc1, hc2⟩
  simp
/-- a constructor -/
theorem x_callI {idx n a : Nat} {As : List Value} (hcw : xcw d' n) (hret : d'.2.2.2 = none) (hnm : d'.1.name = "<init>") (hd : decode d.2.1 pc = .ok (.invokespecial idx, 3)) (hw1 : Cond.methodLink d.1.cls idx d'.1 ∈ xTG) (hw2 : Cond.instanceMethod d'.1 ∈ xTG) (hn : As.length = n) (hst : (st.map fun v => v.category).sum ≤ 8) (hB : B'.1 + 1 ≤ B.1) (hc1 : K.1 + B'.2.1 ≤ B.2.1) (hc2 : K.2 + B'.2.2 ≤ B.2.2)
    (hM : xSp d' B' (.ref a :: As) M Qc) (hlen : ∀ v M', Qc v M' → M'.1.1.length = M.1.1.length + B'.2.1)
    (kk : ∀ v M', Qc v M' → xEx d B (K.1 + B'.2.1, K.2 + B'.2.2) (pc + 3) lv (v.toList ++ st) M' Q) : xEx d B K pc lv (As.reverse ++ .ref a :: st) M Q := by
  intro p l e s m args below meth c G A H locs ls X I hl T0 hT0 X0
  have hz := I.size hT0 X0
  have hts := X.2.2.2.2.2.1
  have cb := callB_of (R := xrm B) (s := s) (args := args) (own := d.1.cls) (index := idx) (y := d'.1) (rm := xrm B') (ret := none) n hts (xgood (xws_in hcw)) (by rw [xws, hret]) rfl rfl (hts _ hcw.2.1) (hts _ hw1) hcw.2.2.1 (xhR hcw hB)
  refine xcall (p := p) (l := l) (e := e) (a := (Value.ref (G.1 + a) :: As.map (xtr G)).toArray) X I hl ?_ hlen kk T0 hT0 X0
  refine va_runI (As := As.map (xtr G)) (b := G.1 + a) ⟨X.1, X.2.1, X.2.2.1, X.2.2.2.2.1, hts⟩ (hM l G) ⟨cb, hnm, hts _ hw2⟩ ⟨xblind G _ M, xpre X I hz (.ref a :: As)⟩ rfl (by rw [List.length_map]; exact hn) hl.1 ?_ (xroom hst) hd ⟨hc1, hc2⟩
  simp [xtr]
theorem x_callIN {idx n a : Nat} {host : String} {As : List Value} (hcw : xcw d' n) (hret : d'.2.2.2 = none) (hnm : d'.1.name = "<init>") (hd : decode d.2.1 pc = .ok (.invokespecial idx, 3)) (hw1 : Cond.methodLinkNest d.1.cls idx d'.1 host ∈ xNW) (hw2 : Cond.instanceMethod d'.1 ∈ xTG) (hn : As.length = n) (hst : (st.map fun v => v.category).sum ≤ 8) (hB : B'.1 + 1 ≤ B.1) (hc1 : K.1 + B'.2.1 ≤ B.2.1) (hc2 : K.2 + B'.2.2 ≤ B.2.2)
    (hM : xSp d' B' (.ref a :: As) M Qc) (hlen : ∀ v M', Qc v M' → M'.1.1.length = M.1.1.length + B'.2.1)
    (kk : ∀ v M', Qc v M' → xEx d B (K.1 + B'.2.1, K.2 + B'.2.2) (pc + 3) lv (v.toList ++ st) M' Q) : xEx d B K pc lv (As.reverse ++ .ref a :: st) M Q := by
  intro p l e s m args below meth c G A H locs ls X I hl T0 hT0 X0
  have hz := I.size hT0 X0
  have hts := X.2.2.2.2.2.1
  have cb := va_cnB (R := xrm B) (s := s) (args := args) (own := d.1.cls) (host := host) (index := idx) (y := d'.1) (rm := xrm B') (ret := none) n hts (xgood (xws_in hcw)) (by rw [xws, hret]) rfl rfl (X.2.2.2.2.2.2.2.2.1 _ hw1) (hts _ hcw.2.1) hcw.2.2.1 (xhR hcw hB)
  refine xcall (p := p) (l := l) (e := e) (a := (Value.ref (G.1 + a) :: As.map (xtr G)).toArray) X I hl ?_ hlen kk T0 hT0 X0
  refine va_runIN (As := As.map (xtr G)) (b := G.1 + a) ⟨X.1, X.2.1, X.2.2.1, X.2.2.2.2.1, hts⟩ (hM l G) ⟨cb, hnm, hts _ hw2⟩ ⟨xblind G _ M, xpre X I hz (.ref a :: As)⟩ rfl (by rw [List.length_map]; exact hn) hl.1 ?_ (xroom hst) hd ⟨hc1, hc2⟩
  simp [xtr]
end xCalls2
