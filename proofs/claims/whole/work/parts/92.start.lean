/-! the law's start -/
theorem wd_24 : (Jvm.Cond.classLink "KnowledgeRoomLaw" (7 : Nat) "KnowledgeRoom") ∈ xTG := xmem 24 (by decide +kernel) (by decide +kernel)
theorem wd_26 : (Jvm.Cond.methodLink "KnowledgeRoomLaw" (9 : Nat) ({ cls := "KnowledgeRoom", name := "<init>", desc := "()V" } : Jvm.MethodName)) ∈ xTG := xmem 26 (by decide +kernel) (by decide +kernel)
theorem wd_27 : (Jvm.Cond.instanceMethod ({ cls := "KnowledgeRoom", name := "<init>", desc := "()V" } : Jvm.MethodName)) ∈ xTG := xmem 27 (by decide +kernel) (by decide +kernel)
theorem wd_28 : (Jvm.Cond.code ({ cls := "KnowledgeRoom", name := "<init>", desc := "()V" } : Jvm.MethodName) prog_1_method_1_code (1 : Nat) (Option.none : Option Jvm.ClassFile.FieldType)) ∈ xTG := xmem 28 (by decide +kernel) (by decide +kernel)
theorem wd_1140 : (Jvm.Cond.classLink "KnowledgeRoomLaw" (10 : Nat) "KnowledgeRoomModel") ∈ xTG := xmem 1140 (by decide +kernel) (by decide +kernel)
theorem wd_1141 : (Jvm.Cond.methodLink "KnowledgeRoomLaw" (12 : Nat) ({ cls := "KnowledgeRoomModel", name := "<init>", desc := "()V" } : Jvm.MethodName)) ∈ xTG := xmem 1141 (by decide +kernel) (by decide +kernel)
theorem wd_1142 : (Jvm.Cond.instanceMethod ({ cls := "KnowledgeRoomModel", name := "<init>", desc := "()V" } : Jvm.MethodName)) ∈ xTG := xmem 1142 (by decide +kernel) (by decide +kernel)
theorem wd_1143 : (Jvm.Cond.code ({ cls := "KnowledgeRoomModel", name := "<init>", desc := "()V" } : Jvm.MethodName) prog_14_method_19_code (1 : Nat) (Option.none : Option Jvm.ClassFile.FieldType)) ∈ xTG := xmem 1143 (by decide +kernel) (by decide +kernel)
theorem cw_X11_init : xcw md_X11_init 0 := ⟨wd_28, wd_1, by decide +kernel, by decide⟩
theorem cw_X12_init : xcw md_X12_init 0 := ⟨wd_1143, wd_14, by decide +kernel, by decide⟩
theorem w_rev {p : Program} {l : Launch} {e : Env} {s : State} {m : MethodId} {below : List Frame} {meth : Method} {c : Code} {b pc : Nat} {G : xG} {K : Nat × Nat} {lv : List (Nat × Value)} {st : List Value} {M : xMem} (k : wEx p l e s m below meth c b G K pc lv.reverse st M) : wEx p l e s m below meth c b G K pc lv st M := fun H locs ls I hl => k H locs ls I ⟨hl.1, hl.2.1, fun q hq => hl.2.2 q (by rw [xlv, List.map_reverse] at hq; exact List.mem_reverse.mp hq)⟩
theorem st_run {F : Nat} (Iv : xDt → Prop) (hI : Iv xD4) (hm : ∀ D, Iv D → ∀ k a1 a2 a3 : Int32, ∃ D2, lawStep F 2010 xS0 0 241 k a1 a2 a3 D D2 ∧ Iv D2) {p : Program} {l : Launch} {e : Env} {s : State} {m : MethodId} {below : List Frame} {meth : Method} {c : Code} {b L : Nat} {xs : Nat → Int32} {G : xG} (hL : L ≤ 2048) (X : lCx p s m meth c b L xs G) : wEx p l e s m below meth c b G (0, 0) 0 [(0, .float 9)] [] xM00 := by
  have k0 : xK xS0 0 11 := xkb_K (by decide +kernel)
  have k241 : xK xS0 241 12 := xkb_K (by decide +kernel)
  have loop : wEx p l e s m below meth c b G (273, 590316) 18 [(0, .float 9), (1, .ref 0), (2, .ref 241), (3, .int (nI 0))] [] (xS0, xD4) := law_loop (P := 2010) (by omega) hL X xwf0 k0 k241 (by decide) (by decide) Iv hm (L + 4) 0 xD4 hI (by omega) (by omega)
  refine w_new (N := 15) cb_11 dL_law_0 wd_24 wd_25 wd_1 (by decide +kernel) (by decide) (by decide) X ?_
  show wEx p l e s m below meth c b G (1, 15) 3 [(0, .float 9)] [.ref 0] xM0
  refine w_dup dL_law_3 rfl X ?_
  refine w_callI (As := []) (B' := (3, 240, 58137)) (st := [.ref 0]) (M := xM0) cw_X11_init rfl rfl dL_law_4 wd_26 wd_27 rfl (by decide) (by decide) (by decide) (by decide) C_X11 ?_ X ?_
  · rintro v M' ⟨rfl, rfl⟩; decide +kernel
  rintro v M' ⟨rfl, rfl⟩
  show wEx p l e s m below meth c b G (241, 58152) 7 [(0, .float 9)] [.ref 0] (xS1, xD1)
  refine w_astore_n [(1, .ref 0), (0, .float 9)] dL_law_7 rfl X ?_
  refine w_new (N := 44) cb_12 dL_law_8 wd_1140 wd_1103 wd_14 (by decide +kernel) (by decide) (by decide) X ?_
  show wEx p l e s m below meth c b G (242, 58196) 11 [(1, .ref 0), (0, .float 9)] [.ref 241] xM2
  refine w_dup dL_law_11 rfl X ?_
  refine w_callI (As := []) (B' := (1, 31, 532120)) (st := [.ref 241]) (M := xM2) cw_X12_init rfl rfl dL_law_12 wd_1141 wd_1142 rfl (by decide) (by decide) (by decide) (by decide) C_X12 ?_ X ?_
  · rintro v M' ⟨rfl, rfl⟩; decide +kernel
  rintro v M' ⟨rfl, rfl⟩
  show wEx p l e s m below meth c b G (273, 590316) 15 [(1, .ref 0), (0, .float 9)] [.ref 241] (xS0, xD4)
  refine w_astore_n [(2, .ref 241), (1, .ref 0), (0, .float 9)] dL_law_15 rfl X ?_
  refine w_iconst 0 dL_law_16 (by decide) X ?_
  refine w_istore_n [(3, .int 0), (2, .ref 241), (1, .ref 0), (0, .float 9)] dL_law_17 rfl X ?_
  exact w_rev loop
theorem whole_start {p : Program} {e : Env} {s : State} {m : MethodId} {below : List Frame} {meth : Method} {c : Code} (l : Launch) {b L : Nat} {xs : Nat → Int32} (hL : L ≤ 2048) (C0 : lw_At p s m meth c b L xs) : W p l e room_1 s m #[Value.ref b] below meth c s.heap [] 0 0 (lw_Z below #[Value.ref b] s) (entryFrame m ([Value.ref b] : List Value).toArray 4) := by
  obtain ⟨G, X⟩ := st_X C0
  obtain ⟨dA, hdA⟩ := dA_ex
  have run := st_run (F := 1000000) (p := p) (l := l) (e := e) (s := s) (m := m) (below := below) (meth := meth) (c := c) (b := b) (L := L) (xs := xs) (G := G) (Iv dA) (Iv_0 dA) (law_ok hdA) hL X
  have hG1 : G.1 = s.heap.size := X.2.2.2.2.1
  have h9 : G.2.1 9 = b := X.2.2.2.2.2
  rw [lg_entry_eq]
  refine run s.heap [] _ ⟨fun k q hq => ?_, ⟨fun i j q r hq => ?_, fun k q hq => ?_⟩, ⟨Nat.le_refl _, fun _ _ _ => rfl, fun q hq => ?_⟩, ?_, ?_⟩ ?_
  · exact absurd hq (by simp [xW, xM00])
  · exact absurd hq (by simp [xW, xM00])
  · exact absurd hq (by simp [xW, xM00])
  · cases hq
  · show s.heap.size + 0 = G.1 + 0
    omega
  · omega
  · have h := lv_entry [Value.ref b] (n := 4) (show 1 ≤ 4 by decide)
    have e1 : xlv G [(0, .float 9)] = [(0, Value.ref b)] := by
      show [(0, Value.ref (G.2.1 9))] = _
      rw [h9]
    rw [e1]
    exact h
