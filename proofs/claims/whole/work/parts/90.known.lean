/-! the law's start: classes -/
theorem wd_25 : (Jvm.Cond.instantiable "KnowledgeRoom" (15 : Nat)) ∈ xTG := xmem 25 (by decide +kernel) (by decide +kernel)
theorem wd_1103 : (Jvm.Cond.instantiable "KnowledgeRoomModel" (44 : Nat)) ∈ xTG := xmem 1103 (by decide +kernel) (by decide +kernel)
theorem st_htg {b : Nat} {s : State} (hts : ∀ w ∈ lw_tbl, w.before #[Value.ref b] s = true) : ∀ w ∈ xTG, w.before #[Value.ref b] s = true := fun w h => hts w (List.mem_filter.mp h).1
theorem st_kn {b : Nat} {s : State} (hts : ∀ w ∈ lw_tbl, w.before #[Value.ref b] s = true) {ci N : Nat} {C : String} {T : u_T} {ty : Nat → FieldType} (hC : xCB ci C T N ty) (hw : Cond.instantiable C N ∈ xTG) : ∃ (cC : ClassId) (iS : Nat → Nat), u_Kn s C T N cC iS := u_known (C := C) (T := T) (N := N) (n := N) hts (fun w h => (List.mem_filter.mp (hC.2.1 w h)).1) (st_htg hts _ hw)
theorem st_cls {b : Nat} {s : State} (hts : ∀ w ∈ lw_tbl, w.before #[Value.ref b] s = true) : ∃ D : va_G, ∀ (c : Nat) (q : vw_C), vwCl[c]? = some q → u_Kn s q.1 q.2.1 q.2.2 (D.1 c) (D.2 c) := by
  have h : ∀ c : Nat, ∃ d : ClassId × (Nat → Nat), ∀ q : vw_C, vwCl[c]? = some q → u_Kn s q.1 q.2.1 q.2.2 d.1 d.2 := by
    intro c
    have one : ∀ {ci N : Nat} {C : String} {T : u_T} {ty : Nat → FieldType}, xCB ci C T N ty → Cond.instantiable C N ∈ xTG → ∃ d : ClassId × (Nat → Nat), ∀ q : vw_C, vwCl[ci]? = some q → u_Kn s q.1 q.2.1 q.2.2 d.1 d.2 := by
      intro ci N C T ty hC hw
      obtain ⟨cC, iS, h⟩ := st_kn hts hC hw
      refine ⟨(cC, iS), fun q hq => ?_⟩
      rw [hC.1] at hq
      injection hq with hq
      subst hq
      exact h
    match c with
    | 0 => exact one cb_0 wd_277
    | 1 => exact one cb_1 wd_78
    | 2 => exact one cb_2 wd_85
    | 3 => exact one cb_3 wd_208
    | 4 => exact one cb_4 wd_233
    | 5 => exact one cb_5 wd_58
    | 6 => exact one cb_6 wd_134
    | 7 => exact one cb_7 wd_253
    | 8 => exact one cb_8 wd_283
    | 9 => exact one cb_9 wd_187
    | 10 => exact one cb_10 wd_33
    | 11 => exact one cb_11 wd_25
    | 12 => exact one cb_12 wd_1103
    | n + 13 => exact ⟨(0, fun _ => 0), fun q hq => by rw [List.getElem?_eq_none (by simp)] at hq; cases hq⟩
  obtain ⟨d, hd⟩ := Classical.axiomOfChoice h
  exact ⟨(fun c => (d c).1, fun c => (d c).2), hd⟩
theorem st_arr {b : Nat} {s : State} {ty : FieldType} (h : (Cond.arrayClass ty).before #[Value.ref b] s = true) (hty : ∀ C, ty ≠ .object C) : ∃ cA : ClassId, ArrOfT s cA ty ∧ va_RA s cA ty := by
  obtain ⟨a, ka, co, fa, ga, ha⟩ := Cond.arrayClass_spec h
  refine ⟨a, fun n z => ⟨fun k h => (by cases h), ka, ga, co, ha⟩, ?_⟩
  cases ty with
  | object C => exact absurd rfl (hty C)
  | _ => exact fa
theorem st_ovr {b : Nat} {s : State} {C : String} (h : (Cond.arrayOver (.object C)).before #[Value.ref b] s = true) : ∃ cA : ClassId, ArrOfT s cA (.object C) ∧ va_RA s cA (.object C) := by
  obtain ⟨co, a, ka, fc, -, ga, ha, fa⟩ := Cond.arrayOver_spec h
  exact ⟨a, fun n z => ⟨fun k h => (by cases h), ka, ga, co, ha⟩, ka, co, ga, ha, fc, fa⟩
theorem tb_64 : tables_1[64]? = some (Jvm.Cond.arrayOver (Jvm.ClassFile.FieldType.object "KnowledgeRoom$Worlds")) := by decide +kernel
theorem tb_84 : tables_1[84]? = some (Jvm.Cond.arrayOver (Jvm.ClassFile.FieldType.object "KnowledgeRoom$Formula")) := by decide +kernel
theorem st_tab {b i : Nat} {s : State} {w : Cond} (hts : ∀ w ∈ lw_tbl, w.before #[Value.ref b] s = true) (h : tables_1[i]? = some w) : w.before #[Value.ref b] s = true := hts w (List.mem_append_right _ (List.mem_of_getElem? h))
theorem st_K {b : Nat} {s : State} (hts : ∀ w ∈ lw_tbl, w.before #[Value.ref b] s = true) : ∃ (D : va_G) (cA : Nat → ClassId), va_K D vwCl [(cA 100, .int), (cA 101, .long), (cA 102, .char), (cA 103, .byte), (cA 104, .boolean), (cA 210, .object RX10), (cA 202, .object RX2)] s := by
  obtain ⟨D, hD⟩ := st_cls hts
  obtain ⟨a0, h0⟩ := st_arr (st_htg hts _ wd_111) (fun C h => by cases h)
  obtain ⟨a1, h1⟩ := st_arr (st_htg hts _ wd_56) (fun C h => by cases h)
  obtain ⟨a2, h2⟩ := st_arr (st_htg hts _ wd_182) (fun C h => by cases h)
  obtain ⟨a3, h3⟩ := st_arr (st_htg hts _ wd_964) (fun C h => by cases h)
  obtain ⟨a4, h4⟩ := st_arr (st_htg hts _ wd_183) (fun C h => by cases h)
  obtain ⟨a5, h5⟩ := st_ovr (st_tab hts tb_64)
  obtain ⟨a6, h6⟩ := st_ovr (st_tab hts tb_84)
  refine ⟨D, fun n => if n = 100 then a0 else if n = 101 then a1 else if n = 102 then a2 else if n = 103 then a3 else if n = 104 then a4 else if n = 210 then a5 else a6, hD, fun k q hq => ?_⟩
  match k, hq with
  | 0, hq => injection hq with hq; subst hq; exact h0
  | 1, hq => injection hq with hq; subst hq; exact h1
  | 2, hq => injection hq with hq; subst hq; exact h2
  | 3, hq => injection hq with hq; subst hq; exact h3
  | 4, hq => injection hq with hq; subst hq; exact h4
  | 5, hq => injection hq with hq; subst hq; exact h5
  | 6, hq => injection hq with hq; subst hq; exact h6
  | n + 7, hq => rw [List.getElem?_eq_none (by simp)] at hq; cases hq
theorem st_N {b : Nat} {s : State} (hts : ∀ w ∈ lw_tbl, w.before #[Value.ref b] s = true) : ∀ w ∈ xNW, va_Nw w s := by
  intro w hw
  have h1 := hts w (List.mem_append_right _ (List.mem_filter.mp hw).1)
  have h2 := (List.mem_filter.mp hw).2
  cases w <;> first | exact va_Nw.of rfl h1 | cases h2 | (rename_i ty; cases ty <;> first | exact va_AO.of h1 | cases h2)
