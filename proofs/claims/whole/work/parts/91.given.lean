/-! the law's start: what is given -/
abbrev gvL : List Cond := flatC (Jvm.Cond.and given_1 narrow_1)
theorem gv_at {args : Array Value} {s : State} {i : Nat} {w : Cond} (h : (Jvm.Cond.and given_1 narrow_1).before args s = true) (hi : gvL[i]? = some w) : w.before args s = true := flat_of_before _ h w (List.mem_of_getElem? hi)
theorem gf_cs : gvL[4]? = some (Cond.eq (Term.static "java/lang/String" "COMPACT_STRINGS" "Z") (Term.int 1)) := by decide +kernel
theorem gf_si : gvL[5]? = some (Cond.isRef (Term.static "jdk/internal/util/Preconditions" "SIOOBE_FORMATTER" "Ljava/util/function/BiFunction;")) := by decide +kernel
theorem gf_sa : gvL[10]? = some (Cond.arrayOf (Term.static "KnowledgeRoom$Decider" "SET" "[J") .long) := by decide +kernel
theorem gf_sl : gvL[11]? = some (Cond.eq (Term.length (Term.static "KnowledgeRoom$Decider" "SET" "[J")) (Term.int (Int32.ofNat 6))) := by decide +kernel
def xSEl (j : Nat) : Int64 := match j with | 0 => 0xAAAAAAAAAAAAAAAA | 1 => 0xCCCCCCCCCCCCCCCC | 2 => 0xF0F0F0F0F0F0F0F0 | 3 => 0xFF00FF00FF00FF00 | 4 => 0xFFFF0000FFFF0000 | _ => 0xFFFFFFFF00000000
theorem gf_se : ∀ j, j < 6 → gvL[12 + j]? = some (Cond.eq (Term.elem (Term.static "KnowledgeRoom$Decider" "SET" "[J") (Term.int (Int32.ofNat j))) (Term.long (xSEl j))) := by decide +kernel
def gb (i : Nat) : Nat := [18, 25, 32, 41].getD i 0
def xtm (i : Nat) : Term := Term.string (xsOwn i).1 (xsOwn i).2.1
theorem gf_ex : ∀ i, i < 4 → gvL[gb i]? = some (Cond.exactly (xtm i) "java/lang/String") := by decide +kernel
theorem gf_co : ∀ i, i < 4 → gvL[gb i + 1]? = some (Cond.eq (Term.field (xtm i) "java/lang/String" "coder" "B") (Term.int 0)) := by decide +kernel
theorem gf_ar : ∀ i, i < 4 → gvL[gb i + 2]? = some (Cond.arrayOf (Term.field (xtm i) "java/lang/String" "value" "[B") .byte) := by decide +kernel
theorem gf_le : ∀ i, i < 4 → gvL[gb i + 3]? = some (Cond.eq (Term.length (Term.field (xtm i) "java/lang/String" "value" "[B")) (Term.int (Int32.ofNat (xsLen.getD i 0)))) := by decide +kernel
theorem gf_el : ∀ i, i < 4 → ∀ j, j < xsLen.getD i 0 → gvL[gb i + 4 + j]? = some (Cond.eq (Term.elem (Term.field (xtm i) "java/lang/String" "value" "[B") (Term.int (Int32.ofNat j))) (Term.int ((xsByt.getD i []).getD j 0))) := by decide +kernel
theorem gf_01 : gvL[31]? = some (Cond.not (Cond.eq (xtm 0) (xtm 1))) := by decide +kernel
theorem gf_02 : gvL[39]? = some (Cond.not (Cond.eq (xtm 0) (xtm 2))) := by decide +kernel
theorem gf_12 : gvL[40]? = some (Cond.not (Cond.eq (xtm 1) (xtm 2))) := by decide +kernel
theorem gf_03 : gvL[61]? = some (Cond.not (Cond.eq (xtm 0) (xtm 3))) := by decide +kernel
theorem gf_13 : gvL[62]? = some (Cond.not (Cond.eq (xtm 1) (xtm 3))) := by decide +kernel
theorem gf_23 : gvL[63]? = some (Cond.not (Cond.eq (xtm 2) (xtm 3))) := by decide +kernel
theorem tb_s0 : tables_1[856]? = some (Cond.stringRef (xsOwn 0).1 (xsOwn 0).2.1 (xsOwn 0).2.2) := by decide +kernel
theorem tb_s1 : tables_1[944]? = some (Cond.stringRef (xsOwn 1).1 (xsOwn 1).2.1 (xsOwn 1).2.2) := by decide +kernel
theorem tb_s2 : tables_1[973]? = some (Cond.stringRef (xsOwn 2).1 (xsOwn 2).2.1 (xsOwn 2).2.2) := by decide +kernel
theorem tb_s3 : tables_1[1383]? = some (Cond.stringRef (xsOwn 3).1 (xsOwn 3).2.1 (xsOwn 3).2.2) := by decide +kernel
theorem tb_1031 : tables_1[1031]? = some (Cond.laysStatic "KnowledgeRoom$Decider" "SET" "[J") := by decide +kernel
theorem tb_875 : tables_1[875]? = some (Cond.laysStatic "java/lang/String" "COMPACT_STRINGS" "Z") := by decide +kernel
theorem tb_914 : tables_1[914]? = some (Cond.laysStatic "jdk/internal/util/Preconditions" "SIOOBE_FORMATTER" "Ljava/util/function/BiFunction;") := by decide +kernel
theorem st_SET {b : Nat} {s : State} (hts : ∀ w ∈ lw_tbl, w.before #[Value.ref b] s = true) (hgv : (Jvm.Cond.and given_1 narrow_1).before #[Value.ref b] s = true) : ∃ t : Nat, va_Z "KnowledgeRoom$Decider" "SET" "[J" (.ref t) (fun q : Nat => s.heap.size ≤ q) s s.heap ∧ va_T .long t 6 xSET (fun q : Nat => s.heap.size ≤ q) s s.heap := by
  have hA : ∀ a : Nat, a < s.heap.size → ¬ (fun q : Nat => s.heap.size ≤ q) a := fun a h => Nat.not_le.mpr h
  obtain ⟨t, e, hT⟩ := va_Tof (N := 6) (f := fun j => .long (xSEl j)) (A := fun q : Nat => s.heap.size ≤ q) (tm := .static "KnowledgeRoom$Decider" "SET" "[J") (ty := .long) (by decide) (gv_at hgv gf_sa) (va_eqt (gv_at hgv gf_sl)) (fun j hj => va_eqtl (gv_at hgv (gf_se j hj))) hA
  exact ⟨t, va_Zref (st_tab hts tb_1031) (st_htg hts _ wd_12) e hA, hT⟩
theorem st_CS {b : Nat} {s : State} (hts : ∀ w ∈ lw_tbl, w.before #[Value.ref b] s = true) (hgv : (Jvm.Cond.and given_1 narrow_1).before #[Value.ref b] s = true) : va_Z "java/lang/String" "COMPACT_STRINGS" "Z" (.int 1) (fun q : Nat => s.heap.size ≤ q) s s.heap := va_Zof (st_tab hts tb_875) (st_htg hts _ wd_17) (va_eqi (z := 1) (gv_at hgv gf_cs)) (fun a h => Nat.not_le.mpr h)
theorem st_SI {b : Nat} {s : State} (hts : ∀ w ∈ lw_tbl, w.before #[Value.ref b] s = true) (hgv : (Jvm.Cond.and given_1 narrow_1).before #[Value.ref b] s = true) : va_Zq "jdk/internal/util/Preconditions" "SIOOBE_FORMATTER" "Ljava/util/function/BiFunction;" (fun q : Nat => s.heap.size ≤ q) s s.heap := va_Zqof (st_tab hts tb_914) (st_htg hts _ wd_19) (gv_at hgv gf_si) (fun a h => Nat.not_le.mpr h)
theorem st_TX {b : Nat} {s : State} (hts : ∀ w ∈ lw_tbl, w.before #[Value.ref b] s = true) (hgv : (Jvm.Cond.and given_1 narrow_1).before #[Value.ref b] s = true) : ∃ adK adV : Nat → Nat, vk_S 4 xsLen xsByt adK adV (fun q : Nat => s.heap.size ≤ q) s s.heap ∧ ∀ i, i < 4 → vk_R (xsOwn i).1 (xsOwn i).2.1 (xsOwn i).2.2 (adK i) s := by
  have hne : ∀ i j : Nat, i < 4 → j < 4 → i ≠ j → (Cond.not (Cond.eq (xtm i) (xtm j))).before #[Value.ref b] s = true ∨ (Cond.not (Cond.eq (xtm j) (xtm i))).before #[Value.ref b] s = true := by
    intro i j hi hj hij
    have h1 : i = 0 ∨ i = 1 ∨ i = 2 ∨ i = 3 := by omega
    have h2 : j = 0 ∨ j = 1 ∨ j = 2 ∨ j = 3 := by omega
    rcases h1 with rfl | rfl | rfl | rfl <;> rcases h2 with rfl | rfl | rfl | rfl <;> first | (exact absurd rfl hij) | exact Or.inl (gv_at hgv gf_01) | exact Or.inr (gv_at hgv gf_01) | exact Or.inl (gv_at hgv gf_02) | exact Or.inr (gv_at hgv gf_02) | exact Or.inl (gv_at hgv gf_12) | exact Or.inr (gv_at hgv gf_12) | exact Or.inl (gv_at hgv gf_03) | exact Or.inr (gv_at hgv gf_03) | exact Or.inl (gv_at hgv gf_13) | exact Or.inr (gv_at hgv gf_13) | exact Or.inl (gv_at hgv gf_23) | exact Or.inr (gv_at hgv gf_23)
  obtain ⟨adK, adV, h1, h2⟩ := vk_Sof (args := #[Value.ref b]) (s := s) (N := 4) (tm := xtm) (len := xsLen) (byt := xsByt) (A := fun q : Nat => s.heap.size ≤ q) (fun i hi => by
    have : i = 0 ∨ i = 1 ∨ i = 2 ∨ i = 3 := by omega
    rcases this with rfl | rfl | rfl | rfl <;> decide) (fun i hi => gv_at hgv (gf_ex i hi)) (fun i hi => gv_at hgv (gf_co i hi)) (fun i hi => gv_at hgv (gf_ar i hi)) (fun i hi => gv_at hgv (gf_le i hi)) (fun i hi j hj => gv_at hgv (gf_el i hi j hj)) hne (fun a h => Nat.not_le.mpr h)
  refine ⟨adK, adV, h1, fun i hi => ?_⟩
  have e := h2 i hi
  have : i = 0 ∨ i = 1 ∨ i = 2 ∨ i = 3 := by omega
  rcases this with rfl | rfl | rfl | rfl
  · exact vk_R.of (st_tab hts tb_s0) e
  · exact vk_R.of (st_tab hts tb_s1) e
  · exact vk_R.of (st_tab hts tb_s2) e
  · exact vk_R.of (st_tab hts tb_s3) e
/-- the special cells -/
def spc (tS b tF fF : Nat) (adK adV : Nat → Nat) (c : UInt32) : Nat := if c.toNat = 0 then tS else if c.toNat = 9 then b else if c.toNat = 40 then tF else if c.toNat = 41 then fF else if c.toNat < 17 then adK (c.toNat - 1) else adV (c.toNat - 17)
theorem st_X {p : Program} {s : State} {m : MethodId} {meth : Method} {c : Code} {b L : Nat} {xs : Nat → Int32} (C0 : lw_At p s m meth c b L xs) : ∃ G : xG, lCx p s m meth c b L xs G := by
  obtain ⟨hx, hb, hr, hml, hown, hts, hX, hbl, hlocks, hgv⟩ := id C0
  obtain ⟨D, cA, hK⟩ := st_K hts
  obtain ⟨tS, z1, z2⟩ := st_SET hts hgv
  obtain ⟨adK, adV, t1, t2⟩ := st_TX hts hgv
  have z3 := st_CS hts hgv
  have eK : ∀ (tF fF : Nat) (i : Nat), i < 4 → spc tS b tF fF adK adV (xsS i) = adK i := by
    intro tF fF i hi
    have : i = 0 ∨ i = 1 ∨ i = 2 ∨ i = 3 := by omega
    rcases this with rfl | rfl | rfl | rfl <;> rfl
  have eV : ∀ (tF fF : Nat) (i : Nat), i < 4 → spc tS b tF fF adK adV (xsB i) = adV i := by
    intro tF fF i hi
    have : i = 0 ∨ i = 1 ∨ i = 2 ∨ i = 3 := by omega
    rcases this with rfl | rfl | rfl | rfl <;> rfl
  have mk : ∀ (tF fF : Nat), va_Z "jdk/internal/util/Preconditions" "SIOOBE_FORMATTER" "Ljava/util/function/BiFunction;" (if fF = 0 then .null else .ref tF) (fun q : Nat => s.heap.size ≤ q) s s.heap → ∃ G : xG, lCx p s m meth c b L xs G := by
    intro tF fF z4
    refine ⟨(s.heap.size, spc tS b tF fF adK adV, D, cA), C0, hK, st_N hts, ⟨z1, z2, fun i hi => ?_, ⟨fun i hi => ?_, fun i j hi hj q => ?_⟩, z3, z4⟩, rfl, rfl⟩
    · show vk_R _ _ _ (spc tS b tF fF adK adV (xsS i)) s
      rw [eK tF fF i hi]; exact t2 i hi
    · show va_O _ (spc tS b tF fF adK adV (xsS i)) _ _ _ ∧ va_OF _ _ _ _ (spc tS b tF fF adK adV (xsS i)) _ _ _ ∧ va_OF _ _ _ (.ref (spc tS b tF fF adK adV (xsB i))) (spc tS b tF fF adK adV (xsS i)) _ _ _ ∧ va_T _ (spc tS b tF fF adK adV (xsB i)) _ _ _ _ _
      rw [eK tF fF i hi, eV tF fF i hi]; exact t1.1 i hi
    · have q' : spc tS b tF fF adK adV (xsS i) = spc tS b tF fF adK adV (xsS j) := q
      rw [eK tF fF i hi, eK tF fF j hj] at q'
      exact t1.2 i j hi hj q'
  rcases st_SI hts hgv with h | ⟨t, h⟩
  · exact mk 0 0 h
  · exact mk t 1 h
