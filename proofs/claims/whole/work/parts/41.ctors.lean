abbrev md_X5_init : xMd := (yX5_init, cX5_init, 2, none)
abbrev md_X1_init : xMd := (yX1_init, cX1_init, 2, none)
theorem wd_36 : (Jvm.Cond.code ({ cls := "KnowledgeRoom$Worlds", name := "<init>", desc := "()V" } : Jvm.MethodName) prog_12_method_1_code (1 : Nat) (Option.none : Option Jvm.ClassFile.FieldType)) ∈ xTG := xmem 36 (by decide +kernel) (by decide +kernel)
theorem cw_X10_init : xcw md_X10_init 0 := ⟨wd_36, wd_2, by decide +kernel, by decide⟩
theorem wn_65 : (Jvm.Cond.methodLinkNest "KnowledgeRoom$Past" (17 : Nat) ({ cls := "KnowledgeRoom$Worlds", name := "<init>", desc := "()V" } : Jvm.MethodName) "KnowledgeRoom") ∈ xNW := xmemN 65 (by decide +kernel) rfl
theorem wd_63 : (Jvm.Cond.classLink "KnowledgeRoom$Past" (9 : Nat) "KnowledgeRoom$Worlds") ∈ xTG := xmem 63 (by decide +kernel) (by decide +kernel)
theorem wd_33 : (Jvm.Cond.instantiable "KnowledgeRoom$Worlds" (3 : Nat)) ∈ xTG := xmem 33 (by decide +kernel) (by decide +kernel)
theorem wd_35 : (Jvm.Cond.instanceMethod ({ cls := "KnowledgeRoom$Worlds", name := "<init>", desc := "()V" } : Jvm.MethodName)) ∈ xTG := xmem 35 (by decide +kernel) (by decide +kernel)
theorem wd_62 : (Jvm.Cond.methodLink "KnowledgeRoom$Past" (3 : Nat) ({ cls := "java/lang/Object", name := "<init>", desc := "()V" } : Jvm.MethodName)) ∈ xTG := xmem 62 (by decide +kernel) (by decide +kernel)
theorem wn_64 : (Jvm.Cond.arrayOver (Jvm.ClassFile.FieldType.object "KnowledgeRoom$Worlds")) ∈ xNW := xmemN 64 (by decide +kernel) rfl
theorem wd_83 : (Jvm.Cond.classLink "KnowledgeRoom$Events" (11 : Nat) "KnowledgeRoom$Formula") ∈ xTG := xmem 83 (by decide +kernel) (by decide +kernel)
theorem wd_86 : (Jvm.Cond.methodLink "KnowledgeRoom$Events" (31 : Nat) ({ cls := "KnowledgeRoom$Formula", name := "<init>", desc := "(I)V" } : Jvm.MethodName)) ∈ xTG := xmem 86 (by decide +kernel) (by decide +kernel)
theorem wd_82 : (Jvm.Cond.methodLink "KnowledgeRoom$Events" (3 : Nat) ({ cls := "java/lang/Object", name := "<init>", desc := "()V" } : Jvm.MethodName)) ∈ xTG := xmem 82 (by decide +kernel) (by decide +kernel)
theorem wn_84 : (Jvm.Cond.arrayOver (Jvm.ClassFile.FieldType.object "KnowledgeRoom$Formula")) ∈ xNW := xmemN 84 (by decide +kernel) rfl
/-! the constructors of Past and Events -/
theorem xnI_in {i n : Nat} (h : i < n) (hn : n < 2 ^ 31) : xin (nI i) n = true := by
  have h1 : (nI i).toNatClampNeg = i := nI_clamp (by omega)
  have h2 : 0 ≤ nI i := by rw [Int32.le_iff_toInt_le, nI_toInt (by omega)]; simp
  simp [xin, h1, h2, h]
def c_X5_it (rg i : Nat) (M : xMem) : xMem :=
  let M2 : xMem := c_X10 M.1.1.length (xnew M 10 3)
  ((M2.1.1, xup M2.1.2 rg i (some M.1.1.length)), M2.2)
def c_X5_loop (rg : Nat) : Nat → Nat → xMem → xMem
  | 0, _, M => M
  | n + 1, i, M => c_X5_loop rg n (i + 1) (c_X5_it rg i M)
theorem c_X5_it_sh (rg i : Nat) (M : xMem) : (c_X5_it rg i M).1.1 = M.1.1 ++ [(10, 3), (101, 8), (101, 256)] := by
  show (c_X10 M.1.1.length (xnew M 10 3)).1.1 = _
  rw [c_X10_sh]; simp [xnew]
theorem c_X10_rf {a b : Nat} {M : xMem} (h : b ≠ a) (h2 : b < M.1.1.length) (k : Nat) : (c_X10 a M).1.2 b k = M.1.2 b k := by
  simp only [c_X10, xnew]
  rw [xup_ne _ _ _ _ h, xnw_ne _ _ _ (by simp; omega), xup_ne _ _ _ _ h, xnw_ne _ _ _ (by omega)]
theorem c_X5_it_rf {rg i a : Nat} {M : xMem} (h : a ≠ rg) (h2 : a < M.1.1.length) (k : Nat) : (c_X5_it rg i M).1.2 a k = M.1.2 a k := by
  show xup (c_X10 M.1.1.length (xnew M 10 3)).1.2 rg i _ a k = _
  rw [xup_ne _ _ _ _ h, c_X10_rf (by omega) (by simp [xnew]; omega)]
  simp only [xnew]
  rw [xnw_ne _ _ _ (by omega)]
set_option maxHeartbeats 4000000 in
set_option maxRecDepth 100000 in
theorem C_X5_loop {a rg : Nat} {B : Nat × Nat × Nat} (hB : 2 ≤ B.1) (har : a ≠ rg) : ∀ (n i : Nat) (M : xMem) (K : Nat × Nat), i + n = 12 → M.1.1[a]? = some (5, 3) → M.1.1[rg]? = some (210, 12) → M.1.2 a 0 = some rg → K.1 + 3 * n ≤ B.2.1 → K.2 + 267 * n ≤ B.2.2 → xEx md_X5_init B K 15 [(0, .ref a), (1, .int (nI i))] [] M (fun v M' => v = none ∧ M' = c_X5_loop rg n i M) := by
  intro n
  induction n with
  | zero =>
    intro i M K hi ha hr hf h1 h2
    obtain rfl : i = 12 := by omega
    refine x_iload_n dX5_init_15 1 rfl ?_
    refine x_bipush 12 dX5_init_16 (by decide) ?_
    refine x_icmp_ge 40 dX5_init_18 (by decide) (fun c => ?_) (fun c => absurd (by decide) c)
    exact x_vret rfl (by omega) (by omega) dX5_init_40 ⟨rfl, rfl⟩
  | succ n ih =>
    intro i M K hi ha hr hf h1 h2
    refine x_iload_n dX5_init_15 1 rfl ?_
    refine x_bipush 12 dX5_init_16 (by decide) ?_
    refine x_icmp_ge 40 dX5_init_18 (by decide) (fun c => ?_) (fun c => ?_)
    · exfalso
      rw [Int32.le_iff_toInt_le, nI_toInt (by omega)] at c
      have : (12 : Int32).toInt = 12 := by decide
      omega
    refine x_aload_n dX5_init_21 0 rfl ?_
    refine x_getr (k := 0) cb_5 (by decide) dX5_init_22 wd_66 rfl ha hf ?_
    refine x_iload_n dX5_init_25 1 rfl ?_
    refine x_new cb_10 dX5_init_26 wd_63 wd_33 wd_2 (by decide +kernel) (by omega) (by show K.2 + 3 ≤ _; omega) ?_
    refine x_dup dX5_init_29 rfl ?_
    refine x_callIN (B' := (1, 2, 264)) (As := []) cw_X10_init rfl rfl dX5_init_30 wn_65 wd_35 rfl (Nat.le_of_ble_eq_true rfl) (by show 1 + 1 ≤ B.1; omega) (by show K.1 + 1 + 2 ≤ _; omega) (by show K.2 + 3 + 264 ≤ _; omega) (C_X10 xnew_last) ?_ ?_
    · rintro v M' ⟨rfl, rfl⟩; exact c_X10_len _ _
    rintro v M' ⟨rfl, rfl⟩
    refine x_aast (n := 12) (t := 210) (ti := 5) cb_10 (fun _ => rfl) (by decide) dX5_init_33 (c_X10_at (xnew_at hr)) (c_X10_at xnew_last) (xnI_in (by omega) (by decide)) ?_
    have hc : (nI i).toNatClampNeg = i := nI_clamp (by omega)
    rw [hc]
    refine x_iinc (nI (i + 1)) [(1, .int (nI (i + 1))), (0, .ref a)] dX5_init_34 1 rfl (by rw [nI_succ]; rfl) (by decide) rfl ?_
    refine x_goto 15 dX5_init_37 (by decide) ?_
    refine x_lv (lv' := [(0, .ref a), (1, .int (nI (i + 1)))]) [1, 0] rfl ?_
    have hal := (List.getElem?_eq_some_iff.mp ha).1
    exact ih (i + 1) (c_X5_it rg i M) _ (by omega) (by rw [c_X5_it_sh, List.getElem?_append_left hal, ha]) (by rw [c_X5_it_sh, List.getElem?_append_left (List.getElem?_eq_some_iff.mp hr).1, hr]) (by rw [c_X5_it_rf har hal]; exact hf) (by show K.1 + 1 + 2 + 3 * n ≤ _; omega) (by show K.2 + 3 + 264 + 267 * n ≤ _; omega)
def c_X5 (a : Nat) (M : xMem) : xMem := c_X5_loop M.1.1.length 12 0 (((xnew M 210 12).1.1, xup (xnew M 210 12).1.2 a 0 (some M.1.1.length)), (xnew M 210 12).2)
set_option maxHeartbeats 4000000 in
set_option maxRecDepth 100000 in
theorem C_X5 {a : Nat} {M : xMem} (ha : M.1.1[a]? = some (5, 3)) : xSp md_X5_init (2, 37, 3216) [.ref a] M (fun v M' => v = none ∧ M' = c_X5 a M) := by
  refine xEntry (by decide) (Nat.le_of_ble_eq_true rfl) ?_
  refine x_lv (lv' := [(0, .ref a)]) [0] rfl ?_
  refine x_aload_n dX5_init_0 0 rfl ?_
  refine x_objInit dX5_init_1 wd_62 wd_30 wd_31 (Nat.le_of_ble_eq_true rfl) (Nat.le_of_ble_eq_true rfl) ?_
  refine x_aload_n dX5_init_4 0 rfl ?_
  refine x_bipush 12 dX5_init_5 (by decide) ?_
  refine x_newq (N := 12) (t := 210) (ti := 5) (fun _ => rfl) (by decide) dX5_init_7 wd_63 wn_64 (by decide) (by decide) (by decide) (by decide) (by decide) ?_
  refine x_putF (k := 0) cb_5 (by decide) dX5_init_10 wd_66 rfl rfl rfl rfl (fun _ => rfl) (fun _ => rfl) (by exact xnew_at ha) ?_
  refine x_iconst 0 dX5_init_13 (by decide) ?_
  refine x_istore_n [(1, .int 0), (0, .ref a)] dX5_init_14 (by show _ < 2; decide) rfl ?_
  refine x_lv (lv' := [(0, .ref a), (1, .int (nI 0))]) [1, 0] rfl ?_
  have hal := (List.getElem?_eq_some_iff.mp ha).1
  exact C_X5_loop (a := a) (rg := M.1.1.length) (by decide) (by omega) 12 0 _ _ rfl (by exact xnew_at ha) (by exact xnew_last) (by show xup _ _ _ _ _ _ = _; simp [xup]) (by decide) (by decide)
/-! Events -/
def c_X1_it (rg i : Nat) (M : xMem) : xMem :=
  let M2 : xMem := c_X2 M.1.1.length (xnew M 2 2) 150
  ((M2.1.1, xup M2.1.2 rg i (some M.1.1.length)), M2.2)
def c_X1_loop (rg : Nat) : Nat → Nat → xMem → xMem
  | 0, _, M => M
  | n + 1, i, M => c_X1_loop rg n (i + 1) (c_X1_it rg i M)
theorem c_X1_it_sh (rg i : Nat) (M : xMem) : (c_X1_it rg i M).1.1 = M.1.1 ++ [(2, 2), (100, 150)] := by
  show (c_X2 M.1.1.length (xnew M 2 2) 150).1.1 = _
  rw [c_X2_sh]; simp [xnew]
theorem c_X2_rf {a b N : Nat} {M : xMem} (h : b ≠ a) (h2 : b < M.1.1.length) (k : Nat) : (c_X2 a M N).1.2 b k = M.1.2 b k := by
  simp only [c_X2, xnew]
  rw [xup_ne _ _ _ _ h, xnw_ne _ _ _ (by omega)]
theorem c_X1_it_rf {rg i a : Nat} {M : xMem} (h : a ≠ rg) (h2 : a < M.1.1.length) (k : Nat) : (c_X1_it rg i M).1.2 a k = M.1.2 a k := by
  show xup (c_X2 M.1.1.length (xnew M 2 2) 150).1.2 rg i _ a k = _
  rw [xup_ne _ _ _ _ h, c_X2_rf (by omega) (by simp [xnew]; omega)]
  simp only [xnew]
  rw [xnw_ne _ _ _ (by omega)]
set_option maxHeartbeats 4000000 in
set_option maxRecDepth 100000 in
theorem C_X1_loop {a rg : Nat} {B : Nat × Nat × Nat} (hB : 2 ≤ B.1) (har : a ≠ rg) : ∀ (n i : Nat) (M : xMem) (K : Nat × Nat), i + n = 72 → M.1.1[a]? = some (1, 6) → M.1.1[rg]? = some (202, 72) → M.1.2 a 1 = some rg → K.1 + 2 * n ≤ B.2.1 → K.2 + 152 * n ≤ B.2.2 → xEx md_X1_init B K 47 [(0, .ref a), (1, .int (nI i))] [] M (fun v M' => v = none ∧ M' = c_X1_loop rg n i M) := by
  intro n
  induction n with
  | zero =>
    intro i M K hi ha hr hf h1 h2
    obtain rfl : i = 72 := by omega
    refine x_iload_n dX1_init_47 1 rfl ?_
    refine x_aload_n dX1_init_48 0 rfl ?_
    refine x_getr (k := 1) cb_1 (by decide) dX1_init_49 wd_114 rfl ha hf ?_
    refine x_alen dX1_init_52 hr (by decide) ?_
    refine x_icmp_ge 78 dX1_init_53 (by decide) (fun c => ?_) (fun c => absurd (by decide) c)
    exact x_vret rfl (by omega) (by omega) dX1_init_78 ⟨rfl, rfl⟩
  | succ n ih =>
    intro i M K hi ha hr hf h1 h2
    refine x_iload_n dX1_init_47 1 rfl ?_
    refine x_aload_n dX1_init_48 0 rfl ?_
    refine x_getr (k := 1) cb_1 (by decide) dX1_init_49 wd_114 rfl ha hf ?_
    refine x_alen dX1_init_52 hr (by decide) ?_
    refine x_icmp_ge 78 dX1_init_53 (by decide) (fun c => ?_) (fun c => ?_)
    · exfalso
      rw [Int32.le_iff_toInt_le, nI_toInt (by omega)] at c
      have : (Int32.ofNat 72).toInt = 72 := by decide
      omega
    refine x_aload_n dX1_init_56 0 rfl ?_
    refine x_getr (k := 1) cb_1 (by decide) dX1_init_57 wd_114 rfl ha hf ?_
    refine x_iload_n dX1_init_60 1 rfl ?_
    refine x_new cb_2 dX1_init_61 wd_83 wd_85 wd_5 (by decide +kernel) (by omega) (by show K.2 + 2 ≤ _; omega) ?_
    refine x_dup dX1_init_64 rfl ?_
    refine x_sipush 150 dX1_init_65 (by decide) ?_
    refine x_callI (B' := (1, 1, 150)) (As := [.int 150]) cw_X2_init rfl rfl dX1_init_68 wd_86 wd_87 rfl (Nat.le_of_ble_eq_true rfl) (by show 1 + 1 ≤ B.1; omega) (by show K.1 + 1 + 1 ≤ _; omega) (by show K.2 + 2 + 150 ≤ _; omega) (C_X2 (room := 150) (N := 150) (by decide) (by decide) (by decide) xnew_last) ?_ ?_
    · rintro v M' ⟨rfl, rfl⟩; exact c_X2_len _ _ _
    rintro v M' ⟨rfl, rfl⟩
    refine x_aast (n := 72) (t := 202) (ti := 6) cb_2 (fun _ => rfl) (by decide) dX1_init_71 (c_X2_at (xnew_at hr)) (c_X2_at xnew_last) (xnI_in (by omega) (by decide)) ?_
    have hc : (nI i).toNatClampNeg = i := nI_clamp (by omega)
    rw [hc]
    refine x_iinc (nI (i + 1)) [(1, .int (nI (i + 1))), (0, .ref a)] dX1_init_72 1 rfl (by rw [nI_succ]; rfl) (by decide) rfl ?_
    refine x_goto 47 dX1_init_75 (by decide) ?_
    refine x_lv (lv' := [(0, .ref a), (1, .int (nI (i + 1)))]) [1, 0] rfl ?_
    have hal := (List.getElem?_eq_some_iff.mp ha).1
    exact ih (i + 1) (c_X1_it rg i M) _ (by omega) (by rw [c_X1_it_sh, List.getElem?_append_left hal, ha]) (by rw [c_X1_it_sh, List.getElem?_append_left (List.getElem?_eq_some_iff.mp hr).1, hr]) (by rw [c_X1_it_rf har hal]; exact hf) (by show K.1 + 1 + 1 + 2 * n ≤ _; omega) (by show K.2 + 2 + 150 + 152 * n ≤ _; omega)
def c_X1_0 (a : Nat) (M : xMem) : xMem :=
  let N1 : xMem := xnew M 202 72
  let M1 : xMem := ((N1.1.1, xup N1.1.2 a 1 (some M.1.1.length)), N1.2)
  let N2 : xMem := xnew M1 100 32
  let M2 : xMem := ((N2.1.1, xup N2.1.2 a 2 (some M1.1.1.length)), N2.2)
  let N3 : xMem := xnew M2 101 8
  let M3 : xMem := ((N3.1.1, xup N3.1.2 a 3 (some M2.1.1.length)), N3.2)
  let N4 : xMem := xnew M3 100 64
  let M4 : xMem := ((N4.1.1, xup N4.1.2 a 4 (some M3.1.1.length)), N4.2)
  let N5 : xMem := xnew M4 100 64
  let M5 : xMem := ((N5.1.1, xup N5.1.2 a 5 (some M4.1.1.length)), N5.2)
  M5
theorem c_X1_0_sh (a : Nat) (M : xMem) : (c_X1_0 a M).1.1 = M.1.1 ++ [(202, 72), (100, 32), (101, 8), (100, 64), (100, 64)] := by simp [c_X1_0, xnew]
theorem c_X1_0_rf (a : Nat) (M : xMem) (h : a < M.1.1.length) : (c_X1_0 a M).1.2 a 1 = some M.1.1.length := by
  simp only [c_X1_0, xnew]
  have h1 : a ≠ M.1.1.length := by omega
  have h2 : ∀ j, a ≠ M.1.1.length + j := fun j => by omega
  simp [xup, xnw, h1, h2]
def c_X1 (a : Nat) (M : xMem) : xMem := c_X1_loop M.1.1.length 72 0 (c_X1_0 a M)
set_option maxHeartbeats 4000000 in
set_option maxRecDepth 100000 in
theorem C_X1 {a : Nat} {M : xMem} (ha : M.1.1[a]? = some (1, 6)) : xSp md_X1_init (2, 149, 11184) [.ref a] M (fun v M' => v = none ∧ M' = c_X1 a M) := by
  refine xEntry (by decide) (Nat.le_of_ble_eq_true rfl) ?_
  refine x_lv (lv' := [(0, .ref a)]) [0] rfl ?_
  refine x_aload_n dX1_init_0 0 rfl ?_
  refine x_objInit dX1_init_1 wd_82 wd_30 wd_31 (Nat.le_of_ble_eq_true rfl) (Nat.le_of_ble_eq_true rfl) ?_
  refine x_aload_n dX1_init_4 0 rfl ?_
  refine x_bipush 72 dX1_init_5 (by decide) ?_
  refine x_newq (N := 72) (t := 202) (ti := 6) (fun _ => rfl) (by decide) dX1_init_7 wd_83 wn_84 (by decide) (by decide) (by decide) (by decide) (by decide) ?_
  refine x_putF (k := 1) cb_1 (by decide) dX1_init_10 wd_114 rfl rfl rfl rfl (fun _ => rfl) (fun _ => rfl) (by exact xnew_at (ha)) ?_
  refine x_aload_n dX1_init_13 0 rfl ?_
  refine x_bipush 32 dX1_init_14 (by decide) ?_
  refine x_newi (N := 32) (t := 100) (ti := 0) rfl rfl (fun C h => by cases h) (fun _ => rfl) (by decide) (by decide) (by decide) dX1_init_16 wd_111 (by decide) (by decide) (by decide) (by decide) (by decide) ?_
  refine x_putF (k := 2) cb_1 (by decide) dX1_init_18 wd_115 rfl rfl rfl rfl (fun _ => rfl) (fun _ => rfl) (by exact xnew_at (xnew_at (ha))) ?_
  refine x_aload_n dX1_init_21 0 rfl ?_
  refine x_bipush 8 dX1_init_22 (by decide) ?_
  refine x_newl (N := 8) rfl dX1_init_24 wd_56 (by decide) (by decide) (by decide) (by decide) (by decide) ?_
  refine x_putF (k := 3) cb_1 (by decide) dX1_init_26 wd_116 rfl rfl rfl rfl (fun _ => rfl) (fun _ => rfl) (by exact xnew_at (xnew_at (xnew_at (ha)))) ?_
  refine x_aload_n dX1_init_29 0 rfl ?_
  refine x_bipush 64 dX1_init_30 (by decide) ?_
  refine x_newi (N := 64) (t := 100) (ti := 0) rfl rfl (fun C h => by cases h) (fun _ => rfl) (by decide) (by decide) (by decide) dX1_init_32 wd_111 (by decide) (by decide) (by decide) (by decide) (by decide) ?_
  refine x_putF (k := 4) cb_1 (by decide) dX1_init_34 wd_117 rfl rfl rfl rfl (fun _ => rfl) (fun _ => rfl) (by exact xnew_at (xnew_at (xnew_at (xnew_at (ha))))) ?_
  refine x_aload_n dX1_init_37 0 rfl ?_
  refine x_bipush 64 dX1_init_38 (by decide) ?_
  refine x_newi (N := 64) (t := 100) (ti := 0) rfl rfl (fun C h => by cases h) (fun _ => rfl) (by decide) (by decide) (by decide) dX1_init_40 wd_111 (by decide) (by decide) (by decide) (by decide) (by decide) ?_
  refine x_putF (k := 5) cb_1 (by decide) dX1_init_42 wd_119 rfl rfl rfl rfl (fun _ => rfl) (fun _ => rfl) (by exact xnew_at (xnew_at (xnew_at (xnew_at (xnew_at (ha)))))) ?_
  refine x_iconst 0 dX1_init_45 (by decide) ?_
  refine x_istore_n [(1, .int 0), (0, .ref a)] dX1_init_46 (by show _ < 2; decide) rfl ?_
  refine x_lv (lv' := [(0, .ref a), (1, .int (nI 0))]) [1, 0] rfl ?_
  have hal := (List.getElem?_eq_some_iff.mp ha).1
  refine C_X1_loop (a := a) (rg := M.1.1.length) (M := c_X1_0 a M) (by decide) (by omega) 72 0 _ rfl ?_ ?_ ?_ (by decide) (by decide)
  · rw [c_X1_0_sh, List.getElem?_append_left hal, ha]
  · rw [c_X1_0_sh, List.getElem?_append_right (Nat.le_refl _)]; simp
  · exact c_X1_0_rf a M hal
theorem c_X5_loop_sh (rg : Nat) : ∀ (n i : Nat) (M : xMem), (c_X5_loop rg n i M).1.1 = M.1.1 ++ (List.replicate n [(10, 3), (101, 8), (101, 256)]).flatten := by
  intro n
  induction n with
  | zero => intro i M; simp [c_X5_loop]
  | succ n ih => intro i M; rw [c_X5_loop, ih, c_X5_it_sh, List.replicate_succ]; simp
theorem c_X1_loop_sh (rg : Nat) : ∀ (n i : Nat) (M : xMem), (c_X1_loop rg n i M).1.1 = M.1.1 ++ (List.replicate n [(2, 2), (100, 150)]).flatten := by
  intro n
  induction n with
  | zero => intro i M; simp [c_X1_loop]
  | succ n ih => intro i M; rw [c_X1_loop, ih, c_X1_it_sh, List.replicate_succ]; simp
theorem c_X5_len (a : Nat) (M : xMem) : (c_X5 a M).1.1.length = M.1.1.length + 37 := by
  rw [c_X5, c_X5_loop_sh]; simp [xnew]
theorem c_X1_len (a : Nat) (M : xMem) : (c_X1 a M).1.1.length = M.1.1.length + 149 := by
  rw [c_X1, c_X1_loop_sh, c_X1_0_sh]; simp
theorem c_X5_at {a : Nat} {M : xMem} {b : Nat} {q : Nat × Nat} (h : M.1.1[b]? = some q) : (c_X5 a M).1.1[b]? = some q := by
  have hl := (List.getElem?_eq_some_iff.mp h).1
  rw [c_X5, c_X5_loop_sh]
  show ((M.1.1 ++ [(210, 12)]) ++ _)[b]? = _
  rw [List.getElem?_append_left (by simp; omega), List.getElem?_append_left hl, h]
theorem c_X1_at {a : Nat} {M : xMem} {b : Nat} {q : Nat × Nat} (h : M.1.1[b]? = some q) : (c_X1 a M).1.1[b]? = some q := by
  have hl := (List.getElem?_eq_some_iff.mp h).1
  rw [c_X1, c_X1_loop_sh, c_X1_0_sh, List.getElem?_append_left (by simp; omega), List.getElem?_append_left hl, h]
