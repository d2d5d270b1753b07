abbrev md_X11_init : xMd := (yX11_init, cX11_init, 1, none)
theorem wd_29 : (Jvm.Cond.methodLink "KnowledgeRoom" (1 : Nat) ({ cls := "java/lang/Object", name := "<init>", desc := "()V" } : Jvm.MethodName)) ∈ xTG := xmem 29 (by decide +kernel) (by decide +kernel)
theorem wd_32 : (Jvm.Cond.classLink "KnowledgeRoom" (7 : Nat) "KnowledgeRoom$Worlds") ∈ xTG := xmem 32 (by decide +kernel) (by decide +kernel)
theorem wn_34 : (Jvm.Cond.methodLinkNest "KnowledgeRoom" (9 : Nat) ({ cls := "KnowledgeRoom$Worlds", name := "<init>", desc := "()V" } : Jvm.MethodName) "KnowledgeRoom") ∈ xNW := xmemN 34 (by decide +kernel) rfl
theorem wd_57 : (Jvm.Cond.classLink "KnowledgeRoom" (16 : Nat) "KnowledgeRoom$Past") ∈ xTG := xmem 57 (by decide +kernel) (by decide +kernel)
theorem wd_58 : (Jvm.Cond.instantiable "KnowledgeRoom$Past" (3 : Nat)) ∈ xTG := xmem 58 (by decide +kernel) (by decide +kernel)
theorem wd_59 : (Jvm.Cond.methodLink "KnowledgeRoom" (18 : Nat) ({ cls := "KnowledgeRoom$Past", name := "<init>", desc := "()V" } : Jvm.MethodName)) ∈ xTG := xmem 59 (by decide +kernel) (by decide +kernel)
theorem wd_61 : (Jvm.Cond.code ({ cls := "KnowledgeRoom$Past", name := "<init>", desc := "()V" } : Jvm.MethodName) prog_7_method_1_code (2 : Nat) (Option.none : Option Jvm.ClassFile.FieldType)) ∈ xTG := xmem 61 (by decide +kernel) (by decide +kernel)
theorem cw_X5_init : xcw md_X5_init 0 := ⟨wd_61, wd_3, by decide +kernel, by decide⟩
theorem wd_60 : (Jvm.Cond.instanceMethod ({ cls := "KnowledgeRoom$Past", name := "<init>", desc := "()V" } : Jvm.MethodName)) ∈ xTG := xmem 60 (by decide +kernel) (by decide +kernel)
theorem wd_77 : (Jvm.Cond.classLink "KnowledgeRoom" (23 : Nat) "KnowledgeRoom$Events") ∈ xTG := xmem 77 (by decide +kernel) (by decide +kernel)
theorem wd_78 : (Jvm.Cond.instantiable "KnowledgeRoom$Events" (6 : Nat)) ∈ xTG := xmem 78 (by decide +kernel) (by decide +kernel)
theorem wd_79 : (Jvm.Cond.methodLink "KnowledgeRoom" (25 : Nat) ({ cls := "KnowledgeRoom$Events", name := "<init>", desc := "()V" } : Jvm.MethodName)) ∈ xTG := xmem 79 (by decide +kernel) (by decide +kernel)
theorem wd_81 : (Jvm.Cond.code ({ cls := "KnowledgeRoom$Events", name := "<init>", desc := "()V" } : Jvm.MethodName) prog_3_method_1_code (2 : Nat) (Option.none : Option Jvm.ClassFile.FieldType)) ∈ xTG := xmem 81 (by decide +kernel) (by decide +kernel)
theorem cw_X1_init : xcw md_X1_init 0 := ⟨wd_81, wd_4, by decide +kernel, by decide⟩
theorem wd_80 : (Jvm.Cond.instanceMethod ({ cls := "KnowledgeRoom$Events", name := "<init>", desc := "()V" } : Jvm.MethodName)) ∈ xTG := xmem 80 (by decide +kernel) (by decide +kernel)
theorem wd_133 : (Jvm.Cond.classLink "KnowledgeRoom" (30 : Nat) "KnowledgeRoom$Reader") ∈ xTG := xmem 133 (by decide +kernel) (by decide +kernel)
theorem wd_134 : (Jvm.Cond.instantiable "KnowledgeRoom$Reader" (13 : Nat)) ∈ xTG := xmem 134 (by decide +kernel) (by decide +kernel)
theorem wn_135 : (Jvm.Cond.methodLinkNest "KnowledgeRoom" (32 : Nat) ({ cls := "KnowledgeRoom$Reader", name := "<init>", desc := "()V" } : Jvm.MethodName) "KnowledgeRoom") ∈ xNW := xmemN 135 (by decide +kernel) rfl
theorem wd_137 : (Jvm.Cond.code ({ cls := "KnowledgeRoom$Reader", name := "<init>", desc := "()V" } : Jvm.MethodName) prog_8_method_1_code (1 : Nat) (Option.none : Option Jvm.ClassFile.FieldType)) ∈ xTG := xmem 137 (by decide +kernel) (by decide +kernel)
theorem cw_X6_init : xcw md_X6_init 0 := ⟨wd_137, wd_7, by decide +kernel, by decide⟩
theorem wd_136 : (Jvm.Cond.instanceMethod ({ cls := "KnowledgeRoom$Reader", name := "<init>", desc := "()V" } : Jvm.MethodName)) ∈ xTG := xmem 136 (by decide +kernel) (by decide +kernel)
theorem wd_184 : (Jvm.Cond.classLink "KnowledgeRoom" (37 : Nat) "KnowledgeRoom$Formula") ∈ xTG := xmem 184 (by decide +kernel) (by decide +kernel)
theorem wd_185 : (Jvm.Cond.methodLink "KnowledgeRoom" (39 : Nat) ({ cls := "KnowledgeRoom$Formula", name := "<init>", desc := "(I)V" } : Jvm.MethodName)) ∈ xTG := xmem 185 (by decide +kernel) (by decide +kernel)
theorem wd_186 : (Jvm.Cond.classLink "KnowledgeRoom" (46 : Nat) "KnowledgeRoom$Text") ∈ xTG := xmem 186 (by decide +kernel) (by decide +kernel)
theorem wd_187 : (Jvm.Cond.instantiable "KnowledgeRoom$Text" (4 : Nat)) ∈ xTG := xmem 187 (by decide +kernel) (by decide +kernel)
theorem wn_188 : (Jvm.Cond.methodLinkNest "KnowledgeRoom" (48 : Nat) ({ cls := "KnowledgeRoom$Text", name := "<init>", desc := "()V" } : Jvm.MethodName) "KnowledgeRoom") ∈ xNW := xmemN 188 (by decide +kernel) rfl
theorem wd_190 : (Jvm.Cond.code ({ cls := "KnowledgeRoom$Text", name := "<init>", desc := "()V" } : Jvm.MethodName) prog_11_method_1_code (1 : Nat) (Option.none : Option Jvm.ClassFile.FieldType)) ∈ xTG := xmem 190 (by decide +kernel) (by decide +kernel)
theorem cw_X9_init : xcw md_X9_init 0 := ⟨wd_190, wd_8, by decide +kernel, by decide⟩
theorem wd_189 : (Jvm.Cond.instanceMethod ({ cls := "KnowledgeRoom$Text", name := "<init>", desc := "()V" } : Jvm.MethodName)) ∈ xTG := xmem 189 (by decide +kernel) (by decide +kernel)
theorem wd_207 : (Jvm.Cond.classLink "KnowledgeRoom" (53 : Nat) "KnowledgeRoom$Judge") ∈ xTG := xmem 207 (by decide +kernel) (by decide +kernel)
theorem wd_208 : (Jvm.Cond.instantiable "KnowledgeRoom$Judge" (6 : Nat)) ∈ xTG := xmem 208 (by decide +kernel) (by decide +kernel)
theorem wn_209 : (Jvm.Cond.methodLinkNest "KnowledgeRoom" (55 : Nat) ({ cls := "KnowledgeRoom$Judge", name := "<init>", desc := "()V" } : Jvm.MethodName) "KnowledgeRoom") ∈ xNW := xmemN 209 (by decide +kernel) rfl
theorem wd_211 : (Jvm.Cond.code ({ cls := "KnowledgeRoom$Judge", name := "<init>", desc := "()V" } : Jvm.MethodName) prog_5_method_1_code (1 : Nat) (Option.none : Option Jvm.ClassFile.FieldType)) ∈ xTG := xmem 211 (by decide +kernel) (by decide +kernel)
theorem cw_X3_init : xcw md_X3_init 0 := ⟨wd_211, wd_9, by decide +kernel, by decide⟩
theorem wd_210 : (Jvm.Cond.instanceMethod ({ cls := "KnowledgeRoom$Judge", name := "<init>", desc := "()V" } : Jvm.MethodName)) ∈ xTG := xmem 210 (by decide +kernel) (by decide +kernel)
theorem wd_232 : (Jvm.Cond.classLink "KnowledgeRoom" (60 : Nat) "KnowledgeRoom$Likeness") ∈ xTG := xmem 232 (by decide +kernel) (by decide +kernel)
theorem wd_233 : (Jvm.Cond.instantiable "KnowledgeRoom$Likeness" (4 : Nat)) ∈ xTG := xmem 233 (by decide +kernel) (by decide +kernel)
theorem wn_234 : (Jvm.Cond.methodLinkNest "KnowledgeRoom" (62 : Nat) ({ cls := "KnowledgeRoom$Likeness", name := "<init>", desc := "()V" } : Jvm.MethodName) "KnowledgeRoom") ∈ xNW := xmemN 234 (by decide +kernel) rfl
theorem wd_236 : (Jvm.Cond.code ({ cls := "KnowledgeRoom$Likeness", name := "<init>", desc := "()V" } : Jvm.MethodName) prog_6_method_1_code (1 : Nat) (Option.none : Option Jvm.ClassFile.FieldType)) ∈ xTG := xmem 236 (by decide +kernel) (by decide +kernel)
theorem cw_X4_init : xcw md_X4_init 0 := ⟨wd_236, wd_10, by decide +kernel, by decide⟩
theorem wd_235 : (Jvm.Cond.instanceMethod ({ cls := "KnowledgeRoom$Likeness", name := "<init>", desc := "()V" } : Jvm.MethodName)) ∈ xTG := xmem 235 (by decide +kernel) (by decide +kernel)
theorem wd_252 : (Jvm.Cond.classLink "KnowledgeRoom" (67 : Nat) "KnowledgeRoom$Reducer") ∈ xTG := xmem 252 (by decide +kernel) (by decide +kernel)
theorem wd_253 : (Jvm.Cond.instantiable "KnowledgeRoom$Reducer" (5 : Nat)) ∈ xTG := xmem 253 (by decide +kernel) (by decide +kernel)
theorem wn_254 : (Jvm.Cond.methodLinkNest "KnowledgeRoom" (69 : Nat) ({ cls := "KnowledgeRoom$Reducer", name := "<init>", desc := "()V" } : Jvm.MethodName) "KnowledgeRoom") ∈ xNW := xmemN 254 (by decide +kernel) rfl
theorem wd_256 : (Jvm.Cond.code ({ cls := "KnowledgeRoom$Reducer", name := "<init>", desc := "()V" } : Jvm.MethodName) prog_9_method_1_code (1 : Nat) (Option.none : Option Jvm.ClassFile.FieldType)) ∈ xTG := xmem 256 (by decide +kernel) (by decide +kernel)
theorem cw_X7_init : xcw md_X7_init 0 := ⟨wd_256, wd_11, by decide +kernel, by decide⟩
theorem wd_255 : (Jvm.Cond.instanceMethod ({ cls := "KnowledgeRoom$Reducer", name := "<init>", desc := "()V" } : Jvm.MethodName)) ∈ xTG := xmem 255 (by decide +kernel) (by decide +kernel)
theorem wd_276 : (Jvm.Cond.classLink "KnowledgeRoom" (74 : Nat) "KnowledgeRoom$Decider") ∈ xTG := xmem 276 (by decide +kernel) (by decide +kernel)
theorem wd_277 : (Jvm.Cond.instantiable "KnowledgeRoom$Decider" (10 : Nat)) ∈ xTG := xmem 277 (by decide +kernel) (by decide +kernel)
theorem wn_278 : (Jvm.Cond.methodLinkNest "KnowledgeRoom" (76 : Nat) ({ cls := "KnowledgeRoom$Decider", name := "<init>", desc := "()V" } : Jvm.MethodName) "KnowledgeRoom") ∈ xNW := xmemN 278 (by decide +kernel) rfl
theorem wd_280 : (Jvm.Cond.code ({ cls := "KnowledgeRoom$Decider", name := "<init>", desc := "()V" } : Jvm.MethodName) prog_2_method_1_code (1 : Nat) (Option.none : Option Jvm.ClassFile.FieldType)) ∈ xTG := xmem 280 (by decide +kernel) (by decide +kernel)
theorem cw_X0_init : xcw md_X0_init 0 := ⟨wd_280, wd_12, by decide +kernel, by decide⟩
theorem wd_279 : (Jvm.Cond.instanceMethod ({ cls := "KnowledgeRoom$Decider", name := "<init>", desc := "()V" } : Jvm.MethodName)) ∈ xTG := xmem 279 (by decide +kernel) (by decide +kernel)
theorem wd_359 : (Jvm.Cond.methodLink "KnowledgeRoom" (88 : Nat) ({ cls := "KnowledgeRoom$Formula", name := "add", desc := "(I)Z" } : Jvm.MethodName)) ∈ xTG := xmem 359 (by decide +kernel) (by decide +kernel)
theorem cv_RX11_88 : xCV RX11 88 md_X2_add 2 1 := ⟨_, _, _, cb_2, rfl, cw_X2_add, wd_359, wd_360, wd_361⟩
/-! THE SHAPE for good: cells 0 to 240 are the component, 241 to 272 the model -/
def xSh0 : List (Nat × Nat) := [(11, 15), (10, 3), (101, 8), (101, 256), (5, 3), (210, 12), (10, 3), (101, 8), (101, 256), (10, 3), (101, 8), (101, 256), (10, 3), (101, 8), (101, 256), (10, 3), (101, 8), (101, 256), (10, 3), (101, 8), (101, 256), (10, 3), (101, 8), (101, 256), (10, 3), (101, 8), (101, 256), (10, 3), (101, 8), (101, 256), (10, 3), (101, 8), (101, 256), (10, 3), (101, 8), (101, 256), (10, 3), (101, 8), (101, 256), (10, 3), (101, 8), (101, 256), (1, 6), (202, 72), (100, 32), (101, 8), (100, 64), (100, 64), (2, 2), (100, 150), (2, 2), (100, 150), (2, 2), (100, 150), (2, 2), (100, 150), (2, 2), (100, 150), (2, 2), (100, 150), (2, 2), (100, 150), (2, 2), (100, 150), (2, 2), (100, 150), (2, 2), (100, 150), (2, 2), (100, 150), (2, 2), (100, 150), (2, 2), (100, 150), (2, 2), (100, 150), (2, 2), (100, 150), (2, 2), (100, 150), (2, 2), (100, 150), (2, 2), (100, 150), (2, 2), (100, 150), (2, 2), (100, 150), (2, 2), (100, 150), (2, 2), (100, 150), (2, 2), (100, 150), (2, 2), (100, 150), (2, 2), (100, 150), (2, 2), (100, 150), (2, 2), (100, 150), (2, 2), (100, 150), (2, 2), (100, 150), (2, 2), (100, 150), (2, 2), (100, 150), (2, 2), (100, 150), (2, 2), (100, 150), (2, 2), (100, 150), (2, 2), (100, 150), (2, 2), (100, 150), (2, 2), (100, 150), (2, 2), (100, 150), (2, 2), (100, 150), (2, 2), (100, 150), (2, 2), (100, 150), (2, 2), (100, 150), (2, 2), (100, 150), (2, 2), (100, 150), (2, 2), (100, 150), (2, 2), (100, 150), (2, 2), (100, 150), (2, 2), (100, 150), (2, 2), (100, 150), (2, 2), (100, 150), (2, 2), (100, 150), (2, 2), (100, 150), (2, 2), (100, 150), (2, 2), (100, 150), (2, 2), (100, 150), (2, 2), (100, 150), (2, 2), (100, 150), (2, 2), (100, 150), (2, 2), (100, 150), (2, 2), (100, 150), (2, 2), (100, 150), (2, 2), (100, 150), (2, 2), (100, 150), (2, 2), (100, 150), (2, 2), (100, 150), (2, 2), (100, 150), (2, 2), (100, 150), (2, 2), (100, 150), (2, 2), (100, 150), (2, 2), (100, 150), (2, 2), (100, 150), (2, 2), (100, 150), (6, 13), (102, 200), (2, 2), (100, 150), (102, 16), (100, 16), (100, 16), (100, 16), (100, 16), (104, 16), (2, 2), (100, 2000), (9, 4), (102, 4000), (100, 2000), (3, 6), (100, 2000), (104, 2000), (101, 2000), (101, 2000), (4, 4), (100, 64), (101, 256), (100, 64), (100, 64), (7, 5), (100, 2000), (100, 150), (2, 2), (100, 2000), (0, 10), (100, 6), (8, 10), (100, 2400), (100, 2400), (100, 2400), (100, 2400), (100, 13), (100, 4096), (100, 2000), (101, 2400), (101, 1664), (101, 128), (101, 128), (101, 128), (101, 128), (100, 4), (100, 64), (100, 2000), (12, 44), (100, 64), (100, 256), (100, 12), (100, 768), (100, 3072), (100, 92800), (100, 92800), (100, 92800), (100, 92800), (100, 92800), (103, 200), (103, 20000), (100, 64), (100, 64), (100, 256), (100, 8), (100, 64), (100, 32), (101, 8), (101, 64), (100, 64), (100, 64), (100, 64), (100, 64), (100, 64), (100, 2100), (104, 8192), (100, 8192), (100, 8192), (100, 8192), (104, 8000)]
def xRfL : List (List Nat) := [[1, 4, 42, 192, 202, 204, 207, 212, 217, 222, 239, 240, 0, 0, 0], [0, 2, 3], [], [], [5, 0, 0], [6, 9, 12, 15, 18, 21, 24, 27, 30, 33, 36, 39], [0, 7, 8], [], [], [0, 10, 11], [], [], [0, 13, 14], [], [], [0, 16, 17], [], [], [0, 19, 20], [], [], [0, 22, 23], [], [], [0, 25, 26], [], [], [0, 28, 29], [], [], [0, 31, 32], [], [], [0, 34, 35], [], [], [0, 37, 38], [], [], [0, 40, 41], [], [], [0, 43, 44, 45, 46, 47], [48, 50, 52, 54, 56, 58, 60, 62, 64, 66, 68, 70, 72, 74, 76, 78, 80, 82, 84, 86, 88, 90, 92, 94, 96, 98, 100, 102, 104, 106, 108, 110, 112, 114, 116, 118, 120, 122, 124, 126, 128, 130, 132, 134, 136, 138, 140, 142, 144, 146, 148, 150, 152, 154, 156, 158, 160, 162, 164, 166, 168, 170, 172, 174, 176, 178, 180, 182, 184, 186, 188, 190], [], [], [], [], [49, 0], [], [51, 0], [], [53, 0], [], [55, 0], [], [57, 0], [], [59, 0], [], [61, 0], [], [63, 0], [], [65, 0], [], [67, 0], [], [69, 0], [], [71, 0], [], [73, 0], [], [75, 0], [], [77, 0], [], [79, 0], [], [81, 0], [], [83, 0], [], [85, 0], [], [87, 0], [], [89, 0], [], [91, 0], [], [93, 0], [], [95, 0], [], [97, 0], [], [99, 0], [], [101, 0], [], [103, 0], [], [105, 0], [], [107, 0], [], [109, 0], [], [111, 0], [], [113, 0], [], [115, 0], [], [117, 0], [], [119, 0], [], [121, 0], [], [123, 0], [], [125, 0], [], [127, 0], [], [129, 0], [], [131, 0], [], [133, 0], [], [135, 0], [], [137, 0], [], [139, 0], [], [141, 0], [], [143, 0], [], [145, 0], [], [147, 0], [], [149, 0], [], [151, 0], [], [153, 0], [], [155, 0], [], [157, 0], [], [159, 0], [], [161, 0], [], [163, 0], [], [165, 0], [], [167, 0], [], [169, 0], [], [171, 0], [], [173, 0], [], [175, 0], [], [177, 0], [], [179, 0], [], [181, 0], [], [183, 0], [], [185, 0], [], [187, 0], [], [189, 0], [], [191, 0], [], [193, 0, 194, 196, 197, 198, 199, 200, 201, 0, 0, 0, 0], [], [195, 0], [], [], [], [], [], [], [], [203, 0], [], [205, 0, 206, 0], [], [], [208, 209, 210, 211, 0, 0], [], [], [], [], [213, 214, 215, 216], [], [], [], [], [218, 219, 220, 0, 0], [], [], [221, 0], [], [223, 224, 232, 233, 234, 235, 236, 237, 238, 0], [], [225, 226, 227, 228, 229, 230, 231, 0, 0, 0], [], [], [], [], [], [], [], [], [], [], [], [], [], [], [], [], [0, 0, 242, 243, 244, 245, 246, 0, 247, 248, 249, 250, 251, 0, 0, 252, 0, 0, 0, 0, 253, 0, 254, 255, 256, 0, 257, 258, 259, 260, 261, 262, 263, 264, 265, 266, 0, 267, 0, 268, 269, 270, 271, 272], [], [], [], [], [], [], [], [], [], [], [], [], [], [], [], [], [], [], [], [], [], [], [], [], [], [], [], [], [], [], []]
def xRf0 : xRf := fun a k => match (xRfL.getD a []).getD k 0 with
  | 0 => none
  | b => some b
def xS1 : xSt := (xSh0.take 241, xRf0)
def xS0 : xSt := (xSh0, xRf0)
def xD0 : xDt := (fun _ _ => 0, fun _ _ => 0)
def xM00 : xMem := (([], fun _ _ => none), xD0)
def xM0 : xMem := xnew xM00 11 15
/-- every reference leads where it should: as a test -/
def xwfb (S : xSt) : Bool := (List.range S.1.length).all fun a =>
  (decide ((S.1.getD a (0, 0)).1 < 100) == false || (decide ((S.1.getD a (0, 0)).2 = xnf (S.1.getD a (0, 0)).1) && (List.range (xnf (S.1.getD a (0, 0)).1)).all fun k => decide (xft (S.1.getD a (0, 0)).1 k = 2) == false || (match S.2 a k with | some b => xkb S b (xkd (S.1.getD a (0, 0)).1 k) | none => false))) &&
  (decide (200 ≤ (S.1.getD a (0, 0)).1) == false || (List.range (S.1.getD a (0, 0)).2).all fun i => (match S.2 a i with | some b => xkb S b ((S.1.getD a (0, 0)).1 - 200) | none => false))
theorem xwf_of {S : xSt} (h : xwfb S = true) : xWF S := by
  intro a ci ha
  obtain ⟨n, h1, h2⟩ := ha
  have hl := (List.getElem?_eq_some_iff.mp h1).1
  have hg : S.1.getD a (0, 0) = (ci, n) := by simp [List.getD_eq_getElem?_getD, h1]
  have h3 := List.all_eq_true.mp h a (List.mem_range.mpr hl)
  rw [hg] at h3
  simp only [Bool.and_eq_true, Bool.or_eq_true, beq_iff_eq, decide_eq_false_iff_not, decide_eq_true_eq, List.all_eq_true, List.mem_range] at h3
  refine ⟨fun hc k hk ht => ?_, fun hc i hi => ?_⟩
  · rcases h3.1 with q | q
    · exact absurd hc q
    · rcases q.2 k hk with r | r
      · exact absurd ht r
      · cases hb : S.2 a k with
        | none => rw [hb] at r; cases r
        | some b => rw [hb] at r; exact ⟨b, rfl, xkb_K r⟩
  · have hx : xl S a = n := by show (S.1.getD a (0, 0)).2 = n; rw [hg]
    rw [hx] at hi
    rcases h3.2 with q | q
    · exact absurd hc q
    · have r := q i hi
      cases hb : S.2 a i with
      | none => rw [hb] at r; cases r
      | some b => rw [hb] at r; exact ⟨b, rfl, xkb_K r⟩
set_option maxRecDepth 100000 in
theorem xwf1 : xWF xS1 := xwf_of (by decide +kernel)
set_option maxRecDepth 100000 in
theorem xwf0 : xWF xS0 := xwf_of (by decide +kernel)
theorem arrV_ext {cA : ClassId} {N : Nat} {f g : Nat → Value} (h : ∀ k, k < N → f k = g k) : arrV cA N f = arrV cA N g := by
  unfold arrV
  congr 2
  funext j
  exact h j.val j.isLt
/-- two memories that say the same of the heap -/
theorem xP_same {G : xG} {M M' : xMem} {H : Heap} (hs : M'.1.1 = M.1.1) (hd : M'.2 = M.2) (hr : ∀ a q, M.1.1[a]? = some q → (q.1 < 100 ∨ 200 ≤ q.1) → ∀ k, k < q.2 → M'.1.2 a k = M.1.2 a k) (h : va_P G.2.2.1 vwCl (xW G M) H) : va_P G.2.2.1 vwCl (xW G M') H := by
  intro a z hz
  rw [xW_get, hs] at hz
  cases hq : M.1.1[a]? with
  | none => rw [hq] at hz; cases hz
  | some q =>
    rw [hq] at hz
    obtain rfl := Option.some.inj hz
    have h1 := h a _ (xW_at hq)
    have hr := hr a q hq
    by_cases c1 : q.1 < 100
    · have e : xent G M' a q = xent G M a q := by
        simp only [xent, c1, if_true]
        congr 3
        apply List.map_congr_left
        intro k hk
        unfold xfv
        rw [hr (Or.inl c1) k (List.mem_range.mp hk), hd]
      rw [e]; exact h1
    · by_cases c2 : q.1 = 101
      · have e : xent G M' a q = xent G M a q := by
          rw [xent, xent, if_neg c1, if_neg c1, if_pos c2, if_pos c2, hd]
        rw [e]; exact h1
      · by_cases c3 : q.1 < 200
        · have e : xent G M' a q = xent G M a q := by simp only [xent, c1, c2, c3, if_false, if_true, hd]
          rw [e]; exact h1
        · simp only [xent, c1, c2, c3, if_false] at h1 ⊢
          refine Eq.trans h1 ?_
          rw [vp_cell_q, vp_cell_q]
          congr 1
          exact arrV_ext (fun k hk => by rw [hr (Or.inr (by omega)) k hk])
theorem xD_same {G : xG} {M M' : xMem} {A : Nat → Prop} (hs : M'.1.1 = M.1.1) (h : va_D A (xW G M)) : va_D A (xW G M') := by
  have hh : ∀ (k : Nat) (q : Nat × va_E), (xW G M')[k]? = some q → ∃ q2, (xW G M)[k]? = some q2 ∧ q2.1 = q.1 := by
    intro k q hq
    rw [xW_get, hs] at hq
    cases hz : M.1.1[k]? with
    | none => rw [hz] at hq; cases hq
    | some z =>
      rw [hz] at hq
      obtain rfl := Option.some.inj hq
      exact ⟨_, xW_at hz, rfl⟩
  refine ⟨fun i j p q h1 h2 h3 => ?_, fun k q hk => ?_⟩
  · obtain ⟨p2, a1, a2⟩ := hh i p h1
    obtain ⟨q2, b1, b2⟩ := hh j q h2
    exact h.1 i j p2 q2 a1 b1 (by rw [a2, b2]; exact h3)
  · obtain ⟨q2, a1, a2⟩ := hh k q hk
    rw [← a2]; exact h.2 k q2 a1
theorem x_mem {d : xMd} {B : Nat × Nat × Nat} {K : Nat × Nat} {pc : Nat} {lv : List (Nat × Value)} {st : List Value} {M : xMem} {Q : Option Value → xMem → Prop} (M' : xMem) (hs : M'.1.1 = M.1.1) (hd : M'.2 = M.2) (hr : ∀ a q, M.1.1[a]? = some q → (q.1 < 100 ∨ 200 ≤ q.1) → ∀ k, k < q.2 → M'.1.2 a k = M.1.2 a k) (k : xEx d B K pc lv st M' Q) : xEx d B K pc lv st M Q := by
  intro p l e s m args below meth c G A H locs ls X I hl
  exact k p l e s m args below meth c G A H locs ls X ⟨xP_same hs hd hr I.1, xD_same hs I.2.1, I.2.2.1, by rw [hs]; exact I.2.2.2.1, I.2.2.2.2⟩ hl
/-- references agree where there are any: as a test -/
def xrfb (sh : xSh) (f g : xRf) : Bool := (List.range sh.length).all fun a => (decide ((sh.getD a (0, 0)).1 < 100) || decide (200 ≤ (sh.getD a (0, 0)).1)) == false || (List.range (sh.getD a (0, 0)).2).all fun k => decide (f a k = g a k)
theorem xrf_of {sh : xSh} {f g : xRf} (h : xrfb sh f g = true) : ∀ a q, sh[a]? = some q → (q.1 < 100 ∨ 200 ≤ q.1) → ∀ k, k < q.2 → f a k = g a k := by
  intro a q ha hq k hk
  have hl := (List.getElem?_eq_some_iff.mp ha).1
  have hg : sh.getD a (0, 0) = q := by simp [List.getD_eq_getElem?_getD, ha]
  have h3 := List.all_eq_true.mp h a (List.mem_range.mpr hl)
  rw [hg] at h3
  simp only [Bool.or_eq_true, beq_iff_eq, Bool.or_eq_false_iff, decide_eq_false_iff_not, List.all_eq_true, List.mem_range, decide_eq_true_eq] at h3
  rcases h3 with r | r
  · rcases hq with q1 | q1
    · exact absurd q1 r.1
    · exact absurd q1 r.2
  · exact r k hk

