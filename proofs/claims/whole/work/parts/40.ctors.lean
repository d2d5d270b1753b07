/-! constructors: what memory stands behind each -/
theorem xnew_at {M : xMem} {kd n b : Nat} {q : Nat × Nat} (h : M.1.1[b]? = some q) : (xnew M kd n).1.1[b]? = some q := by
  show (M.1.1 ++ [(kd, n)])[b]? = some q
  rw [List.getElem?_append_left (List.getElem?_eq_some_iff.mp h).1, h]
theorem xnew_last {M : xMem} {kd n : Nat} : (xnew M kd n).1.1[M.1.1.length]? = some (kd, n) := by
  show (M.1.1 ++ [(kd, n)])[M.1.1.length]? = _
  simp
theorem xnew_len (M : xMem) (kd n : Nat) : (xnew M kd n).1.1.length = M.1.1.length + 1 := by simp [xnew]
abbrev md_X10_init : xMd := (yX10_init, cX10_init, 1, none)
theorem wd_37 : (Jvm.Cond.methodLink "KnowledgeRoom$Worlds" (3 : Nat) ({ cls := "java/lang/Object", name := "<init>", desc := "()V" } : Jvm.MethodName)) ∈ xTG := xmem 37 (by decide +kernel) (by decide +kernel)
theorem wd_30 : (Jvm.Cond.instanceMethod ({ cls := "java/lang/Object", name := "<init>", desc := "()V" } : Jvm.MethodName)) ∈ xTG := xmem 30 (by decide +kernel) (by decide +kernel)
theorem wd_31 : (Jvm.Cond.code ({ cls := "java/lang/Object", name := "<init>", desc := "()V" } : Jvm.MethodName) object_method_1_code (1 : Nat) (Option.none : Option Jvm.ClassFile.FieldType)) ∈ xTG := xmem 31 (by decide +kernel) (by decide +kernel)
theorem wd_56 : (Jvm.Cond.arrayClass Jvm.ClassFile.FieldType.long) ∈ xTG := xmem 56 (by decide +kernel) (by decide +kernel)
abbrev md_X2_init : xMd := (yX2_init, cX2_init, 2, none)
theorem wd_89 : (Jvm.Cond.methodLink "KnowledgeRoom$Formula" (1 : Nat) ({ cls := "java/lang/Object", name := "<init>", desc := "()V" } : Jvm.MethodName)) ∈ xTG := xmem 89 (by decide +kernel) (by decide +kernel)
theorem wd_111 : (Jvm.Cond.arrayClass Jvm.ClassFile.FieldType.int) ∈ xTG := xmem 111 (by decide +kernel) (by decide +kernel)
abbrev md_X3_init : xMd := (yX3_init, cX3_init, 1, none)
theorem wd_212 : (Jvm.Cond.methodLink "KnowledgeRoom$Judge" (3 : Nat) ({ cls := "java/lang/Object", name := "<init>", desc := "()V" } : Jvm.MethodName)) ∈ xTG := xmem 212 (by decide +kernel) (by decide +kernel)
theorem wd_183 : (Jvm.Cond.arrayClass Jvm.ClassFile.FieldType.boolean) ∈ xTG := xmem 183 (by decide +kernel) (by decide +kernel)
abbrev md_X4_init : xMd := (yX4_init, cX4_init, 1, none)
theorem wd_237 : (Jvm.Cond.methodLink "KnowledgeRoom$Likeness" (3 : Nat) ({ cls := "java/lang/Object", name := "<init>", desc := "()V" } : Jvm.MethodName)) ∈ xTG := xmem 237 (by decide +kernel) (by decide +kernel)
abbrev md_X7_init : xMd := (yX7_init, cX7_init, 1, none)
theorem wd_257 : (Jvm.Cond.methodLink "KnowledgeRoom$Reducer" (3 : Nat) ({ cls := "java/lang/Object", name := "<init>", desc := "()V" } : Jvm.MethodName)) ∈ xTG := xmem 257 (by decide +kernel) (by decide +kernel)
theorem wd_258 : (Jvm.Cond.classLink "KnowledgeRoom$Reducer" (18 : Nat) "KnowledgeRoom$Formula") ∈ xTG := xmem 258 (by decide +kernel) (by decide +kernel)
theorem wd_85 : (Jvm.Cond.instantiable "KnowledgeRoom$Formula" (2 : Nat)) ∈ xTG := xmem 85 (by decide +kernel) (by decide +kernel)
theorem wd_259 : (Jvm.Cond.methodLink "KnowledgeRoom$Reducer" (20 : Nat) ({ cls := "KnowledgeRoom$Formula", name := "<init>", desc := "(I)V" } : Jvm.MethodName)) ∈ xTG := xmem 259 (by decide +kernel) (by decide +kernel)
theorem wd_88 : (Jvm.Cond.code ({ cls := "KnowledgeRoom$Formula", name := "<init>", desc := "(I)V" } : Jvm.MethodName) prog_4_method_1_code (2 : Nat) (Option.none : Option Jvm.ClassFile.FieldType)) ∈ xTG := xmem 88 (by decide +kernel) (by decide +kernel)
theorem cw_X2_init : xcw md_X2_init 1 := ⟨wd_88, wd_5, by decide +kernel, by decide⟩
theorem wd_87 : (Jvm.Cond.instanceMethod ({ cls := "KnowledgeRoom$Formula", name := "<init>", desc := "(I)V" } : Jvm.MethodName)) ∈ xTG := xmem 87 (by decide +kernel) (by decide +kernel)
abbrev md_X8_init : xMd := (yX8_init, cX8_init, 1, none)
theorem wd_287 : (Jvm.Cond.methodLink "KnowledgeRoom$Terms" (3 : Nat) ({ cls := "java/lang/Object", name := "<init>", desc := "()V" } : Jvm.MethodName)) ∈ xTG := xmem 287 (by decide +kernel) (by decide +kernel)
abbrev md_X9_init : xMd := (yX9_init, cX9_init, 1, none)
theorem wd_191 : (Jvm.Cond.methodLink "KnowledgeRoom$Text" (3 : Nat) ({ cls := "java/lang/Object", name := "<init>", desc := "()V" } : Jvm.MethodName)) ∈ xTG := xmem 191 (by decide +kernel) (by decide +kernel)
theorem wd_182 : (Jvm.Cond.arrayClass Jvm.ClassFile.FieldType.char) ∈ xTG := xmem 182 (by decide +kernel) (by decide +kernel)
abbrev md_X6_init : xMd := (yX6_init, cX6_init, 1, none)
theorem wd_138 : (Jvm.Cond.methodLink "KnowledgeRoom$Reader" (3 : Nat) ({ cls := "java/lang/Object", name := "<init>", desc := "()V" } : Jvm.MethodName)) ∈ xTG := xmem 138 (by decide +kernel) (by decide +kernel)
theorem wd_139 : (Jvm.Cond.classLink "KnowledgeRoom$Reader" (15 : Nat) "KnowledgeRoom$Formula") ∈ xTG := xmem 139 (by decide +kernel) (by decide +kernel)
theorem wd_140 : (Jvm.Cond.methodLink "KnowledgeRoom$Reader" (17 : Nat) ({ cls := "KnowledgeRoom$Formula", name := "<init>", desc := "(I)V" } : Jvm.MethodName)) ∈ xTG := xmem 140 (by decide +kernel) (by decide +kernel)
abbrev md_X0_init : xMd := (yX0_init, cX0_init, 1, none)
theorem wd_281 : (Jvm.Cond.methodLink "KnowledgeRoom$Decider" (7 : Nat) ({ cls := "java/lang/Object", name := "<init>", desc := "()V" } : Jvm.MethodName)) ∈ xTG := xmem 281 (by decide +kernel) (by decide +kernel)
theorem wd_282 : (Jvm.Cond.classLink "KnowledgeRoom$Decider" (1 : Nat) "KnowledgeRoom$Terms") ∈ xTG := xmem 282 (by decide +kernel) (by decide +kernel)
theorem wd_283 : (Jvm.Cond.instantiable "KnowledgeRoom$Terms" (10 : Nat)) ∈ xTG := xmem 283 (by decide +kernel) (by decide +kernel)
theorem wn_284 : (Jvm.Cond.methodLinkNest "KnowledgeRoom$Decider" (17 : Nat) ({ cls := "KnowledgeRoom$Terms", name := "<init>", desc := "()V" } : Jvm.MethodName) "KnowledgeRoom") ∈ xNW := xmemN 284 (by decide +kernel) rfl
theorem wd_286 : (Jvm.Cond.code ({ cls := "KnowledgeRoom$Terms", name := "<init>", desc := "()V" } : Jvm.MethodName) prog_10_method_1_code (1 : Nat) (Option.none : Option Jvm.ClassFile.FieldType)) ∈ xTG := xmem 286 (by decide +kernel) (by decide +kernel)
theorem cw_X8_init : xcw md_X8_init 0 := ⟨wd_286, wd_13, by decide +kernel, by decide⟩
theorem wd_285 : (Jvm.Cond.instanceMethod ({ cls := "KnowledgeRoom$Terms", name := "<init>", desc := "()V" } : Jvm.MethodName)) ∈ xTG := xmem 285 (by decide +kernel) (by decide +kernel)
theorem dX8_init_0 : decode cX8_init 0 = .ok (.aload_n 0, 1) := by decide +kernel
theorem dX8_init_1 : decode cX8_init 1 = .ok (.invokespecial 3, 3) := by decide +kernel
theorem dX8_init_4 : decode cX8_init 4 = .ok (.aload_n 0, 1) := by decide +kernel
theorem dX8_init_5 : decode cX8_init 5 = .ok (.sipush 2400, 3) := by decide +kernel
theorem dX8_init_8 : decode cX8_init 8 = .ok (.newarray .int, 2) := by decide +kernel
theorem dX8_init_10 : decode cX8_init 10 = .ok (.putfield 11, 3) := by decide +kernel
theorem dX8_init_13 : decode cX8_init 13 = .ok (.aload_n 0, 1) := by decide +kernel
theorem dX8_init_14 : decode cX8_init 14 = .ok (.sipush 2400, 3) := by decide +kernel
theorem dX8_init_17 : decode cX8_init 17 = .ok (.newarray .int, 2) := by decide +kernel
theorem dX8_init_19 : decode cX8_init 19 = .ok (.putfield 15, 3) := by decide +kernel
theorem dX8_init_22 : decode cX8_init 22 = .ok (.aload_n 0, 1) := by decide +kernel
theorem dX8_init_23 : decode cX8_init 23 = .ok (.sipush 2400, 3) := by decide +kernel
theorem dX8_init_26 : decode cX8_init 26 = .ok (.newarray .int, 2) := by decide +kernel
theorem dX8_init_28 : decode cX8_init 28 = .ok (.putfield 18, 3) := by decide +kernel
theorem dX8_init_31 : decode cX8_init 31 = .ok (.aload_n 0, 1) := by decide +kernel
theorem dX8_init_32 : decode cX8_init 32 = .ok (.sipush 2400, 3) := by decide +kernel
theorem dX8_init_35 : decode cX8_init 35 = .ok (.newarray .int, 2) := by decide +kernel
theorem dX8_init_37 : decode cX8_init 37 = .ok (.putfield 21, 3) := by decide +kernel
theorem dX8_init_40 : decode cX8_init 40 = .ok (.aload_n 0, 1) := by decide +kernel
theorem dX8_init_41 : decode cX8_init 41 = .ok (.bipush 13, 2) := by decide +kernel
theorem dX8_init_43 : decode cX8_init 43 = .ok (.newarray .int, 2) := by decide +kernel
theorem dX8_init_45 : decode cX8_init 45 = .ok (.putfield 24, 3) := by decide +kernel
theorem dX8_init_48 : decode cX8_init 48 = .ok (.aload_n 0, 1) := by decide +kernel
theorem dX8_init_49 : decode cX8_init 49 = .ok (.sipush 4096, 3) := by decide +kernel
theorem dX8_init_52 : decode cX8_init 52 = .ok (.newarray .int, 2) := by decide +kernel
theorem dX8_init_54 : decode cX8_init 54 = .ok (.putfield 27, 3) := by decide +kernel
theorem dX8_init_57 : decode cX8_init 57 = .ok (.aload_n 0, 1) := by decide +kernel
theorem dX8_init_58 : decode cX8_init 58 = .ok (.sipush 2000, 3) := by decide +kernel
theorem dX8_init_61 : decode cX8_init 61 = .ok (.newarray .int, 2) := by decide +kernel
theorem dX8_init_63 : decode cX8_init 63 = .ok (.putfield 30, 3) := by decide +kernel
theorem dX8_init_66 : decode cX8_init 66 = .ok (.return_, 1) := by decide +kernel
theorem dX0_init_0 : decode cX0_init 0 = .ok (.aload_n 0, 1) := by decide +kernel
theorem dX0_init_1 : decode cX0_init 1 = .ok (.invokespecial 7, 3) := by decide +kernel
theorem dX0_init_4 : decode cX0_init 4 = .ok (.aload_n 0, 1) := by decide +kernel
theorem dX0_init_5 : decode cX0_init 5 = .ok (.bipush 6, 2) := by decide +kernel
theorem dX0_init_7 : decode cX0_init 7 = .ok (.newarray .int, 2) := by decide +kernel
theorem dX0_init_9 : decode cX0_init 9 = .ok (.putfield 13, 3) := by decide +kernel
theorem dX0_init_12 : decode cX0_init 12 = .ok (.aload_n 0, 1) := by decide +kernel
theorem dX0_init_13 : decode cX0_init 13 = .ok (.new 1, 3) := by decide +kernel
theorem dX0_init_16 : decode cX0_init 16 = .ok (.dup, 1) := by decide +kernel
theorem dX0_init_17 : decode cX0_init 17 = .ok (.invokespecial 17, 3) := by decide +kernel
theorem dX0_init_20 : decode cX0_init 20 = .ok (.putfield 18, 3) := by decide +kernel
theorem dX0_init_23 : decode cX0_init 23 = .ok (.aload_n 0, 1) := by decide +kernel
theorem dX0_init_24 : decode cX0_init 24 = .ok (.sipush 2400, 3) := by decide +kernel
theorem dX0_init_27 : decode cX0_init 27 = .ok (.newarray .long, 2) := by decide +kernel
theorem dX0_init_29 : decode cX0_init 29 = .ok (.putfield 22, 3) := by decide +kernel
theorem dX0_init_32 : decode cX0_init 32 = .ok (.aload_n 0, 1) := by decide +kernel
theorem dX0_init_33 : decode cX0_init 33 = .ok (.sipush 1664, 3) := by decide +kernel
theorem dX0_init_36 : decode cX0_init 36 = .ok (.newarray .long, 2) := by decide +kernel
theorem dX0_init_38 : decode cX0_init 38 = .ok (.putfield 26, 3) := by decide +kernel
theorem dX0_init_41 : decode cX0_init 41 = .ok (.aload_n 0, 1) := by decide +kernel
theorem dX0_init_42 : decode cX0_init 42 = .ok (.sipush 128, 3) := by decide +kernel
theorem dX0_init_45 : decode cX0_init 45 = .ok (.newarray .long, 2) := by decide +kernel
theorem dX0_init_47 : decode cX0_init 47 = .ok (.putfield 29, 3) := by decide +kernel
theorem dX0_init_50 : decode cX0_init 50 = .ok (.aload_n 0, 1) := by decide +kernel
theorem dX0_init_51 : decode cX0_init 51 = .ok (.sipush 128, 3) := by decide +kernel
theorem dX0_init_54 : decode cX0_init 54 = .ok (.newarray .long, 2) := by decide +kernel
theorem dX0_init_56 : decode cX0_init 56 = .ok (.putfield 32, 3) := by decide +kernel
theorem dX0_init_59 : decode cX0_init 59 = .ok (.aload_n 0, 1) := by decide +kernel
theorem dX0_init_60 : decode cX0_init 60 = .ok (.sipush 128, 3) := by decide +kernel
theorem dX0_init_63 : decode cX0_init 63 = .ok (.newarray .long, 2) := by decide +kernel
theorem dX0_init_65 : decode cX0_init 65 = .ok (.putfield 35, 3) := by decide +kernel
theorem dX0_init_68 : decode cX0_init 68 = .ok (.aload_n 0, 1) := by decide +kernel
theorem dX0_init_69 : decode cX0_init 69 = .ok (.sipush 128, 3) := by decide +kernel
theorem dX0_init_72 : decode cX0_init 72 = .ok (.newarray .long, 2) := by decide +kernel
theorem dX0_init_74 : decode cX0_init 74 = .ok (.putfield 38, 3) := by decide +kernel
theorem dX0_init_77 : decode cX0_init 77 = .ok (.aload_n 0, 1) := by decide +kernel
theorem dX0_init_78 : decode cX0_init 78 = .ok (.iconst 4, 1) := by decide +kernel
theorem dX0_init_79 : decode cX0_init 79 = .ok (.newarray .int, 2) := by decide +kernel
theorem dX0_init_81 : decode cX0_init 81 = .ok (.putfield 41, 3) := by decide +kernel
theorem dX0_init_84 : decode cX0_init 84 = .ok (.return_, 1) := by decide +kernel
theorem dX2_init_0 : decode cX2_init 0 = .ok (.aload_n 0, 1) := by decide +kernel
theorem dX2_init_1 : decode cX2_init 1 = .ok (.invokespecial 1, 3) := by decide +kernel
theorem dX2_init_4 : decode cX2_init 4 = .ok (.aload_n 0, 1) := by decide +kernel
theorem dX2_init_5 : decode cX2_init 5 = .ok (.iload_n 1, 1) := by decide +kernel
theorem dX2_init_6 : decode cX2_init 6 = .ok (.iconst 0, 1) := by decide +kernel
theorem dX2_init_7 : decode cX2_init 7 = .ok (.invokestatic 7, 3) := by decide +kernel
theorem dX2_init_10 : decode cX2_init 10 = .ok (.newarray .int, 2) := by decide +kernel
theorem dX2_init_12 : decode cX2_init 12 = .ok (.putfield 13, 3) := by decide +kernel
theorem dX2_init_15 : decode cX2_init 15 = .ok (.return_, 1) := by decide +kernel
theorem dX1_init_0 : decode cX1_init 0 = .ok (.aload_n 0, 1) := by decide +kernel
theorem dX1_init_1 : decode cX1_init 1 = .ok (.invokespecial 3, 3) := by decide +kernel
theorem dX1_init_4 : decode cX1_init 4 = .ok (.aload_n 0, 1) := by decide +kernel
theorem dX1_init_5 : decode cX1_init 5 = .ok (.bipush 72, 2) := by decide +kernel
theorem dX1_init_7 : decode cX1_init 7 = .ok (.anewarray 11, 3) := by decide +kernel
theorem dX1_init_10 : decode cX1_init 10 = .ok (.putfield 13, 3) := by decide +kernel
theorem dX1_init_13 : decode cX1_init 13 = .ok (.aload_n 0, 1) := by decide +kernel
theorem dX1_init_14 : decode cX1_init 14 = .ok (.bipush 32, 2) := by decide +kernel
theorem dX1_init_16 : decode cX1_init 16 = .ok (.newarray .int, 2) := by decide +kernel
theorem dX1_init_18 : decode cX1_init 18 = .ok (.putfield 17, 3) := by decide +kernel
theorem dX1_init_21 : decode cX1_init 21 = .ok (.aload_n 0, 1) := by decide +kernel
theorem dX1_init_22 : decode cX1_init 22 = .ok (.bipush 8, 2) := by decide +kernel
theorem dX1_init_24 : decode cX1_init 24 = .ok (.newarray .long, 2) := by decide +kernel
theorem dX1_init_26 : decode cX1_init 26 = .ok (.putfield 21, 3) := by decide +kernel
theorem dX1_init_29 : decode cX1_init 29 = .ok (.aload_n 0, 1) := by decide +kernel
theorem dX1_init_30 : decode cX1_init 30 = .ok (.bipush 64, 2) := by decide +kernel
theorem dX1_init_32 : decode cX1_init 32 = .ok (.newarray .int, 2) := by decide +kernel
theorem dX1_init_34 : decode cX1_init 34 = .ok (.putfield 25, 3) := by decide +kernel
theorem dX1_init_37 : decode cX1_init 37 = .ok (.aload_n 0, 1) := by decide +kernel
theorem dX1_init_38 : decode cX1_init 38 = .ok (.bipush 64, 2) := by decide +kernel
theorem dX1_init_40 : decode cX1_init 40 = .ok (.newarray .int, 2) := by decide +kernel
theorem dX1_init_42 : decode cX1_init 42 = .ok (.putfield 28, 3) := by decide +kernel
theorem dX1_init_45 : decode cX1_init 45 = .ok (.iconst 0, 1) := by decide +kernel
theorem dX1_init_46 : decode cX1_init 46 = .ok (.istore_n 1, 1) := by decide +kernel
theorem dX1_init_47 : decode cX1_init 47 = .ok (.iload_n 1, 1) := by decide +kernel
theorem dX1_init_48 : decode cX1_init 48 = .ok (.aload_n 0, 1) := by decide +kernel
theorem dX1_init_49 : decode cX1_init 49 = .ok (.getfield 13, 3) := by decide +kernel
theorem dX1_init_52 : decode cX1_init 52 = .ok (.arraylength, 1) := by decide +kernel
theorem dX1_init_53 : decode cX1_init 53 = .ok (.if_icmp .ge 25, 3) := by decide +kernel
theorem dX1_init_56 : decode cX1_init 56 = .ok (.aload_n 0, 1) := by decide +kernel
theorem dX1_init_57 : decode cX1_init 57 = .ok (.getfield 13, 3) := by decide +kernel
theorem dX1_init_60 : decode cX1_init 60 = .ok (.iload_n 1, 1) := by decide +kernel
theorem dX1_init_61 : decode cX1_init 61 = .ok (.new 11, 3) := by decide +kernel
theorem dX1_init_64 : decode cX1_init 64 = .ok (.dup, 1) := by decide +kernel
theorem dX1_init_65 : decode cX1_init 65 = .ok (.sipush 150, 3) := by decide +kernel
theorem dX1_init_68 : decode cX1_init 68 = .ok (.invokespecial 31, 3) := by decide +kernel
theorem dX1_init_71 : decode cX1_init 71 = .ok (.aastore, 1) := by decide +kernel
theorem dX1_init_72 : decode cX1_init 72 = .ok (.iinc 1 1, 3) := by decide +kernel
theorem dX1_init_75 : decode cX1_init 75 = .ok (.goto (-28), 3) := by decide +kernel
theorem dX1_init_78 : decode cX1_init 78 = .ok (.return_, 1) := by decide +kernel
theorem dX3_init_0 : decode cX3_init 0 = .ok (.aload_n 0, 1) := by decide +kernel
theorem dX3_init_1 : decode cX3_init 1 = .ok (.invokespecial 3, 3) := by decide +kernel
theorem dX3_init_4 : decode cX3_init 4 = .ok (.aload_n 0, 1) := by decide +kernel
theorem dX3_init_5 : decode cX3_init 5 = .ok (.sipush 2000, 3) := by decide +kernel
theorem dX3_init_8 : decode cX3_init 8 = .ok (.newarray .int, 2) := by decide +kernel
theorem dX3_init_10 : decode cX3_init 10 = .ok (.putfield 9, 3) := by decide +kernel
theorem dX3_init_13 : decode cX3_init 13 = .ok (.aload_n 0, 1) := by decide +kernel
theorem dX3_init_14 : decode cX3_init 14 = .ok (.sipush 2000, 3) := by decide +kernel
theorem dX3_init_17 : decode cX3_init 17 = .ok (.newarray .boolean, 2) := by decide +kernel
theorem dX3_init_19 : decode cX3_init 19 = .ok (.putfield 15, 3) := by decide +kernel
theorem dX3_init_22 : decode cX3_init 22 = .ok (.aload_n 0, 1) := by decide +kernel
theorem dX3_init_23 : decode cX3_init 23 = .ok (.sipush 2000, 3) := by decide +kernel
theorem dX3_init_26 : decode cX3_init 26 = .ok (.newarray .long, 2) := by decide +kernel
theorem dX3_init_28 : decode cX3_init 28 = .ok (.putfield 19, 3) := by decide +kernel
theorem dX3_init_31 : decode cX3_init 31 = .ok (.aload_n 0, 1) := by decide +kernel
theorem dX3_init_32 : decode cX3_init 32 = .ok (.sipush 2000, 3) := by decide +kernel
theorem dX3_init_35 : decode cX3_init 35 = .ok (.newarray .long, 2) := by decide +kernel
theorem dX3_init_37 : decode cX3_init 37 = .ok (.putfield 23, 3) := by decide +kernel
theorem dX3_init_40 : decode cX3_init 40 = .ok (.return_, 1) := by decide +kernel
theorem dX4_init_0 : decode cX4_init 0 = .ok (.aload_n 0, 1) := by decide +kernel
theorem dX4_init_1 : decode cX4_init 1 = .ok (.invokespecial 3, 3) := by decide +kernel
theorem dX4_init_4 : decode cX4_init 4 = .ok (.aload_n 0, 1) := by decide +kernel
theorem dX4_init_5 : decode cX4_init 5 = .ok (.bipush 64, 2) := by decide +kernel
theorem dX4_init_7 : decode cX4_init 7 = .ok (.newarray .int, 2) := by decide +kernel
theorem dX4_init_9 : decode cX4_init 9 = .ok (.putfield 9, 3) := by decide +kernel
theorem dX4_init_12 : decode cX4_init 12 = .ok (.aload_n 0, 1) := by decide +kernel
theorem dX4_init_13 : decode cX4_init 13 = .ok (.sipush 256, 3) := by decide +kernel
theorem dX4_init_16 : decode cX4_init 16 = .ok (.newarray .long, 2) := by decide +kernel
theorem dX4_init_18 : decode cX4_init 18 = .ok (.putfield 15, 3) := by decide +kernel
theorem dX4_init_21 : decode cX4_init 21 = .ok (.aload_n 0, 1) := by decide +kernel
theorem dX4_init_22 : decode cX4_init 22 = .ok (.bipush 64, 2) := by decide +kernel
theorem dX4_init_24 : decode cX4_init 24 = .ok (.newarray .int, 2) := by decide +kernel
theorem dX4_init_26 : decode cX4_init 26 = .ok (.putfield 19, 3) := by decide +kernel
theorem dX4_init_29 : decode cX4_init 29 = .ok (.aload_n 0, 1) := by decide +kernel
theorem dX4_init_30 : decode cX4_init 30 = .ok (.bipush 64, 2) := by decide +kernel
theorem dX4_init_32 : decode cX4_init 32 = .ok (.newarray .int, 2) := by decide +kernel
theorem dX4_init_34 : decode cX4_init 34 = .ok (.putfield 22, 3) := by decide +kernel
theorem dX4_init_37 : decode cX4_init 37 = .ok (.return_, 1) := by decide +kernel
theorem dX10_init_0 : decode cX10_init 0 = .ok (.aload_n 0, 1) := by decide +kernel
theorem dX10_init_1 : decode cX10_init 1 = .ok (.invokespecial 3, 3) := by decide +kernel
theorem dX10_init_4 : decode cX10_init 4 = .ok (.aload_n 0, 1) := by decide +kernel
theorem dX10_init_5 : decode cX10_init 5 = .ok (.bipush 8, 2) := by decide +kernel
theorem dX10_init_7 : decode cX10_init 7 = .ok (.newarray .long, 2) := by decide +kernel
theorem dX10_init_9 : decode cX10_init 9 = .ok (.putfield 9, 3) := by decide +kernel
theorem dX10_init_12 : decode cX10_init 12 = .ok (.aload_n 0, 1) := by decide +kernel
theorem dX10_init_13 : decode cX10_init 13 = .ok (.sipush 256, 3) := by decide +kernel
theorem dX10_init_16 : decode cX10_init 16 = .ok (.newarray .long, 2) := by decide +kernel
theorem dX10_init_18 : decode cX10_init 18 = .ok (.putfield 15, 3) := by decide +kernel
theorem dX10_init_21 : decode cX10_init 21 = .ok (.return_, 1) := by decide +kernel
theorem dX5_init_0 : decode cX5_init 0 = .ok (.aload_n 0, 1) := by decide +kernel
theorem dX5_init_1 : decode cX5_init 1 = .ok (.invokespecial 3, 3) := by decide +kernel
theorem dX5_init_4 : decode cX5_init 4 = .ok (.aload_n 0, 1) := by decide +kernel
theorem dX5_init_5 : decode cX5_init 5 = .ok (.bipush 12, 2) := by decide +kernel
theorem dX5_init_7 : decode cX5_init 7 = .ok (.anewarray 9, 3) := by decide +kernel
theorem dX5_init_10 : decode cX5_init 10 = .ok (.putfield 11, 3) := by decide +kernel
theorem dX5_init_13 : decode cX5_init 13 = .ok (.iconst 0, 1) := by decide +kernel
theorem dX5_init_14 : decode cX5_init 14 = .ok (.istore_n 1, 1) := by decide +kernel
theorem dX5_init_15 : decode cX5_init 15 = .ok (.iload_n 1, 1) := by decide +kernel
theorem dX5_init_16 : decode cX5_init 16 = .ok (.bipush 12, 2) := by decide +kernel
theorem dX5_init_18 : decode cX5_init 18 = .ok (.if_icmp .ge 22, 3) := by decide +kernel
theorem dX5_init_21 : decode cX5_init 21 = .ok (.aload_n 0, 1) := by decide +kernel
theorem dX5_init_22 : decode cX5_init 22 = .ok (.getfield 11, 3) := by decide +kernel
theorem dX5_init_25 : decode cX5_init 25 = .ok (.iload_n 1, 1) := by decide +kernel
theorem dX5_init_26 : decode cX5_init 26 = .ok (.new 9, 3) := by decide +kernel
theorem dX5_init_29 : decode cX5_init 29 = .ok (.dup, 1) := by decide +kernel
theorem dX5_init_30 : decode cX5_init 30 = .ok (.invokespecial 17, 3) := by decide +kernel
theorem dX5_init_33 : decode cX5_init 33 = .ok (.aastore, 1) := by decide +kernel
theorem dX5_init_34 : decode cX5_init 34 = .ok (.iinc 1 1, 3) := by decide +kernel
theorem dX5_init_37 : decode cX5_init 37 = .ok (.goto (-22), 3) := by decide +kernel
theorem dX5_init_40 : decode cX5_init 40 = .ok (.return_, 1) := by decide +kernel
theorem dX6_init_0 : decode cX6_init 0 = .ok (.aload_n 0, 1) := by decide +kernel
theorem dX6_init_1 : decode cX6_init 1 = .ok (.invokespecial 3, 3) := by decide +kernel
theorem dX6_init_4 : decode cX6_init 4 = .ok (.aload_n 0, 1) := by decide +kernel
theorem dX6_init_5 : decode cX6_init 5 = .ok (.sipush 200, 3) := by decide +kernel
theorem dX6_init_8 : decode cX6_init 8 = .ok (.newarray .char, 2) := by decide +kernel
theorem dX6_init_10 : decode cX6_init 10 = .ok (.putfield 9, 3) := by decide +kernel
theorem dX6_init_13 : decode cX6_init 13 = .ok (.aload_n 0, 1) := by decide +kernel
theorem dX6_init_14 : decode cX6_init 14 = .ok (.new 15, 3) := by decide +kernel
theorem dX6_init_17 : decode cX6_init 17 = .ok (.dup, 1) := by decide +kernel
theorem dX6_init_18 : decode cX6_init 18 = .ok (.sipush 150, 3) := by decide +kernel
theorem dX6_init_21 : decode cX6_init 21 = .ok (.invokespecial 17, 3) := by decide +kernel
theorem dX6_init_24 : decode cX6_init 24 = .ok (.putfield 20, 3) := by decide +kernel
theorem dX6_init_27 : decode cX6_init 27 = .ok (.aload_n 0, 1) := by decide +kernel
theorem dX6_init_28 : decode cX6_init 28 = .ok (.bipush 16, 2) := by decide +kernel
theorem dX6_init_30 : decode cX6_init 30 = .ok (.newarray .char, 2) := by decide +kernel
theorem dX6_init_32 : decode cX6_init 32 = .ok (.putfield 24, 3) := by decide +kernel
theorem dX6_init_35 : decode cX6_init 35 = .ok (.aload_n 0, 1) := by decide +kernel
theorem dX6_init_36 : decode cX6_init 36 = .ok (.bipush 16, 2) := by decide +kernel
theorem dX6_init_38 : decode cX6_init 38 = .ok (.newarray .int, 2) := by decide +kernel
theorem dX6_init_40 : decode cX6_init 40 = .ok (.putfield 27, 3) := by decide +kernel
theorem dX6_init_43 : decode cX6_init 43 = .ok (.aload_n 0, 1) := by decide +kernel
theorem dX6_init_44 : decode cX6_init 44 = .ok (.bipush 16, 2) := by decide +kernel
theorem dX6_init_46 : decode cX6_init 46 = .ok (.newarray .int, 2) := by decide +kernel
theorem dX6_init_48 : decode cX6_init 48 = .ok (.putfield 31, 3) := by decide +kernel
theorem dX6_init_51 : decode cX6_init 51 = .ok (.aload_n 0, 1) := by decide +kernel
theorem dX6_init_52 : decode cX6_init 52 = .ok (.bipush 16, 2) := by decide +kernel
theorem dX6_init_54 : decode cX6_init 54 = .ok (.newarray .int, 2) := by decide +kernel
theorem dX6_init_56 : decode cX6_init 56 = .ok (.putfield 34, 3) := by decide +kernel
theorem dX6_init_59 : decode cX6_init 59 = .ok (.aload_n 0, 1) := by decide +kernel
theorem dX6_init_60 : decode cX6_init 60 = .ok (.bipush 16, 2) := by decide +kernel
theorem dX6_init_62 : decode cX6_init 62 = .ok (.newarray .int, 2) := by decide +kernel
theorem dX6_init_64 : decode cX6_init 64 = .ok (.putfield 37, 3) := by decide +kernel
theorem dX6_init_67 : decode cX6_init 67 = .ok (.aload_n 0, 1) := by decide +kernel
theorem dX6_init_68 : decode cX6_init 68 = .ok (.bipush 16, 2) := by decide +kernel
theorem dX6_init_70 : decode cX6_init 70 = .ok (.newarray .boolean, 2) := by decide +kernel
theorem dX6_init_72 : decode cX6_init 72 = .ok (.putfield 40, 3) := by decide +kernel
theorem dX6_init_75 : decode cX6_init 75 = .ok (.return_, 1) := by decide +kernel
theorem dX7_init_0 : decode cX7_init 0 = .ok (.aload_n 0, 1) := by decide +kernel
theorem dX7_init_1 : decode cX7_init 1 = .ok (.invokespecial 3, 3) := by decide +kernel
theorem dX7_init_4 : decode cX7_init 4 = .ok (.aload_n 0, 1) := by decide +kernel
theorem dX7_init_5 : decode cX7_init 5 = .ok (.sipush 2000, 3) := by decide +kernel
theorem dX7_init_8 : decode cX7_init 8 = .ok (.newarray .int, 2) := by decide +kernel
theorem dX7_init_10 : decode cX7_init 10 = .ok (.putfield 9, 3) := by decide +kernel
theorem dX7_init_13 : decode cX7_init 13 = .ok (.aload_n 0, 1) := by decide +kernel
theorem dX7_init_14 : decode cX7_init 14 = .ok (.sipush 150, 3) := by decide +kernel
theorem dX7_init_17 : decode cX7_init 17 = .ok (.newarray .int, 2) := by decide +kernel
theorem dX7_init_19 : decode cX7_init 19 = .ok (.putfield 15, 3) := by decide +kernel
theorem dX7_init_22 : decode cX7_init 22 = .ok (.aload_n 0, 1) := by decide +kernel
theorem dX7_init_23 : decode cX7_init 23 = .ok (.new 18, 3) := by decide +kernel
theorem dX7_init_26 : decode cX7_init 26 = .ok (.dup, 1) := by decide +kernel
theorem dX7_init_27 : decode cX7_init 27 = .ok (.sipush 2000, 3) := by decide +kernel
theorem dX7_init_30 : decode cX7_init 30 = .ok (.invokespecial 20, 3) := by decide +kernel
theorem dX7_init_33 : decode cX7_init 33 = .ok (.putfield 23, 3) := by decide +kernel
theorem dX7_init_36 : decode cX7_init 36 = .ok (.return_, 1) := by decide +kernel
theorem dX9_init_0 : decode cX9_init 0 = .ok (.aload_n 0, 1) := by decide +kernel
theorem dX9_init_1 : decode cX9_init 1 = .ok (.invokespecial 3, 3) := by decide +kernel
theorem dX9_init_4 : decode cX9_init 4 = .ok (.aload_n 0, 1) := by decide +kernel
theorem dX9_init_5 : decode cX9_init 5 = .ok (.sipush 4000, 3) := by decide +kernel
theorem dX9_init_8 : decode cX9_init 8 = .ok (.newarray .char, 2) := by decide +kernel
theorem dX9_init_10 : decode cX9_init 10 = .ok (.putfield 11, 3) := by decide +kernel
theorem dX9_init_13 : decode cX9_init 13 = .ok (.aload_n 0, 1) := by decide +kernel
theorem dX9_init_14 : decode cX9_init 14 = .ok (.sipush 2000, 3) := by decide +kernel
theorem dX9_init_17 : decode cX9_init 17 = .ok (.newarray .int, 2) := by decide +kernel
theorem dX9_init_19 : decode cX9_init 19 = .ok (.putfield 15, 3) := by decide +kernel
theorem dX9_init_22 : decode cX9_init 22 = .ok (.return_, 1) := by decide +kernel
theorem dX11_init_0 : decode cX11_init 0 = .ok (.aload_n 0, 1) := by decide +kernel
theorem dX11_init_1 : decode cX11_init 1 = .ok (.invokespecial 1, 3) := by decide +kernel
theorem dX11_init_4 : decode cX11_init 4 = .ok (.aload_n 0, 1) := by decide +kernel
theorem dX11_init_5 : decode cX11_init 5 = .ok (.new 7, 3) := by decide +kernel
theorem dX11_init_8 : decode cX11_init 8 = .ok (.dup, 1) := by decide +kernel
theorem dX11_init_9 : decode cX11_init 9 = .ok (.invokespecial 9, 3) := by decide +kernel
theorem dX11_init_12 : decode cX11_init 12 = .ok (.putfield 10, 3) := by decide +kernel
theorem dX11_init_15 : decode cX11_init 15 = .ok (.aload_n 0, 1) := by decide +kernel
theorem dX11_init_16 : decode cX11_init 16 = .ok (.new 16, 3) := by decide +kernel
theorem dX11_init_19 : decode cX11_init 19 = .ok (.dup, 1) := by decide +kernel
theorem dX11_init_20 : decode cX11_init 20 = .ok (.invokespecial 18, 3) := by decide +kernel
theorem dX11_init_23 : decode cX11_init 23 = .ok (.putfield 19, 3) := by decide +kernel
theorem dX11_init_26 : decode cX11_init 26 = .ok (.aload_n 0, 1) := by decide +kernel
theorem dX11_init_27 : decode cX11_init 27 = .ok (.new 23, 3) := by decide +kernel
theorem dX11_init_30 : decode cX11_init 30 = .ok (.dup, 1) := by decide +kernel
theorem dX11_init_31 : decode cX11_init 31 = .ok (.invokespecial 25, 3) := by decide +kernel
theorem dX11_init_34 : decode cX11_init 34 = .ok (.putfield 26, 3) := by decide +kernel
theorem dX11_init_37 : decode cX11_init 37 = .ok (.aload_n 0, 1) := by decide +kernel
theorem dX11_init_38 : decode cX11_init 38 = .ok (.new 30, 3) := by decide +kernel
theorem dX11_init_41 : decode cX11_init 41 = .ok (.dup, 1) := by decide +kernel
theorem dX11_init_42 : decode cX11_init 42 = .ok (.invokespecial 32, 3) := by decide +kernel
theorem dX11_init_45 : decode cX11_init 45 = .ok (.putfield 33, 3) := by decide +kernel
theorem dX11_init_48 : decode cX11_init 48 = .ok (.aload_n 0, 1) := by decide +kernel
theorem dX11_init_49 : decode cX11_init 49 = .ok (.new 37, 3) := by decide +kernel
theorem dX11_init_52 : decode cX11_init 52 = .ok (.dup, 1) := by decide +kernel
theorem dX11_init_53 : decode cX11_init 53 = .ok (.sipush 2000, 3) := by decide +kernel
theorem dX11_init_56 : decode cX11_init 56 = .ok (.invokespecial 39, 3) := by decide +kernel
theorem dX11_init_59 : decode cX11_init 59 = .ok (.putfield 42, 3) := by decide +kernel
theorem dX11_init_62 : decode cX11_init 62 = .ok (.aload_n 0, 1) := by decide +kernel
theorem dX11_init_63 : decode cX11_init 63 = .ok (.new 46, 3) := by decide +kernel
theorem dX11_init_66 : decode cX11_init 66 = .ok (.dup, 1) := by decide +kernel
theorem dX11_init_67 : decode cX11_init 67 = .ok (.invokespecial 48, 3) := by decide +kernel
theorem dX11_init_70 : decode cX11_init 70 = .ok (.putfield 49, 3) := by decide +kernel
theorem dX11_init_73 : decode cX11_init 73 = .ok (.aload_n 0, 1) := by decide +kernel
theorem dX11_init_74 : decode cX11_init 74 = .ok (.new 53, 3) := by decide +kernel
theorem dX11_init_77 : decode cX11_init 77 = .ok (.dup, 1) := by decide +kernel
theorem dX11_init_78 : decode cX11_init 78 = .ok (.invokespecial 55, 3) := by decide +kernel
theorem dX11_init_81 : decode cX11_init 81 = .ok (.putfield 56, 3) := by decide +kernel
theorem dX11_init_84 : decode cX11_init 84 = .ok (.aload_n 0, 1) := by decide +kernel
theorem dX11_init_85 : decode cX11_init 85 = .ok (.new 60, 3) := by decide +kernel
theorem dX11_init_88 : decode cX11_init 88 = .ok (.dup, 1) := by decide +kernel
theorem dX11_init_89 : decode cX11_init 89 = .ok (.invokespecial 62, 3) := by decide +kernel
theorem dX11_init_92 : decode cX11_init 92 = .ok (.putfield 63, 3) := by decide +kernel
theorem dX11_init_95 : decode cX11_init 95 = .ok (.aload_n 0, 1) := by decide +kernel
theorem dX11_init_96 : decode cX11_init 96 = .ok (.new 67, 3) := by decide +kernel
theorem dX11_init_99 : decode cX11_init 99 = .ok (.dup, 1) := by decide +kernel
theorem dX11_init_100 : decode cX11_init 100 = .ok (.invokespecial 69, 3) := by decide +kernel
theorem dX11_init_103 : decode cX11_init 103 = .ok (.putfield 70, 3) := by decide +kernel
theorem dX11_init_106 : decode cX11_init 106 = .ok (.aload_n 0, 1) := by decide +kernel
theorem dX11_init_107 : decode cX11_init 107 = .ok (.new 74, 3) := by decide +kernel
theorem dX11_init_110 : decode cX11_init 110 = .ok (.dup, 1) := by decide +kernel
theorem dX11_init_111 : decode cX11_init 111 = .ok (.invokespecial 76, 3) := by decide +kernel
theorem dX11_init_114 : decode cX11_init 114 = .ok (.putfield 77, 3) := by decide +kernel
theorem dX11_init_117 : decode cX11_init 117 = .ok (.aload_n 0, 1) := by decide +kernel
theorem dX11_init_118 : decode cX11_init 118 = .ok (.bipush 64, 2) := by decide +kernel
theorem dX11_init_120 : decode cX11_init 120 = .ok (.newarray .int, 2) := by decide +kernel
theorem dX11_init_122 : decode cX11_init 122 = .ok (.putfield 81, 3) := by decide +kernel
theorem dX11_init_125 : decode cX11_init 125 = .ok (.aload_n 0, 1) := by decide +kernel
theorem dX11_init_126 : decode cX11_init 126 = .ok (.sipush 2000, 3) := by decide +kernel
theorem dX11_init_129 : decode cX11_init 129 = .ok (.newarray .int, 2) := by decide +kernel
theorem dX11_init_131 : decode cX11_init 131 = .ok (.putfield 85, 3) := by decide +kernel
theorem dX11_init_134 : decode cX11_init 134 = .ok (.aload_n 0, 1) := by decide +kernel
theorem dX11_init_135 : decode cX11_init 135 = .ok (.getfield 42, 3) := by decide +kernel
theorem dX11_init_138 : decode cX11_init 138 = .ok (.bipush 49, 2) := by decide +kernel
theorem dX11_init_140 : decode cX11_init 140 = .ok (.invokevirtual 88, 3) := by decide +kernel
theorem dX11_init_143 : decode cX11_init 143 = .ok (.pop, 1) := by decide +kernel
theorem dX11_init_144 : decode cX11_init 144 = .ok (.return_, 1) := by decide +kernel
theorem dX12_init_0 : decode cX12_init 0 = .ok (.aload_n 0, 1) := by decide +kernel
theorem dX12_init_1 : decode cX12_init 1 = .ok (.invokespecial 65, 3) := by decide +kernel
theorem dX12_init_4 : decode cX12_init 4 = .ok (.aload_n 0, 1) := by decide +kernel
theorem dX12_init_5 : decode cX12_init 5 = .ok (.bipush 64, 2) := by decide +kernel
theorem dX12_init_7 : decode cX12_init 7 = .ok (.newarray .int, 2) := by decide +kernel
theorem dX12_init_9 : decode cX12_init 9 = .ok (.putfield 31, 3) := by decide +kernel
theorem dX12_init_12 : decode cX12_init 12 = .ok (.aload_n 0, 1) := by decide +kernel
theorem dX12_init_13 : decode cX12_init 13 = .ok (.sipush 256, 3) := by decide +kernel
theorem dX12_init_16 : decode cX12_init 16 = .ok (.newarray .int, 2) := by decide +kernel
theorem dX12_init_18 : decode cX12_init 18 = .ok (.putfield 14, 3) := by decide +kernel
theorem dX12_init_21 : decode cX12_init 21 = .ok (.aload_n 0, 1) := by decide +kernel
theorem dX12_init_22 : decode cX12_init 22 = .ok (.bipush 12, 2) := by decide +kernel
theorem dX12_init_24 : decode cX12_init 24 = .ok (.newarray .int, 2) := by decide +kernel
theorem dX12_init_26 : decode cX12_init 26 = .ok (.putfield 56, 3) := by decide +kernel
theorem dX12_init_29 : decode cX12_init 29 = .ok (.aload_n 0, 1) := by decide +kernel
theorem dX12_init_30 : decode cX12_init 30 = .ok (.sipush 768, 3) := by decide +kernel
theorem dX12_init_33 : decode cX12_init 33 = .ok (.newarray .int, 2) := by decide +kernel
theorem dX12_init_35 : decode cX12_init 35 = .ok (.putfield 59, 3) := by decide +kernel
theorem dX12_init_38 : decode cX12_init 38 = .ok (.aload_n 0, 1) := by decide +kernel
theorem dX12_init_39 : decode cX12_init 39 = .ok (.sipush 3072, 3) := by decide +kernel
theorem dX12_init_42 : decode cX12_init 42 = .ok (.newarray .int, 2) := by decide +kernel
theorem dX12_init_44 : decode cX12_init 44 = .ok (.putfield 62, 3) := by decide +kernel
theorem dX12_init_47 : decode cX12_init 47 = .ok (.aload_n 0, 1) := by decide +kernel
theorem dX12_init_48 : decode cX12_init 48 = .ok (.ldc 71, 2) := by decide +kernel
theorem dX12_init_50 : decode cX12_init 50 = .ok (.newarray .int, 2) := by decide +kernel
theorem dX12_init_52 : decode cX12_init 52 = .ok (.putfield 72, 3) := by decide +kernel
theorem dX12_init_55 : decode cX12_init 55 = .ok (.aload_n 0, 1) := by decide +kernel
theorem dX12_init_56 : decode cX12_init 56 = .ok (.ldc 71, 2) := by decide +kernel
theorem dX12_init_58 : decode cX12_init 58 = .ok (.newarray .int, 2) := by decide +kernel
theorem dX12_init_60 : decode cX12_init 60 = .ok (.putfield 75, 3) := by decide +kernel
theorem dX12_init_63 : decode cX12_init 63 = .ok (.aload_n 0, 1) := by decide +kernel
theorem dX12_init_64 : decode cX12_init 64 = .ok (.ldc 71, 2) := by decide +kernel
theorem dX12_init_66 : decode cX12_init 66 = .ok (.newarray .int, 2) := by decide +kernel
theorem dX12_init_68 : decode cX12_init 68 = .ok (.putfield 78, 3) := by decide +kernel
theorem dX12_init_71 : decode cX12_init 71 = .ok (.aload_n 0, 1) := by decide +kernel
theorem dX12_init_72 : decode cX12_init 72 = .ok (.ldc 71, 2) := by decide +kernel
theorem dX12_init_74 : decode cX12_init 74 = .ok (.newarray .int, 2) := by decide +kernel
theorem dX12_init_76 : decode cX12_init 76 = .ok (.putfield 81, 3) := by decide +kernel
theorem dX12_init_79 : decode cX12_init 79 = .ok (.aload_n 0, 1) := by decide +kernel
theorem dX12_init_80 : decode cX12_init 80 = .ok (.ldc 71, 2) := by decide +kernel
theorem dX12_init_82 : decode cX12_init 82 = .ok (.newarray .int, 2) := by decide +kernel
theorem dX12_init_84 : decode cX12_init 84 = .ok (.putfield 84, 3) := by decide +kernel
theorem dX12_init_87 : decode cX12_init 87 = .ok (.aload_n 0, 1) := by decide +kernel
theorem dX12_init_88 : decode cX12_init 88 = .ok (.sipush 200, 3) := by decide +kernel
theorem dX12_init_91 : decode cX12_init 91 = .ok (.newarray .byte, 2) := by decide +kernel
theorem dX12_init_93 : decode cX12_init 93 = .ok (.putfield 87, 3) := by decide +kernel
theorem dX12_init_96 : decode cX12_init 96 = .ok (.aload_n 0, 1) := by decide +kernel
theorem dX12_init_97 : decode cX12_init 97 = .ok (.sipush 20000, 3) := by decide +kernel
theorem dX12_init_100 : decode cX12_init 100 = .ok (.newarray .byte, 2) := by decide +kernel
theorem dX12_init_102 : decode cX12_init 102 = .ok (.putfield 91, 3) := by decide +kernel
theorem dX12_init_105 : decode cX12_init 105 = .ok (.aload_n 0, 1) := by decide +kernel
theorem dX12_init_106 : decode cX12_init 106 = .ok (.bipush 64, 2) := by decide +kernel
theorem dX12_init_108 : decode cX12_init 108 = .ok (.newarray .int, 2) := by decide +kernel
theorem dX12_init_110 : decode cX12_init 110 = .ok (.putfield 94, 3) := by decide +kernel
theorem dX12_init_113 : decode cX12_init 113 = .ok (.aload_n 0, 1) := by decide +kernel
theorem dX12_init_114 : decode cX12_init 114 = .ok (.bipush 64, 2) := by decide +kernel
theorem dX12_init_116 : decode cX12_init 116 = .ok (.newarray .int, 2) := by decide +kernel
theorem dX12_init_118 : decode cX12_init 118 = .ok (.putfield 97, 3) := by decide +kernel
theorem dX12_init_121 : decode cX12_init 121 = .ok (.aload_n 0, 1) := by decide +kernel
theorem dX12_init_122 : decode cX12_init 122 = .ok (.sipush 256, 3) := by decide +kernel
theorem dX12_init_125 : decode cX12_init 125 = .ok (.newarray .int, 2) := by decide +kernel
theorem dX12_init_127 : decode cX12_init 127 = .ok (.putfield 100, 3) := by decide +kernel
theorem dX12_init_130 : decode cX12_init 130 = .ok (.aload_n 0, 1) := by decide +kernel
theorem dX12_init_131 : decode cX12_init 131 = .ok (.bipush 8, 2) := by decide +kernel
theorem dX12_init_133 : decode cX12_init 133 = .ok (.newarray .int, 2) := by decide +kernel
theorem dX12_init_135 : decode cX12_init 135 = .ok (.putfield 103, 3) := by decide +kernel
theorem dX12_init_138 : decode cX12_init 138 = .ok (.aload_n 0, 1) := by decide +kernel
theorem dX12_init_139 : decode cX12_init 139 = .ok (.bipush 64, 2) := by decide +kernel
theorem dX12_init_141 : decode cX12_init 141 = .ok (.newarray .int, 2) := by decide +kernel
theorem dX12_init_143 : decode cX12_init 143 = .ok (.putfield 106, 3) := by decide +kernel
theorem dX12_init_146 : decode cX12_init 146 = .ok (.aload_n 0, 1) := by decide +kernel
theorem dX12_init_147 : decode cX12_init 147 = .ok (.bipush 32, 2) := by decide +kernel
theorem dX12_init_149 : decode cX12_init 149 = .ok (.newarray .int, 2) := by decide +kernel
theorem dX12_init_151 : decode cX12_init 151 = .ok (.putfield 109, 3) := by decide +kernel
theorem dX12_init_154 : decode cX12_init 154 = .ok (.aload_n 0, 1) := by decide +kernel
theorem dX12_init_155 : decode cX12_init 155 = .ok (.bipush 8, 2) := by decide +kernel
theorem dX12_init_157 : decode cX12_init 157 = .ok (.newarray .long, 2) := by decide +kernel
theorem dX12_init_159 : decode cX12_init 159 = .ok (.putfield 112, 3) := by decide +kernel
theorem dX12_init_162 : decode cX12_init 162 = .ok (.aload_n 0, 1) := by decide +kernel
theorem dX12_init_163 : decode cX12_init 163 = .ok (.bipush 64, 2) := by decide +kernel
theorem dX12_init_165 : decode cX12_init 165 = .ok (.newarray .long, 2) := by decide +kernel
theorem dX12_init_167 : decode cX12_init 167 = .ok (.putfield 116, 3) := by decide +kernel
theorem dX12_init_170 : decode cX12_init 170 = .ok (.aload_n 0, 1) := by decide +kernel
theorem dX12_init_171 : decode cX12_init 171 = .ok (.bipush 64, 2) := by decide +kernel
theorem dX12_init_173 : decode cX12_init 173 = .ok (.newarray .int, 2) := by decide +kernel
theorem dX12_init_175 : decode cX12_init 175 = .ok (.putfield 119, 3) := by decide +kernel
theorem dX12_init_178 : decode cX12_init 178 = .ok (.aload_n 0, 1) := by decide +kernel
theorem dX12_init_179 : decode cX12_init 179 = .ok (.bipush 64, 2) := by decide +kernel
theorem dX12_init_181 : decode cX12_init 181 = .ok (.newarray .int, 2) := by decide +kernel
theorem dX12_init_183 : decode cX12_init 183 = .ok (.putfield 122, 3) := by decide +kernel
theorem dX12_init_186 : decode cX12_init 186 = .ok (.aload_n 0, 1) := by decide +kernel
theorem dX12_init_187 : decode cX12_init 187 = .ok (.bipush 64, 2) := by decide +kernel
theorem dX12_init_189 : decode cX12_init 189 = .ok (.newarray .int, 2) := by decide +kernel
theorem dX12_init_191 : decode cX12_init 191 = .ok (.putfield 125, 3) := by decide +kernel
theorem dX12_init_194 : decode cX12_init 194 = .ok (.aload_n 0, 1) := by decide +kernel
theorem dX12_init_195 : decode cX12_init 195 = .ok (.bipush 64, 2) := by decide +kernel
theorem dX12_init_197 : decode cX12_init 197 = .ok (.newarray .int, 2) := by decide +kernel
theorem dX12_init_199 : decode cX12_init 199 = .ok (.putfield 128, 3) := by decide +kernel
theorem dX12_init_202 : decode cX12_init 202 = .ok (.aload_n 0, 1) := by decide +kernel
theorem dX12_init_203 : decode cX12_init 203 = .ok (.bipush 64, 2) := by decide +kernel
theorem dX12_init_205 : decode cX12_init 205 = .ok (.newarray .int, 2) := by decide +kernel
theorem dX12_init_207 : decode cX12_init 207 = .ok (.putfield 131, 3) := by decide +kernel
theorem dX12_init_210 : decode cX12_init 210 = .ok (.aload_n 0, 1) := by decide +kernel
theorem dX12_init_211 : decode cX12_init 211 = .ok (.sipush 2100, 3) := by decide +kernel
theorem dX12_init_214 : decode cX12_init 214 = .ok (.newarray .int, 2) := by decide +kernel
theorem dX12_init_216 : decode cX12_init 216 = .ok (.putfield 134, 3) := by decide +kernel
theorem dX12_init_219 : decode cX12_init 219 = .ok (.aload_n 0, 1) := by decide +kernel
theorem dX12_init_220 : decode cX12_init 220 = .ok (.sipush 8192, 3) := by decide +kernel
theorem dX12_init_223 : decode cX12_init 223 = .ok (.newarray .boolean, 2) := by decide +kernel
theorem dX12_init_225 : decode cX12_init 225 = .ok (.putfield 137, 3) := by decide +kernel
theorem dX12_init_228 : decode cX12_init 228 = .ok (.aload_n 0, 1) := by decide +kernel
theorem dX12_init_229 : decode cX12_init 229 = .ok (.sipush 8192, 3) := by decide +kernel
theorem dX12_init_232 : decode cX12_init 232 = .ok (.newarray .int, 2) := by decide +kernel
theorem dX12_init_234 : decode cX12_init 234 = .ok (.putfield 141, 3) := by decide +kernel
theorem dX12_init_237 : decode cX12_init 237 = .ok (.aload_n 0, 1) := by decide +kernel
theorem dX12_init_238 : decode cX12_init 238 = .ok (.sipush 8192, 3) := by decide +kernel
theorem dX12_init_241 : decode cX12_init 241 = .ok (.newarray .int, 2) := by decide +kernel
theorem dX12_init_243 : decode cX12_init 243 = .ok (.putfield 144, 3) := by decide +kernel
theorem dX12_init_246 : decode cX12_init 246 = .ok (.aload_n 0, 1) := by decide +kernel
theorem dX12_init_247 : decode cX12_init 247 = .ok (.sipush 8192, 3) := by decide +kernel
theorem dX12_init_250 : decode cX12_init 250 = .ok (.newarray .int, 2) := by decide +kernel
theorem dX12_init_252 : decode cX12_init 252 = .ok (.putfield 147, 3) := by decide +kernel
theorem dX12_init_255 : decode cX12_init 255 = .ok (.aload_n 0, 1) := by decide +kernel
theorem dX12_init_256 : decode cX12_init 256 = .ok (.sipush 8000, 3) := by decide +kernel
theorem dX12_init_259 : decode cX12_init 259 = .ok (.newarray .boolean, 2) := by decide +kernel
theorem dX12_init_261 : decode cX12_init 261 = .ok (.putfield 150, 3) := by decide +kernel
theorem dX12_init_264 : decode cX12_init 264 = .ok (.aload_n 0, 1) := by decide +kernel
theorem dX12_init_265 : decode cX12_init 265 = .ok (.iconst 0, 1) := by decide +kernel
theorem dX12_init_266 : decode cX12_init 266 = .ok (.putfield 153, 3) := by decide +kernel
theorem dX12_init_269 : decode cX12_init 269 = .ok (.aload_n 0, 1) := by decide +kernel
theorem dX12_init_270 : decode cX12_init 270 = .ok (.aload_n 0, 1) := by decide +kernel
theorem dX12_init_271 : decode cX12_init 271 = .ok (.iconst 3, 1) := by decide +kernel
theorem dX12_init_272 : decode cX12_init 272 = .ok (.bipush (-2), 2) := by decide +kernel
theorem dX12_init_274 : decode cX12_init 274 = .ok (.bipush (-2), 2) := by decide +kernel
theorem dX12_init_276 : decode cX12_init 276 = .ok (.iconst 0, 1) := by decide +kernel
theorem dX12_init_277 : decode cX12_init 277 = .ok (.invokevirtual 156, 3) := by decide +kernel
theorem dX12_init_280 : decode cX12_init 280 = .ok (.putfield 160, 3) := by decide +kernel
theorem dX12_init_283 : decode cX12_init 283 = .ok (.return_, 1) := by decide +kernel
def c_X10 (a : Nat) (M : xMem) : xMem :=
  let M1 : xMem := xnew M 101 8
  let M2 : xMem := ((M1.1.1, xup M1.1.2 a 1 (some (M.1.1.length))), M1.2)
  let M3 : xMem := xnew M2 101 256
  let M4 : xMem := ((M3.1.1, xup M3.1.2 a 2 (some (M2.1.1.length))), M3.2)
  M4
theorem c_X10_sh (a : Nat) (M : xMem) : (c_X10 a M).1.1 = M.1.1 ++ [(101, 8), (101, 256)] := by
  simp [c_X10, xnew]
theorem c_X10_at {a : Nat} {M : xMem} {b : Nat} {q : Nat × Nat} (h : M.1.1[b]? = some q) : (c_X10 a M).1.1[b]? = some q := by
  rw [c_X10_sh, List.getElem?_append_left (List.getElem?_eq_some_iff.mp h).1, h]
theorem c_X10_len (a : Nat) (M : xMem) : (c_X10 a M).1.1.length = M.1.1.length + 2 := by
  rw [c_X10_sh]; simp
set_option maxHeartbeats 4000000 in
theorem C_X10 {a : Nat} {M : xMem} (ha : M.1.1[a]? = some (10, 3)) : xSp md_X10_init (1, 2, 264) [.ref a] M (fun v M' => v = none ∧ M' = c_X10 a M) := by
  refine xEntry (by decide) (Nat.le_of_ble_eq_true rfl) ?_
  refine x_lv (lv' := [(0, .ref a)]) [0] rfl ?_
  refine x_aload_n dX10_init_0 0 rfl ?_
  refine x_objInit dX10_init_1 wd_37 wd_30 wd_31 (Nat.le_of_ble_eq_true rfl) (Nat.le_of_ble_eq_true rfl) ?_
  refine x_aload_n dX10_init_4 0 rfl ?_
  refine x_bipush 8 dX10_init_5 (by decide) ?_
  refine x_newl (N := 8) rfl dX10_init_7 wd_56 (by decide) (by decide) (by decide) (by decide) (by decide) ?_
  refine x_putF (k := 1) cb_10 (by decide) dX10_init_9 wd_43 rfl rfl rfl rfl (fun _ => rfl) (fun _ => rfl) (by exact xnew_at (ha)) ?_
  refine x_aload_n dX10_init_12 0 rfl ?_
  refine x_sipush 256 dX10_init_13 (by decide) ?_
  refine x_newl (N := 256) rfl dX10_init_16 wd_56 (by decide) (by decide) (by decide) (by decide) (by decide) ?_
  refine x_putF (k := 2) cb_10 (by decide) dX10_init_18 wd_46 rfl rfl rfl rfl (fun _ => rfl) (fun _ => rfl) (by exact xnew_at (xnew_at (ha))) ?_
  exact x_vret rfl (Nat.le_of_ble_eq_true rfl) (Nat.le_of_ble_eq_true rfl) dX10_init_21 ⟨rfl, rfl⟩
def c_X2 (a : Nat) (M : xMem) (N : Nat) : xMem :=
  let M1 : xMem := xnew M 100 N
  let M2 : xMem := ((M1.1.1, xup M1.1.2 a 0 (some (M.1.1.length))), M1.2)
  M2
theorem c_X2_sh (a : Nat) (M : xMem) (N : Nat) : (c_X2 a M N).1.1 = M.1.1 ++ [(100, N)] := by
  simp [c_X2, xnew]
theorem c_X2_at {a : Nat} {M : xMem} {N : Nat} {b : Nat} {q : Nat × Nat} (h : M.1.1[b]? = some q) : (c_X2 a M N).1.1[b]? = some q := by
  rw [c_X2_sh, List.getElem?_append_left (List.getElem?_eq_some_iff.mp h).1, h]
theorem c_X2_len (a : Nat) (M : xMem) (N : Nat) : (c_X2 a M N).1.1.length = M.1.1.length + 1 := by
  rw [c_X2_sh]; simp
set_option maxHeartbeats 4000000 in
theorem C_X2 {a : Nat} {M : xMem} {room : Int32} {N : Nat} (hN0 : 0 ≤ jmax room 0) (hN : (jmax room 0).toNatClampNeg = N) (hNb : N * componentBytes .int ≤ 536870912) (ha : M.1.1[a]? = some (2, 2)) : xSp md_X2_init (1, 1, N) [.ref a, .int room] M (fun v M' => v = none ∧ M' = c_X2 a M N) := by
  refine xEntry (by decide) (Nat.le_of_ble_eq_true rfl) ?_
  refine x_lv (lv' := [(0, .ref a), (1, .int room)]) [0, 1] rfl ?_
  refine x_aload_n dX2_init_0 0 rfl ?_
  refine x_objInit dX2_init_1 wd_89 wd_30 wd_31 (Nat.le_of_ble_eq_true rfl) (Nat.le_of_ble_eq_true rfl) ?_
  refine x_aload_n dX2_init_4 0 rfl ?_
  refine x_iload_n dX2_init_5 1 rfl ?_
  refine x_iconst 0 dX2_init_6 (by decide) ?_
  refine x_max dX2_init_7 mm_RX2_7.1 mm_RX2_7.2.1 mm_RX2_7.2.2.1 mm_RX2_7.2.2.2 (Nat.le_of_ble_eq_true rfl) (Nat.le_of_ble_eq_true rfl) (Nat.zero_le _) (Nat.zero_le _) ?_
  refine x_newi (N := N) (t := 100) (ti := 0) rfl rfl (fun C h => by cases h) (fun _ => rfl) (by decide) (by decide) (by decide) dX2_init_10 wd_111 hN0 hN hNb (Nat.le_refl _) (by simp) ?_
  refine x_putF (k := 0) cb_2 (by decide) dX2_init_12 wd_93 rfl rfl rfl rfl (fun _ => rfl) (fun _ => rfl) (by exact xnew_at (ha)) ?_
  exact x_vret rfl (Nat.le_of_ble_eq_true rfl) (by simp) dX2_init_15 ⟨rfl, rfl⟩
def c_X3 (a : Nat) (M : xMem) : xMem :=
  let M1 : xMem := xnew M 100 2000
  let M2 : xMem := ((M1.1.1, xup M1.1.2 a 0 (some (M.1.1.length))), M1.2)
  let M3 : xMem := xnew M2 104 2000
  let M4 : xMem := ((M3.1.1, xup M3.1.2 a 1 (some (M2.1.1.length))), M3.2)
  let M5 : xMem := xnew M4 101 2000
  let M6 : xMem := ((M5.1.1, xup M5.1.2 a 2 (some (M4.1.1.length))), M5.2)
  let M7 : xMem := xnew M6 101 2000
  let M8 : xMem := ((M7.1.1, xup M7.1.2 a 3 (some (M6.1.1.length))), M7.2)
  M8
theorem c_X3_sh (a : Nat) (M : xMem) : (c_X3 a M).1.1 = M.1.1 ++ [(100, 2000), (104, 2000), (101, 2000), (101, 2000)] := by
  simp [c_X3, xnew]
theorem c_X3_at {a : Nat} {M : xMem} {b : Nat} {q : Nat × Nat} (h : M.1.1[b]? = some q) : (c_X3 a M).1.1[b]? = some q := by
  rw [c_X3_sh, List.getElem?_append_left (List.getElem?_eq_some_iff.mp h).1, h]
theorem c_X3_len (a : Nat) (M : xMem) : (c_X3 a M).1.1.length = M.1.1.length + 4 := by
  rw [c_X3_sh]; simp
set_option maxHeartbeats 4000000 in
theorem C_X3 {a : Nat} {M : xMem} (ha : M.1.1[a]? = some (3, 6)) : xSp md_X3_init (1, 4, 8000) [.ref a] M (fun v M' => v = none ∧ M' = c_X3 a M) := by
  refine xEntry (by decide) (Nat.le_of_ble_eq_true rfl) ?_
  refine x_lv (lv' := [(0, .ref a)]) [0] rfl ?_
  refine x_aload_n dX3_init_0 0 rfl ?_
  refine x_objInit dX3_init_1 wd_212 wd_30 wd_31 (Nat.le_of_ble_eq_true rfl) (Nat.le_of_ble_eq_true rfl) ?_
  refine x_aload_n dX3_init_4 0 rfl ?_
  refine x_sipush 2000 dX3_init_5 (by decide) ?_
  refine x_newi (N := 2000) (t := 100) (ti := 0) rfl rfl (fun C h => by cases h) (fun _ => rfl) (by decide) (by decide) (by decide) dX3_init_8 wd_111 (by decide) (by decide) (by decide) (by decide) (by decide) ?_
  refine x_putF (k := 0) cb_3 (by decide) dX3_init_10 wd_213 rfl rfl rfl rfl (fun _ => rfl) (fun _ => rfl) (by exact xnew_at (ha)) ?_
  refine x_aload_n dX3_init_13 0 rfl ?_
  refine x_sipush 2000 dX3_init_14 (by decide) ?_
  refine x_newi (N := 2000) (t := 104) (ti := 4) rfl rfl (fun C h => by cases h) (fun _ => rfl) (by decide) (by decide) (by decide) dX3_init_17 wd_183 (by decide) (by decide) (by decide) (by decide) (by decide) ?_
  refine x_putF (k := 1) cb_3 (by decide) dX3_init_19 wd_214 rfl rfl rfl rfl (fun _ => rfl) (fun _ => rfl) (by exact xnew_at (xnew_at (ha))) ?_
  refine x_aload_n dX3_init_22 0 rfl ?_
  refine x_sipush 2000 dX3_init_23 (by decide) ?_
  refine x_newl (N := 2000) rfl dX3_init_26 wd_56 (by decide) (by decide) (by decide) (by decide) (by decide) ?_
  refine x_putF (k := 2) cb_3 (by decide) dX3_init_28 wd_215 rfl rfl rfl rfl (fun _ => rfl) (fun _ => rfl) (by exact xnew_at (xnew_at (xnew_at (ha)))) ?_
  refine x_aload_n dX3_init_31 0 rfl ?_
  refine x_sipush 2000 dX3_init_32 (by decide) ?_
  refine x_newl (N := 2000) rfl dX3_init_35 wd_56 (by decide) (by decide) (by decide) (by decide) (by decide) ?_
  refine x_putF (k := 3) cb_3 (by decide) dX3_init_37 wd_216 rfl rfl rfl rfl (fun _ => rfl) (fun _ => rfl) (by exact xnew_at (xnew_at (xnew_at (xnew_at (ha))))) ?_
  exact x_vret rfl (Nat.le_of_ble_eq_true rfl) (Nat.le_of_ble_eq_true rfl) dX3_init_40 ⟨rfl, rfl⟩
def c_X4 (a : Nat) (M : xMem) : xMem :=
  let M1 : xMem := xnew M 100 64
  let M2 : xMem := ((M1.1.1, xup M1.1.2 a 0 (some (M.1.1.length))), M1.2)
  let M3 : xMem := xnew M2 101 256
  let M4 : xMem := ((M3.1.1, xup M3.1.2 a 1 (some (M2.1.1.length))), M3.2)
  let M5 : xMem := xnew M4 100 64
  let M6 : xMem := ((M5.1.1, xup M5.1.2 a 2 (some (M4.1.1.length))), M5.2)
  let M7 : xMem := xnew M6 100 64
  let M8 : xMem := ((M7.1.1, xup M7.1.2 a 3 (some (M6.1.1.length))), M7.2)
  M8
theorem c_X4_sh (a : Nat) (M : xMem) : (c_X4 a M).1.1 = M.1.1 ++ [(100, 64), (101, 256), (100, 64), (100, 64)] := by
  simp [c_X4, xnew]
theorem c_X4_at {a : Nat} {M : xMem} {b : Nat} {q : Nat × Nat} (h : M.1.1[b]? = some q) : (c_X4 a M).1.1[b]? = some q := by
  rw [c_X4_sh, List.getElem?_append_left (List.getElem?_eq_some_iff.mp h).1, h]
theorem c_X4_len (a : Nat) (M : xMem) : (c_X4 a M).1.1.length = M.1.1.length + 4 := by
  rw [c_X4_sh]; simp
set_option maxHeartbeats 4000000 in
theorem C_X4 {a : Nat} {M : xMem} (ha : M.1.1[a]? = some (4, 4)) : xSp md_X4_init (1, 4, 448) [.ref a] M (fun v M' => v = none ∧ M' = c_X4 a M) := by
  refine xEntry (by decide) (Nat.le_of_ble_eq_true rfl) ?_
  refine x_lv (lv' := [(0, .ref a)]) [0] rfl ?_
  refine x_aload_n dX4_init_0 0 rfl ?_
  refine x_objInit dX4_init_1 wd_237 wd_30 wd_31 (Nat.le_of_ble_eq_true rfl) (Nat.le_of_ble_eq_true rfl) ?_
  refine x_aload_n dX4_init_4 0 rfl ?_
  refine x_bipush 64 dX4_init_5 (by decide) ?_
  refine x_newi (N := 64) (t := 100) (ti := 0) rfl rfl (fun C h => by cases h) (fun _ => rfl) (by decide) (by decide) (by decide) dX4_init_7 wd_111 (by decide) (by decide) (by decide) (by decide) (by decide) ?_
  refine x_putF (k := 0) cb_4 (by decide) dX4_init_9 wd_238 rfl rfl rfl rfl (fun _ => rfl) (fun _ => rfl) (by exact xnew_at (ha)) ?_
  refine x_aload_n dX4_init_12 0 rfl ?_
  refine x_sipush 256 dX4_init_13 (by decide) ?_
  refine x_newl (N := 256) rfl dX4_init_16 wd_56 (by decide) (by decide) (by decide) (by decide) (by decide) ?_
  refine x_putF (k := 1) cb_4 (by decide) dX4_init_18 wd_239 rfl rfl rfl rfl (fun _ => rfl) (fun _ => rfl) (by exact xnew_at (xnew_at (ha))) ?_
  refine x_aload_n dX4_init_21 0 rfl ?_
  refine x_bipush 64 dX4_init_22 (by decide) ?_
  refine x_newi (N := 64) (t := 100) (ti := 0) rfl rfl (fun C h => by cases h) (fun _ => rfl) (by decide) (by decide) (by decide) dX4_init_24 wd_111 (by decide) (by decide) (by decide) (by decide) (by decide) ?_
  refine x_putF (k := 2) cb_4 (by decide) dX4_init_26 wd_241 rfl rfl rfl rfl (fun _ => rfl) (fun _ => rfl) (by exact xnew_at (xnew_at (xnew_at (ha)))) ?_
  refine x_aload_n dX4_init_29 0 rfl ?_
  refine x_bipush 64 dX4_init_30 (by decide) ?_
  refine x_newi (N := 64) (t := 100) (ti := 0) rfl rfl (fun C h => by cases h) (fun _ => rfl) (by decide) (by decide) (by decide) dX4_init_32 wd_111 (by decide) (by decide) (by decide) (by decide) (by decide) ?_
  refine x_putF (k := 3) cb_4 (by decide) dX4_init_34 wd_242 rfl rfl rfl rfl (fun _ => rfl) (fun _ => rfl) (by exact xnew_at (xnew_at (xnew_at (xnew_at (ha))))) ?_
  exact x_vret rfl (Nat.le_of_ble_eq_true rfl) (Nat.le_of_ble_eq_true rfl) dX4_init_37 ⟨rfl, rfl⟩
def c_X7 (a : Nat) (M : xMem) : xMem :=
  let M1 : xMem := xnew M 100 2000
  let M2 : xMem := ((M1.1.1, xup M1.1.2 a 0 (some (M.1.1.length))), M1.2)
  let M3 : xMem := xnew M2 100 150
  let M4 : xMem := ((M3.1.1, xup M3.1.2 a 1 (some (M2.1.1.length))), M3.2)
  let M5 : xMem := xnew M4 2 2
  let M6 : xMem := c_X2 (M4.1.1.length) M5 2000
  let M7 : xMem := ((M6.1.1, xup M6.1.2 a 2 (some (M4.1.1.length))), M6.2)
  M7
theorem c_X7_sh (a : Nat) (M : xMem) : (c_X7 a M).1.1 = M.1.1 ++ [(100, 2000), (100, 150), (2, 2), (100, 2000)] := by
  simp [c_X7, xnew, c_X2_sh]
theorem c_X7_at {a : Nat} {M : xMem} {b : Nat} {q : Nat × Nat} (h : M.1.1[b]? = some q) : (c_X7 a M).1.1[b]? = some q := by
  rw [c_X7_sh, List.getElem?_append_left (List.getElem?_eq_some_iff.mp h).1, h]
theorem c_X7_len (a : Nat) (M : xMem) : (c_X7 a M).1.1.length = M.1.1.length + 4 := by
  rw [c_X7_sh]; simp
set_option maxHeartbeats 4000000 in
theorem C_X7 {a : Nat} {M : xMem} (ha : M.1.1[a]? = some (7, 5)) : xSp md_X7_init (2, 4, 4152) [.ref a] M (fun v M' => v = none ∧ M' = c_X7 a M) := by
  refine xEntry (by decide) (Nat.le_of_ble_eq_true rfl) ?_
  refine x_lv (lv' := [(0, .ref a)]) [0] rfl ?_
  refine x_aload_n dX7_init_0 0 rfl ?_
  refine x_objInit dX7_init_1 wd_257 wd_30 wd_31 (Nat.le_of_ble_eq_true rfl) (Nat.le_of_ble_eq_true rfl) ?_
  refine x_aload_n dX7_init_4 0 rfl ?_
  refine x_sipush 2000 dX7_init_5 (by decide) ?_
  refine x_newi (N := 2000) (t := 100) (ti := 0) rfl rfl (fun C h => by cases h) (fun _ => rfl) (by decide) (by decide) (by decide) dX7_init_8 wd_111 (by decide) (by decide) (by decide) (by decide) (by decide) ?_
  refine x_putF (k := 0) cb_7 (by decide) dX7_init_10 wd_260 rfl rfl rfl rfl (fun _ => rfl) (fun _ => rfl) (by exact xnew_at (ha)) ?_
  refine x_aload_n dX7_init_13 0 rfl ?_
  refine x_sipush 150 dX7_init_14 (by decide) ?_
  refine x_newi (N := 150) (t := 100) (ti := 0) rfl rfl (fun C h => by cases h) (fun _ => rfl) (by decide) (by decide) (by decide) dX7_init_17 wd_111 (by decide) (by decide) (by decide) (by decide) (by decide) ?_
  refine x_putF (k := 1) cb_7 (by decide) dX7_init_19 wd_261 rfl rfl rfl rfl (fun _ => rfl) (fun _ => rfl) (by exact xnew_at (xnew_at (ha))) ?_
  refine x_aload_n dX7_init_22 0 rfl ?_
  refine x_new cb_2 dX7_init_23 wd_258 wd_85 wd_5 (by decide +kernel) (by decide) (by decide) ?_
  refine x_dup dX7_init_26 rfl ?_
  refine x_sipush 2000 dX7_init_27 (by decide) ?_
  refine x_callI (B' := (1, 1, 2000)) (As := [.int 2000]) cw_X2_init rfl rfl dX7_init_30 wd_259 wd_87 rfl (Nat.le_of_ble_eq_true rfl) (by decide) (by decide) (by decide) (C_X2 (room := 2000) (N := 2000) (by decide) (by decide) (by decide) (xnew_last)) ?_ ?_
  · rintro v M' ⟨rfl, rfl⟩; exact c_X2_len _ _ _
  rintro v M' ⟨rfl, rfl⟩
  refine x_putF (k := 2) cb_7 (by decide) dX7_init_33 wd_262 rfl rfl rfl rfl (fun _ => rfl) (fun _ => rfl) (by exact c_X2_at (a := 0) (xnew_at (xnew_at (xnew_at (ha))))) ?_
  exact x_vret rfl (Nat.le_of_ble_eq_true rfl) (Nat.le_of_ble_eq_true rfl) dX7_init_36 ⟨rfl, rfl⟩
def c_X8 (a : Nat) (M : xMem) : xMem :=
  let M1 : xMem := xnew M 100 2400
  let M2 : xMem := ((M1.1.1, xup M1.1.2 a 0 (some (M.1.1.length))), M1.2)
  let M3 : xMem := xnew M2 100 2400
  let M4 : xMem := ((M3.1.1, xup M3.1.2 a 1 (some (M2.1.1.length))), M3.2)
  let M5 : xMem := xnew M4 100 2400
  let M6 : xMem := ((M5.1.1, xup M5.1.2 a 2 (some (M4.1.1.length))), M5.2)
  let M7 : xMem := xnew M6 100 2400
  let M8 : xMem := ((M7.1.1, xup M7.1.2 a 3 (some (M6.1.1.length))), M7.2)
  let M9 : xMem := xnew M8 100 13
  let M10 : xMem := ((M9.1.1, xup M9.1.2 a 4 (some (M8.1.1.length))), M9.2)
  let M11 : xMem := xnew M10 100 4096
  let M12 : xMem := ((M11.1.1, xup M11.1.2 a 5 (some (M10.1.1.length))), M11.2)
  let M13 : xMem := xnew M12 100 2000
  let M14 : xMem := ((M13.1.1, xup M13.1.2 a 6 (some (M12.1.1.length))), M13.2)
  M14
theorem c_X8_sh (a : Nat) (M : xMem) : (c_X8 a M).1.1 = M.1.1 ++ [(100, 2400), (100, 2400), (100, 2400), (100, 2400), (100, 13), (100, 4096), (100, 2000)] := by
  simp [c_X8, xnew]
theorem c_X8_at {a : Nat} {M : xMem} {b : Nat} {q : Nat × Nat} (h : M.1.1[b]? = some q) : (c_X8 a M).1.1[b]? = some q := by
  rw [c_X8_sh, List.getElem?_append_left (List.getElem?_eq_some_iff.mp h).1, h]
theorem c_X8_len (a : Nat) (M : xMem) : (c_X8 a M).1.1.length = M.1.1.length + 7 := by
  rw [c_X8_sh]; simp
set_option maxHeartbeats 4000000 in
theorem C_X8 {a : Nat} {M : xMem} (ha : M.1.1[a]? = some (8, 10)) : xSp md_X8_init (1, 7, 15709) [.ref a] M (fun v M' => v = none ∧ M' = c_X8 a M) := by
  refine xEntry (by decide) (Nat.le_of_ble_eq_true rfl) ?_
  refine x_lv (lv' := [(0, .ref a)]) [0] rfl ?_
  refine x_aload_n dX8_init_0 0 rfl ?_
  refine x_objInit dX8_init_1 wd_287 wd_30 wd_31 (Nat.le_of_ble_eq_true rfl) (Nat.le_of_ble_eq_true rfl) ?_
  refine x_aload_n dX8_init_4 0 rfl ?_
  refine x_sipush 2400 dX8_init_5 (by decide) ?_
  refine x_newi (N := 2400) (t := 100) (ti := 0) rfl rfl (fun C h => by cases h) (fun _ => rfl) (by decide) (by decide) (by decide) dX8_init_8 wd_111 (by decide) (by decide) (by decide) (by decide) (by decide) ?_
  refine x_putF (k := 0) cb_8 (by decide) dX8_init_10 wd_288 rfl rfl rfl rfl (fun _ => rfl) (fun _ => rfl) (by exact xnew_at (ha)) ?_
  refine x_aload_n dX8_init_13 0 rfl ?_
  refine x_sipush 2400 dX8_init_14 (by decide) ?_
  refine x_newi (N := 2400) (t := 100) (ti := 0) rfl rfl (fun C h => by cases h) (fun _ => rfl) (by decide) (by decide) (by decide) dX8_init_17 wd_111 (by decide) (by decide) (by decide) (by decide) (by decide) ?_
  refine x_putF (k := 1) cb_8 (by decide) dX8_init_19 wd_290 rfl rfl rfl rfl (fun _ => rfl) (fun _ => rfl) (by exact xnew_at (xnew_at (ha))) ?_
  refine x_aload_n dX8_init_22 0 rfl ?_
  refine x_sipush 2400 dX8_init_23 (by decide) ?_
  refine x_newi (N := 2400) (t := 100) (ti := 0) rfl rfl (fun C h => by cases h) (fun _ => rfl) (by decide) (by decide) (by decide) dX8_init_26 wd_111 (by decide) (by decide) (by decide) (by decide) (by decide) ?_
  refine x_putF (k := 2) cb_8 (by decide) dX8_init_28 wd_292 rfl rfl rfl rfl (fun _ => rfl) (fun _ => rfl) (by exact xnew_at (xnew_at (xnew_at (ha)))) ?_
  refine x_aload_n dX8_init_31 0 rfl ?_
  refine x_sipush 2400 dX8_init_32 (by decide) ?_
  refine x_newi (N := 2400) (t := 100) (ti := 0) rfl rfl (fun C h => by cases h) (fun _ => rfl) (by decide) (by decide) (by decide) dX8_init_35 wd_111 (by decide) (by decide) (by decide) (by decide) (by decide) ?_
  refine x_putF (k := 3) cb_8 (by decide) dX8_init_37 wd_294 rfl rfl rfl rfl (fun _ => rfl) (fun _ => rfl) (by exact xnew_at (xnew_at (xnew_at (xnew_at (ha))))) ?_
  refine x_aload_n dX8_init_40 0 rfl ?_
  refine x_bipush 13 dX8_init_41 (by decide) ?_
  refine x_newi (N := 13) (t := 100) (ti := 0) rfl rfl (fun C h => by cases h) (fun _ => rfl) (by decide) (by decide) (by decide) dX8_init_43 wd_111 (by decide) (by decide) (by decide) (by decide) (by decide) ?_
  refine x_putF (k := 4) cb_8 (by decide) dX8_init_45 wd_296 rfl rfl rfl rfl (fun _ => rfl) (fun _ => rfl) (by exact xnew_at (xnew_at (xnew_at (xnew_at (xnew_at (ha)))))) ?_
  refine x_aload_n dX8_init_48 0 rfl ?_
  refine x_sipush 4096 dX8_init_49 (by decide) ?_
  refine x_newi (N := 4096) (t := 100) (ti := 0) rfl rfl (fun C h => by cases h) (fun _ => rfl) (by decide) (by decide) (by decide) dX8_init_52 wd_111 (by decide) (by decide) (by decide) (by decide) (by decide) ?_
  refine x_putF (k := 5) cb_8 (by decide) dX8_init_54 wd_298 rfl rfl rfl rfl (fun _ => rfl) (fun _ => rfl) (by exact xnew_at (xnew_at (xnew_at (xnew_at (xnew_at (xnew_at (ha))))))) ?_
  refine x_aload_n dX8_init_57 0 rfl ?_
  refine x_sipush 2000 dX8_init_58 (by decide) ?_
  refine x_newi (N := 2000) (t := 100) (ti := 0) rfl rfl (fun C h => by cases h) (fun _ => rfl) (by decide) (by decide) (by decide) dX8_init_61 wd_111 (by decide) (by decide) (by decide) (by decide) (by decide) ?_
  refine x_putF (k := 6) cb_8 (by decide) dX8_init_63 wd_299 rfl rfl rfl rfl (fun _ => rfl) (fun _ => rfl) (by exact xnew_at (xnew_at (xnew_at (xnew_at (xnew_at (xnew_at (xnew_at (ha)))))))) ?_
  exact x_vret rfl (Nat.le_of_ble_eq_true rfl) (Nat.le_of_ble_eq_true rfl) dX8_init_66 ⟨rfl, rfl⟩
def c_X9 (a : Nat) (M : xMem) : xMem :=
  let M1 : xMem := xnew M 102 4000
  let M2 : xMem := ((M1.1.1, xup M1.1.2 a 0 (some (M.1.1.length))), M1.2)
  let M3 : xMem := xnew M2 100 2000
  let M4 : xMem := ((M3.1.1, xup M3.1.2 a 2 (some (M2.1.1.length))), M3.2)
  M4
theorem c_X9_sh (a : Nat) (M : xMem) : (c_X9 a M).1.1 = M.1.1 ++ [(102, 4000), (100, 2000)] := by
  simp [c_X9, xnew]
theorem c_X9_at {a : Nat} {M : xMem} {b : Nat} {q : Nat × Nat} (h : M.1.1[b]? = some q) : (c_X9 a M).1.1[b]? = some q := by
  rw [c_X9_sh, List.getElem?_append_left (List.getElem?_eq_some_iff.mp h).1, h]
theorem c_X9_len (a : Nat) (M : xMem) : (c_X9 a M).1.1.length = M.1.1.length + 2 := by
  rw [c_X9_sh]; simp
set_option maxHeartbeats 4000000 in
theorem C_X9 {a : Nat} {M : xMem} (ha : M.1.1[a]? = some (9, 4)) : xSp md_X9_init (1, 2, 6000) [.ref a] M (fun v M' => v = none ∧ M' = c_X9 a M) := by
  refine xEntry (by decide) (Nat.le_of_ble_eq_true rfl) ?_
  refine x_lv (lv' := [(0, .ref a)]) [0] rfl ?_
  refine x_aload_n dX9_init_0 0 rfl ?_
  refine x_objInit dX9_init_1 wd_191 wd_30 wd_31 (Nat.le_of_ble_eq_true rfl) (Nat.le_of_ble_eq_true rfl) ?_
  refine x_aload_n dX9_init_4 0 rfl ?_
  refine x_sipush 4000 dX9_init_5 (by decide) ?_
  refine x_newi (N := 4000) (t := 102) (ti := 2) rfl rfl (fun C h => by cases h) (fun _ => rfl) (by decide) (by decide) (by decide) dX9_init_8 wd_182 (by decide) (by decide) (by decide) (by decide) (by decide) ?_
  refine x_putF (k := 0) cb_9 (by decide) dX9_init_10 wd_192 rfl rfl rfl rfl (fun _ => rfl) (fun _ => rfl) (by exact xnew_at (ha)) ?_
  refine x_aload_n dX9_init_13 0 rfl ?_
  refine x_sipush 2000 dX9_init_14 (by decide) ?_
  refine x_newi (N := 2000) (t := 100) (ti := 0) rfl rfl (fun C h => by cases h) (fun _ => rfl) (by decide) (by decide) (by decide) dX9_init_17 wd_111 (by decide) (by decide) (by decide) (by decide) (by decide) ?_
  refine x_putF (k := 2) cb_9 (by decide) dX9_init_19 wd_196 rfl rfl rfl rfl (fun _ => rfl) (fun _ => rfl) (by exact xnew_at (xnew_at (ha))) ?_
  exact x_vret rfl (Nat.le_of_ble_eq_true rfl) (Nat.le_of_ble_eq_true rfl) dX9_init_22 ⟨rfl, rfl⟩
def c_X6 (a : Nat) (M : xMem) : xMem :=
  let M1 : xMem := xnew M 102 200
  let M2 : xMem := ((M1.1.1, xup M1.1.2 a 0 (some (M.1.1.length))), M1.2)
  let M3 : xMem := xnew M2 2 2
  let M4 : xMem := c_X2 (M2.1.1.length) M3 150
  let M5 : xMem := ((M4.1.1, xup M4.1.2 a 2 (some (M2.1.1.length))), M4.2)
  let M6 : xMem := xnew M5 102 16
  let M7 : xMem := ((M6.1.1, xup M6.1.2 a 3 (some (M5.1.1.length))), M6.2)
  let M8 : xMem := xnew M7 100 16
  let M9 : xMem := ((M8.1.1, xup M8.1.2 a 4 (some (M7.1.1.length))), M8.2)
  let M10 : xMem := xnew M9 100 16
  let M11 : xMem := ((M10.1.1, xup M10.1.2 a 5 (some (M9.1.1.length))), M10.2)
  let M12 : xMem := xnew M11 100 16
  let M13 : xMem := ((M12.1.1, xup M12.1.2 a 6 (some (M11.1.1.length))), M12.2)
  let M14 : xMem := xnew M13 100 16
  let M15 : xMem := ((M14.1.1, xup M14.1.2 a 7 (some (M13.1.1.length))), M14.2)
  let M16 : xMem := xnew M15 104 16
  let M17 : xMem := ((M16.1.1, xup M16.1.2 a 8 (some (M15.1.1.length))), M16.2)
  M17
theorem c_X6_sh (a : Nat) (M : xMem) : (c_X6 a M).1.1 = M.1.1 ++ [(102, 200), (2, 2), (100, 150), (102, 16), (100, 16), (100, 16), (100, 16), (100, 16), (104, 16)] := by
  simp [c_X6, xnew, c_X2_sh]
theorem c_X6_at {a : Nat} {M : xMem} {b : Nat} {q : Nat × Nat} (h : M.1.1[b]? = some q) : (c_X6 a M).1.1[b]? = some q := by
  rw [c_X6_sh, List.getElem?_append_left (List.getElem?_eq_some_iff.mp h).1, h]
theorem c_X6_len (a : Nat) (M : xMem) : (c_X6 a M).1.1.length = M.1.1.length + 9 := by
  rw [c_X6_sh]; simp
set_option maxHeartbeats 4000000 in
theorem C_X6 {a : Nat} {M : xMem} (ha : M.1.1[a]? = some (6, 13)) : xSp md_X6_init (2, 9, 448) [.ref a] M (fun v M' => v = none ∧ M' = c_X6 a M) := by
  refine xEntry (by decide) (Nat.le_of_ble_eq_true rfl) ?_
  refine x_lv (lv' := [(0, .ref a)]) [0] rfl ?_
  refine x_aload_n dX6_init_0 0 rfl ?_
  refine x_objInit dX6_init_1 wd_138 wd_30 wd_31 (Nat.le_of_ble_eq_true rfl) (Nat.le_of_ble_eq_true rfl) ?_
  refine x_aload_n dX6_init_4 0 rfl ?_
  refine x_sipush 200 dX6_init_5 (by decide) ?_
  refine x_newi (N := 200) (t := 102) (ti := 2) rfl rfl (fun C h => by cases h) (fun _ => rfl) (by decide) (by decide) (by decide) dX6_init_8 wd_182 (by decide) (by decide) (by decide) (by decide) (by decide) ?_
  refine x_putF (k := 0) cb_6 (by decide) dX6_init_10 wd_141 rfl rfl rfl rfl (fun _ => rfl) (fun _ => rfl) (by exact xnew_at (ha)) ?_
  refine x_aload_n dX6_init_13 0 rfl ?_
  refine x_new cb_2 dX6_init_14 wd_139 wd_85 wd_5 (by decide +kernel) (by decide) (by decide) ?_
  refine x_dup dX6_init_17 rfl ?_
  refine x_sipush 150 dX6_init_18 (by decide) ?_
  refine x_callI (B' := (1, 1, 150)) (As := [.int 150]) cw_X2_init rfl rfl dX6_init_21 wd_140 wd_87 rfl (Nat.le_of_ble_eq_true rfl) (by decide) (by decide) (by decide) (C_X2 (room := 150) (N := 150) (by decide) (by decide) (by decide) (xnew_last)) ?_ ?_
  · rintro v M' ⟨rfl, rfl⟩; exact c_X2_len _ _ _
  rintro v M' ⟨rfl, rfl⟩
  refine x_putF (k := 2) cb_6 (by decide) dX6_init_24 wd_144 rfl rfl rfl rfl (fun _ => rfl) (fun _ => rfl) (by exact c_X2_at (a := 0) (xnew_at (xnew_at (ha)))) ?_
  refine x_aload_n dX6_init_27 0 rfl ?_
  refine x_bipush 16 dX6_init_28 (by decide) ?_
  refine x_newi (N := 16) (t := 102) (ti := 2) rfl rfl (fun C h => by cases h) (fun _ => rfl) (by decide) (by decide) (by decide) dX6_init_30 wd_182 (by decide) (by decide) (by decide) (by decide) (by decide) ?_
  refine x_putF (k := 3) cb_6 (by decide) dX6_init_32 wd_145 rfl rfl rfl rfl (fun _ => rfl) (fun _ => rfl) (by exact xnew_at (c_X2_at (a := 0) (xnew_at (xnew_at (ha))))) ?_
  refine x_aload_n dX6_init_35 0 rfl ?_
  refine x_bipush 16 dX6_init_36 (by decide) ?_
  refine x_newi (N := 16) (t := 100) (ti := 0) rfl rfl (fun C h => by cases h) (fun _ => rfl) (by decide) (by decide) (by decide) dX6_init_38 wd_111 (by decide) (by decide) (by decide) (by decide) (by decide) ?_
  refine x_putF (k := 4) cb_6 (by decide) dX6_init_40 wd_146 rfl rfl rfl rfl (fun _ => rfl) (fun _ => rfl) (by exact xnew_at (xnew_at (c_X2_at (a := 0) (xnew_at (xnew_at (ha)))))) ?_
  refine x_aload_n dX6_init_43 0 rfl ?_
  refine x_bipush 16 dX6_init_44 (by decide) ?_
  refine x_newi (N := 16) (t := 100) (ti := 0) rfl rfl (fun C h => by cases h) (fun _ => rfl) (by decide) (by decide) (by decide) dX6_init_46 wd_111 (by decide) (by decide) (by decide) (by decide) (by decide) ?_
  refine x_putF (k := 5) cb_6 (by decide) dX6_init_48 wd_147 rfl rfl rfl rfl (fun _ => rfl) (fun _ => rfl) (by exact xnew_at (xnew_at (xnew_at (c_X2_at (a := 0) (xnew_at (xnew_at (ha))))))) ?_
  refine x_aload_n dX6_init_51 0 rfl ?_
  refine x_bipush 16 dX6_init_52 (by decide) ?_
  refine x_newi (N := 16) (t := 100) (ti := 0) rfl rfl (fun C h => by cases h) (fun _ => rfl) (by decide) (by decide) (by decide) dX6_init_54 wd_111 (by decide) (by decide) (by decide) (by decide) (by decide) ?_
  refine x_putF (k := 6) cb_6 (by decide) dX6_init_56 wd_148 rfl rfl rfl rfl (fun _ => rfl) (fun _ => rfl) (by exact xnew_at (xnew_at (xnew_at (xnew_at (c_X2_at (a := 0) (xnew_at (xnew_at (ha)))))))) ?_
  refine x_aload_n dX6_init_59 0 rfl ?_
  refine x_bipush 16 dX6_init_60 (by decide) ?_
  refine x_newi (N := 16) (t := 100) (ti := 0) rfl rfl (fun C h => by cases h) (fun _ => rfl) (by decide) (by decide) (by decide) dX6_init_62 wd_111 (by decide) (by decide) (by decide) (by decide) (by decide) ?_
  refine x_putF (k := 7) cb_6 (by decide) dX6_init_64 wd_149 rfl rfl rfl rfl (fun _ => rfl) (fun _ => rfl) (by exact xnew_at (xnew_at (xnew_at (xnew_at (xnew_at (c_X2_at (a := 0) (xnew_at (xnew_at (ha))))))))) ?_
  refine x_aload_n dX6_init_67 0 rfl ?_
  refine x_bipush 16 dX6_init_68 (by decide) ?_
  refine x_newi (N := 16) (t := 104) (ti := 4) rfl rfl (fun C h => by cases h) (fun _ => rfl) (by decide) (by decide) (by decide) dX6_init_70 wd_183 (by decide) (by decide) (by decide) (by decide) (by decide) ?_
  refine x_putF (k := 8) cb_6 (by decide) dX6_init_72 wd_150 rfl rfl rfl rfl (fun _ => rfl) (fun _ => rfl) (by exact xnew_at (xnew_at (xnew_at (xnew_at (xnew_at (xnew_at (c_X2_at (a := 0) (xnew_at (xnew_at (ha)))))))))) ?_
  exact x_vret rfl (Nat.le_of_ble_eq_true rfl) (Nat.le_of_ble_eq_true rfl) dX6_init_75 ⟨rfl, rfl⟩
def c_X0 (a : Nat) (M : xMem) : xMem :=
  let M1 : xMem := xnew M 100 6
  let M2 : xMem := ((M1.1.1, xup M1.1.2 a 0 (some (M.1.1.length))), M1.2)
  let M3 : xMem := xnew M2 8 10
  let M4 : xMem := c_X8 (M2.1.1.length) M3
  let M5 : xMem := ((M4.1.1, xup M4.1.2 a 1 (some (M2.1.1.length))), M4.2)
  let M6 : xMem := xnew M5 101 2400
  let M7 : xMem := ((M6.1.1, xup M6.1.2 a 2 (some (M5.1.1.length))), M6.2)
  let M8 : xMem := xnew M7 101 1664
  let M9 : xMem := ((M8.1.1, xup M8.1.2 a 3 (some (M7.1.1.length))), M8.2)
  let M10 : xMem := xnew M9 101 128
  let M11 : xMem := ((M10.1.1, xup M10.1.2 a 4 (some (M9.1.1.length))), M10.2)
  let M12 : xMem := xnew M11 101 128
  let M13 : xMem := ((M12.1.1, xup M12.1.2 a 5 (some (M11.1.1.length))), M12.2)
  let M14 : xMem := xnew M13 101 128
  let M15 : xMem := ((M14.1.1, xup M14.1.2 a 6 (some (M13.1.1.length))), M14.2)
  let M16 : xMem := xnew M15 101 128
  let M17 : xMem := ((M16.1.1, xup M16.1.2 a 7 (some (M15.1.1.length))), M16.2)
  let M18 : xMem := xnew M17 100 4
  let M19 : xMem := ((M18.1.1, xup M18.1.2 a 8 (some (M17.1.1.length))), M18.2)
  M19
theorem c_X0_sh (a : Nat) (M : xMem) : (c_X0 a M).1.1 = M.1.1 ++ [(100, 6), (8, 10), (100, 2400), (100, 2400), (100, 2400), (100, 2400), (100, 13), (100, 4096), (100, 2000), (101, 2400), (101, 1664), (101, 128), (101, 128), (101, 128), (101, 128), (100, 4)] := by
  simp [c_X0, xnew, c_X8_sh]
theorem c_X0_at {a : Nat} {M : xMem} {b : Nat} {q : Nat × Nat} (h : M.1.1[b]? = some q) : (c_X0 a M).1.1[b]? = some q := by
  rw [c_X0_sh, List.getElem?_append_left (List.getElem?_eq_some_iff.mp h).1, h]
theorem c_X0_len (a : Nat) (M : xMem) : (c_X0 a M).1.1.length = M.1.1.length + 16 := by
  rw [c_X0_sh]; simp
set_option maxHeartbeats 4000000 in
theorem C_X0 {a : Nat} {M : xMem} (ha : M.1.1[a]? = some (0, 10)) : xSp md_X0_init (2, 16, 20305) [.ref a] M (fun v M' => v = none ∧ M' = c_X0 a M) := by
  refine xEntry (by decide) (Nat.le_of_ble_eq_true rfl) ?_
  refine x_lv (lv' := [(0, .ref a)]) [0] rfl ?_
  refine x_aload_n dX0_init_0 0 rfl ?_
  refine x_objInit dX0_init_1 wd_281 wd_30 wd_31 (Nat.le_of_ble_eq_true rfl) (Nat.le_of_ble_eq_true rfl) ?_
  refine x_aload_n dX0_init_4 0 rfl ?_
  refine x_bipush 6 dX0_init_5 (by decide) ?_
  refine x_newi (N := 6) (t := 100) (ti := 0) rfl rfl (fun C h => by cases h) (fun _ => rfl) (by decide) (by decide) (by decide) dX0_init_7 wd_111 (by decide) (by decide) (by decide) (by decide) (by decide) ?_
  refine x_putF (k := 0) cb_0 (by decide) dX0_init_9 wd_327 rfl rfl rfl rfl (fun _ => rfl) (fun _ => rfl) (by exact xnew_at (ha)) ?_
  refine x_aload_n dX0_init_12 0 rfl ?_
  refine x_new cb_8 dX0_init_13 wd_282 wd_283 wd_13 (by decide +kernel) (by decide) (by decide) ?_
  refine x_dup dX0_init_16 rfl ?_
  refine x_callIN (B' := (1, 7, 15709)) (As := []) cw_X8_init rfl rfl dX0_init_17 wn_284 wd_285 rfl (Nat.le_of_ble_eq_true rfl) (by decide) (by decide) (by decide) (C_X8 (xnew_last)) ?_ ?_
  · rintro v M' ⟨rfl, rfl⟩; exact c_X8_len _ _
  rintro v M' ⟨rfl, rfl⟩
  refine x_putF (k := 1) cb_0 (by decide) dX0_init_20 wd_329 rfl rfl rfl rfl (fun _ => rfl) (fun _ => rfl) (by exact c_X8_at (xnew_at (xnew_at (ha)))) ?_
  refine x_aload_n dX0_init_23 0 rfl ?_
  refine x_sipush 2400 dX0_init_24 (by decide) ?_
  refine x_newl (N := 2400) rfl dX0_init_27 wd_56 (by decide) (by decide) (by decide) (by decide) (by decide) ?_
  refine x_putF (k := 2) cb_0 (by decide) dX0_init_29 wd_330 rfl rfl rfl rfl (fun _ => rfl) (fun _ => rfl) (by exact xnew_at (c_X8_at (xnew_at (xnew_at (ha))))) ?_
  refine x_aload_n dX0_init_32 0 rfl ?_
  refine x_sipush 1664 dX0_init_33 (by decide) ?_
  refine x_newl (N := 1664) rfl dX0_init_36 wd_56 (by decide) (by decide) (by decide) (by decide) (by decide) ?_
  refine x_putF (k := 3) cb_0 (by decide) dX0_init_38 wd_331 rfl rfl rfl rfl (fun _ => rfl) (fun _ => rfl) (by exact xnew_at (xnew_at (c_X8_at (xnew_at (xnew_at (ha)))))) ?_
  refine x_aload_n dX0_init_41 0 rfl ?_
  refine x_sipush 128 dX0_init_42 (by decide) ?_
  refine x_newl (N := 128) rfl dX0_init_45 wd_56 (by decide) (by decide) (by decide) (by decide) (by decide) ?_
  refine x_putF (k := 4) cb_0 (by decide) dX0_init_47 wd_332 rfl rfl rfl rfl (fun _ => rfl) (fun _ => rfl) (by exact xnew_at (xnew_at (xnew_at (c_X8_at (xnew_at (xnew_at (ha))))))) ?_
  refine x_aload_n dX0_init_50 0 rfl ?_
  refine x_sipush 128 dX0_init_51 (by decide) ?_
  refine x_newl (N := 128) rfl dX0_init_54 wd_56 (by decide) (by decide) (by decide) (by decide) (by decide) ?_
  refine x_putF (k := 5) cb_0 (by decide) dX0_init_56 wd_333 rfl rfl rfl rfl (fun _ => rfl) (fun _ => rfl) (by exact xnew_at (xnew_at (xnew_at (xnew_at (c_X8_at (xnew_at (xnew_at (ha)))))))) ?_
  refine x_aload_n dX0_init_59 0 rfl ?_
  refine x_sipush 128 dX0_init_60 (by decide) ?_
  refine x_newl (N := 128) rfl dX0_init_63 wd_56 (by decide) (by decide) (by decide) (by decide) (by decide) ?_
  refine x_putF (k := 6) cb_0 (by decide) dX0_init_65 wd_334 rfl rfl rfl rfl (fun _ => rfl) (fun _ => rfl) (by exact xnew_at (xnew_at (xnew_at (xnew_at (xnew_at (c_X8_at (xnew_at (xnew_at (ha))))))))) ?_
  refine x_aload_n dX0_init_68 0 rfl ?_
  refine x_sipush 128 dX0_init_69 (by decide) ?_
  refine x_newl (N := 128) rfl dX0_init_72 wd_56 (by decide) (by decide) (by decide) (by decide) (by decide) ?_
  refine x_putF (k := 7) cb_0 (by decide) dX0_init_74 wd_335 rfl rfl rfl rfl (fun _ => rfl) (fun _ => rfl) (by exact xnew_at (xnew_at (xnew_at (xnew_at (xnew_at (xnew_at (c_X8_at (xnew_at (xnew_at (ha)))))))))) ?_
  refine x_aload_n dX0_init_77 0 rfl ?_
  refine x_iconst 4 dX0_init_78 (by decide) ?_
  refine x_newi (N := 4) (t := 100) (ti := 0) rfl rfl (fun C h => by cases h) (fun _ => rfl) (by decide) (by decide) (by decide) dX0_init_79 wd_111 (by decide) (by decide) (by decide) (by decide) (by decide) ?_
  refine x_putF (k := 8) cb_0 (by decide) dX0_init_81 wd_336 rfl rfl rfl rfl (fun _ => rfl) (fun _ => rfl) (by exact xnew_at (xnew_at (xnew_at (xnew_at (xnew_at (xnew_at (xnew_at (c_X8_at (xnew_at (xnew_at (ha))))))))))) ?_
  exact x_vret rfl (Nat.le_of_ble_eq_true rfl) (Nat.le_of_ble_eq_true rfl) dX0_init_84 ⟨rfl, rfl⟩
