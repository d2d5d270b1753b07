/-! printed by wip/whole/gen.py: words, links, methods -/
abbrev md_X11_signOf : xMd := (yX11_signOf, cX11_signOf, 1, (some .int))
theorem wd_874 : (Jvm.Cond.fieldLink "java/lang/String" (38 : Nat) "java/lang/String" "COMPACT_STRINGS" "Z") ∈ xTG := xmem 874 (by decide +kernel) (by decide +kernel)
theorem wd_1553 : (Jvm.Cond.fieldLink "java/lang/String" (15 : Nat) "java/lang/String" "coder" "B") ∈ xTG := xmem 1553 (by decide +kernel) (by decide +kernel)
abbrev md_J0_isLatin1_aae02 : xMd := (yJ0_isLatin1_aae02, cJ0_isLatin1_aae02, 1, (some .boolean))
abbrev md_J0_coder_7d493 : xMd := (yJ0_coder_7d493, cJ0_coder_7d493, 1, (some .byte))
theorem wd_1554 : (Jvm.Cond.fieldLink "java/lang/String" (9 : Nat) "java/lang/String" "value" "[B") ∈ xTG := xmem 1554 (by decide +kernel) (by decide +kernel)
theorem wd_883 : (Jvm.Cond.code ({ cls := "java/lang/String", name := "coder", desc := "()B" } : Jvm.MethodName) prog_19_method_152_code (1 : Nat) (Option.some Jvm.ClassFile.FieldType.byte)) ∈ xTG := xmem 883 (by decide +kernel) (by decide +kernel)
theorem wd_17 : (Jvm.Cond.initialized "java/lang/String") ∈ xTG := xmem 17 (by decide +kernel) (by decide +kernel)
theorem cw_J0_coder_7d493 : xcw md_J0_coder_7d493 0 := ⟨wd_883, wd_17, by decide +kernel, by decide⟩
theorem wd_880 : (Jvm.Cond.methodLink "java/lang/String" (335 : Nat) ({ cls := "java/lang/String", name := "coder", desc := "()B" } : Jvm.MethodName)) ∈ xTG := xmem 880 (by decide +kernel) (by decide +kernel)
theorem wd_881 : (Jvm.Cond.instanceMethod ({ cls := "java/lang/String", name := "coder", desc := "()B" } : Jvm.MethodName)) ∈ xTG := xmem 881 (by decide +kernel) (by decide +kernel)
theorem wd_882 : (Jvm.Cond.selects "java/lang/String" ({ cls := "java/lang/String", name := "coder", desc := "()B" } : Jvm.MethodName) ({ cls := "java/lang/String", name := "coder", desc := "()B" } : Jvm.MethodName)) ∈ xTG := xmem 882 (by decide +kernel) (by decide +kernel)
theorem ct_RJ0_335 : xCT RJ0 335 md_J0_coder_7d493 0 := ⟨rfl, cw_J0_coder_7d493, wd_880, wd_881, wd_882⟩
abbrev md_J0_length_8abf5 : xMd := (yJ0_length_8abf5, cJ0_length_8abf5, 1, (some .int))
abbrev md_J1_canEncode_9a6ad : xMd := (yJ1_canEncode_9a6ad, cJ1_canEncode_9a6ad, 1, (some .boolean))
abbrev md_J1_indexOfChar_4cfef : xMd := (yJ1_indexOfChar_4cfef, cJ1_indexOfChar_4cfef, 6, (some .int))
theorem wd_889 : (Jvm.Cond.code ({ cls := "java/lang/StringLatin1", name := "canEncode", desc := "(I)Z" } : Jvm.MethodName) prog_20_method_4_code (1 : Nat) (Option.some Jvm.ClassFile.FieldType.boolean)) ∈ xTG := xmem 889 (by decide +kernel) (by decide +kernel)
theorem wd_18 : (Jvm.Cond.initialized "java/lang/StringLatin1") ∈ xTG := xmem 18 (by decide +kernel) (by decide +kernel)
theorem cw_J1_canEncode_9a6ad : xcw md_J1_canEncode_9a6ad 1 := ⟨wd_889, wd_18, by decide +kernel, by decide⟩
theorem wd_887 : (Jvm.Cond.methodLink "java/lang/StringLatin1" (88 : Nat) ({ cls := "java/lang/StringLatin1", name := "canEncode", desc := "(I)Z" } : Jvm.MethodName)) ∈ xTG := xmem 887 (by decide +kernel) (by decide +kernel)
theorem wd_888 : (Jvm.Cond.static ({ cls := "java/lang/StringLatin1", name := "canEncode", desc := "(I)Z" } : Jvm.MethodName)) ∈ xTG := xmem 888 (by decide +kernel) (by decide +kernel)
theorem cs_RJ1_88 : xCS RJ1 88 md_J1_canEncode_9a6ad 1 := ⟨cw_J1_canEncode_9a6ad, wd_887, wd_888⟩
theorem wd_890 : (Jvm.Cond.methodLink "java/lang/StringLatin1" (92 : Nat) ({ cls := "java/lang/Math", name := "max", desc := "(II)I" } : Jvm.MethodName)) ∈ xTG := xmem 890 (by decide +kernel) (by decide +kernel)
theorem wd_91 : (Jvm.Cond.static ({ cls := "java/lang/Math", name := "max", desc := "(II)I" } : Jvm.MethodName)) ∈ xTG := xmem 91 (by decide +kernel) (by decide +kernel)
theorem wd_6 : (Jvm.Cond.initialized "java/lang/Math") ∈ xTG := xmem 6 (by decide +kernel) (by decide +kernel)
theorem wd_92 : (Jvm.Cond.code ({ cls := "java/lang/Math", name := "max", desc := "(II)I" } : Jvm.MethodName) prog_18_method_65_code (2 : Nat) (Option.some Jvm.ClassFile.FieldType.int)) ∈ xTG := xmem 92 (by decide +kernel) (by decide +kernel)
theorem mm_RJ1_92 : xMXw RJ1 92 := ⟨wd_890, wd_91, wd_6, wd_92⟩
theorem wd_891 : (Jvm.Cond.methodLink "java/lang/StringLatin1" (38 : Nat) ({ cls := "java/lang/Math", name := "min", desc := "(II)I" } : Jvm.MethodName)) ∈ xTG := xmem 891 (by decide +kernel) (by decide +kernel)
theorem wd_720 : (Jvm.Cond.static ({ cls := "java/lang/Math", name := "min", desc := "(II)I" } : Jvm.MethodName)) ∈ xTG := xmem 720 (by decide +kernel) (by decide +kernel)
theorem wd_721 : (Jvm.Cond.code ({ cls := "java/lang/Math", name := "min", desc := "(II)I" } : Jvm.MethodName) prog_18_method_69_code (2 : Nat) (Option.some Jvm.ClassFile.FieldType.int)) ∈ xTG := xmem 721 (by decide +kernel) (by decide +kernel)
theorem mm_RJ1_38 : xMNw RJ1 38 := ⟨wd_891, wd_720, wd_6, wd_721⟩
theorem wd_894 : (Jvm.Cond.code ({ cls := "java/lang/StringLatin1", name := "indexOfChar", desc := "([BIII)I" } : Jvm.MethodName) prog_20_method_23_code (6 : Nat) (Option.some Jvm.ClassFile.FieldType.int)) ∈ xTG := xmem 894 (by decide +kernel) (by decide +kernel)
theorem cw_J1_indexOfChar_4cfef : xcw md_J1_indexOfChar_4cfef 4 := ⟨wd_894, wd_18, by decide +kernel, by decide⟩
theorem wd_892 : (Jvm.Cond.methodLink "java/lang/StringLatin1" (95 : Nat) ({ cls := "java/lang/StringLatin1", name := "indexOfChar", desc := "([BIII)I" } : Jvm.MethodName)) ∈ xTG := xmem 892 (by decide +kernel) (by decide +kernel)
theorem wd_893 : (Jvm.Cond.static ({ cls := "java/lang/StringLatin1", name := "indexOfChar", desc := "([BIII)I" } : Jvm.MethodName)) ∈ xTG := xmem 893 (by decide +kernel) (by decide +kernel)
theorem cs_RJ1_95 : xCS RJ1 95 md_J1_indexOfChar_4cfef 4 := ⟨cw_J1_indexOfChar_4cfef, wd_892, wd_893⟩
abbrev md_J1_indexOf_4cfef : xMd := (yJ1_indexOf_4cfef, cJ1_indexOf_4cfef, 4, (some .int))
abbrev md_J3_checkFromToIndex_8c36e : xMd := (yJ3_checkFromToIndex_8c36e, cJ3_checkFromToIndex_8c36e, 4, (some .int))
theorem wd_913 : (Jvm.Cond.fieldLink "java/lang/String" (1053 : Nat) "jdk/internal/util/Preconditions" "SIOOBE_FORMATTER" "Ljava/util/function/BiFunction;") ∈ xTG := xmem 913 (by decide +kernel) (by decide +kernel)
theorem wd_917 : (Jvm.Cond.code ({ cls := "jdk/internal/util/Preconditions", name := "checkFromToIndex", desc := "(IIILjava/util/function/BiFunction;)I" } : Jvm.MethodName) prog_24_method_12_code (4 : Nat) (Option.some Jvm.ClassFile.FieldType.int)) ∈ xTG := xmem 917 (by decide +kernel) (by decide +kernel)
theorem wd_19 : (Jvm.Cond.initialized "jdk/internal/util/Preconditions") ∈ xTG := xmem 19 (by decide +kernel) (by decide +kernel)
theorem cw_J3_checkFromToIndex_8c36e : xcw md_J3_checkFromToIndex_8c36e 4 := ⟨wd_917, wd_19, by decide +kernel, by decide⟩
theorem wd_915 : (Jvm.Cond.methodLink "java/lang/String" (1062 : Nat) ({ cls := "jdk/internal/util/Preconditions", name := "checkFromToIndex", desc := "(IIILjava/util/function/BiFunction;)I" } : Jvm.MethodName)) ∈ xTG := xmem 915 (by decide +kernel) (by decide +kernel)
theorem wd_916 : (Jvm.Cond.static ({ cls := "jdk/internal/util/Preconditions", name := "checkFromToIndex", desc := "(IIILjava/util/function/BiFunction;)I" } : Jvm.MethodName)) ∈ xTG := xmem 916 (by decide +kernel) (by decide +kernel)
theorem cs_RJ0_1062 : xCS RJ0 1062 md_J3_checkFromToIndex_8c36e 4 := ⟨cw_J3_checkFromToIndex_8c36e, wd_915, wd_916⟩
abbrev md_J0_checkBoundsBeginEnd_23922 : xMd := (yJ0_checkBoundsBeginEnd_23922, cJ0_checkBoundsBeginEnd_23922, 3, none)
theorem wd_873 : (Jvm.Cond.code ({ cls := "java/lang/String", name := "isLatin1", desc := "()Z" } : Jvm.MethodName) prog_19_method_154_code (1 : Nat) (Option.some Jvm.ClassFile.FieldType.boolean)) ∈ xTG := xmem 873 (by decide +kernel) (by decide +kernel)
theorem cw_J0_isLatin1_aae02 : xcw md_J0_isLatin1_aae02 0 := ⟨wd_873, wd_17, by decide +kernel, by decide⟩
theorem wd_870 : (Jvm.Cond.methodLink "java/lang/String" (492 : Nat) ({ cls := "java/lang/String", name := "isLatin1", desc := "()Z" } : Jvm.MethodName)) ∈ xTG := xmem 870 (by decide +kernel) (by decide +kernel)
theorem wd_871 : (Jvm.Cond.instanceMethod ({ cls := "java/lang/String", name := "isLatin1", desc := "()Z" } : Jvm.MethodName)) ∈ xTG := xmem 871 (by decide +kernel) (by decide +kernel)
theorem wd_872 : (Jvm.Cond.selects "java/lang/String" ({ cls := "java/lang/String", name := "isLatin1", desc := "()Z" } : Jvm.MethodName) ({ cls := "java/lang/String", name := "isLatin1", desc := "()Z" } : Jvm.MethodName)) ∈ xTG := xmem 872 (by decide +kernel) (by decide +kernel)
theorem ct_RJ0_492 : xCT RJ0 492 md_J0_isLatin1_aae02 0 := ⟨rfl, cw_J0_isLatin1_aae02, wd_870, wd_871, wd_872⟩
theorem wd_879 : (Jvm.Cond.code ({ cls := "java/lang/String", name := "length", desc := "()I" } : Jvm.MethodName) prog_19_method_54_code (1 : Nat) (Option.some Jvm.ClassFile.FieldType.int)) ∈ xTG := xmem 879 (by decide +kernel) (by decide +kernel)
theorem cw_J0_length_8abf5 : xcw md_J0_length_8abf5 0 := ⟨wd_879, wd_17, by decide +kernel, by decide⟩
theorem wd_876 : (Jvm.Cond.methodLink "java/lang/String" (505 : Nat) ({ cls := "java/lang/String", name := "length", desc := "()I" } : Jvm.MethodName)) ∈ xTG := xmem 876 (by decide +kernel) (by decide +kernel)
theorem wd_877 : (Jvm.Cond.instanceMethod ({ cls := "java/lang/String", name := "length", desc := "()I" } : Jvm.MethodName)) ∈ xTG := xmem 877 (by decide +kernel) (by decide +kernel)
theorem wd_878 : (Jvm.Cond.selects "java/lang/String" ({ cls := "java/lang/String", name := "length", desc := "()I" } : Jvm.MethodName) ({ cls := "java/lang/String", name := "length", desc := "()I" } : Jvm.MethodName)) ∈ xTG := xmem 878 (by decide +kernel) (by decide +kernel)
theorem ct_RJ0_505 : xCT RJ0 505 md_J0_length_8abf5 0 := ⟨rfl, cw_J0_length_8abf5, wd_876, wd_877, wd_878⟩
theorem wd_886 : (Jvm.Cond.code ({ cls := "java/lang/StringLatin1", name := "indexOf", desc := "([BIII)I" } : Jvm.MethodName) prog_20_method_22_code (4 : Nat) (Option.some Jvm.ClassFile.FieldType.int)) ∈ xTG := xmem 886 (by decide +kernel) (by decide +kernel)
theorem cw_J1_indexOf_4cfef : xcw md_J1_indexOf_4cfef 4 := ⟨wd_886, wd_18, by decide +kernel, by decide⟩
theorem wd_884 : (Jvm.Cond.methodLink "java/lang/String" (637 : Nat) ({ cls := "java/lang/StringLatin1", name := "indexOf", desc := "([BIII)I" } : Jvm.MethodName)) ∈ xTG := xmem 884 (by decide +kernel) (by decide +kernel)
theorem wd_885 : (Jvm.Cond.static ({ cls := "java/lang/StringLatin1", name := "indexOf", desc := "([BIII)I" } : Jvm.MethodName)) ∈ xTG := xmem 885 (by decide +kernel) (by decide +kernel)
theorem cs_RJ0_637 : xCS RJ0 637 md_J1_indexOf_4cfef 4 := ⟨cw_J1_indexOf_4cfef, wd_884, wd_885⟩
abbrev md_J0_indexOf_7cf53 : xMd := (yJ0_indexOf_7cf53, cJ0_indexOf_7cf53, 3, (some .int))
theorem wd_869 : (Jvm.Cond.code ({ cls := "java/lang/String", name := "indexOf", desc := "(II)I" } : Jvm.MethodName) prog_19_method_80_code (3 : Nat) (Option.some Jvm.ClassFile.FieldType.int)) ∈ xTG := xmem 869 (by decide +kernel) (by decide +kernel)
theorem cw_J0_indexOf_7cf53 : xcw md_J0_indexOf_7cf53 2 := ⟨wd_869, wd_17, by decide +kernel, by decide⟩
theorem wd_866 : (Jvm.Cond.methodLink "java/lang/String" (633 : Nat) ({ cls := "java/lang/String", name := "indexOf", desc := "(II)I" } : Jvm.MethodName)) ∈ xTG := xmem 866 (by decide +kernel) (by decide +kernel)
theorem wd_867 : (Jvm.Cond.instanceMethod ({ cls := "java/lang/String", name := "indexOf", desc := "(II)I" } : Jvm.MethodName)) ∈ xTG := xmem 867 (by decide +kernel) (by decide +kernel)
theorem wd_868 : (Jvm.Cond.selects "java/lang/String" ({ cls := "java/lang/String", name := "indexOf", desc := "(II)I" } : Jvm.MethodName) ({ cls := "java/lang/String", name := "indexOf", desc := "(II)I" } : Jvm.MethodName)) ∈ xTG := xmem 868 (by decide +kernel) (by decide +kernel)
theorem ct_RJ0_633 : xCT RJ0 633 md_J0_indexOf_7cf53 2 := ⟨rfl, cw_J0_indexOf_7cf53, wd_866, wd_867, wd_868⟩
abbrev md_J0_indexOf_0f7a4 : xMd := (yJ0_indexOf_0f7a4, cJ0_indexOf_0f7a4, 2, (some .int))
theorem cb_2 : xCB 2 RX2 TX2 (xnf 2) tyX2 := ⟨rfl, fun w h => List.mem_filter.mpr ⟨List.mem_append_right _ ((by decide +kernel : ∀ w ∈ u_ws RX2 TX2 (xnf 2), w ∈ tables_1) w h), (by decide +kernel : ∀ w ∈ u_ws RX2 TX2 (xnf 2), goodWord w = true) w h⟩, tyX2_ok, nmX2, by decide⟩
theorem wd_98 : (Jvm.Cond.fieldLink "KnowledgeRoom$Formula" (19 : Nat) "KnowledgeRoom$Formula" "size" "I") ∈ xTG := xmem 98 (by decide +kernel) (by decide +kernel)
theorem fl_RX2_19 : xFL RX2 19 2 1 := ⟨_, _, _, cb_2, by decide, wd_98⟩
theorem wd_93 : (Jvm.Cond.fieldLink "KnowledgeRoom$Formula" (13 : Nat) "KnowledgeRoom$Formula" "tokens" "[I") ∈ xTG := xmem 93 (by decide +kernel) (by decide +kernel)
theorem fl_RX2_13 : xFL RX2 13 2 0 := ⟨_, _, _, cb_2, by decide, wd_93⟩
theorem wd_609 : (Jvm.Cond.code ({ cls := "KnowledgeRoom", name := "signOf", desc := "(I)I" } : Jvm.MethodName) prog_1_method_34_code (1 : Nat) (Option.some Jvm.ClassFile.FieldType.int)) ∈ xTG := xmem 609 (by decide +kernel) (by decide +kernel)
theorem wd_1 : (Jvm.Cond.initialized "KnowledgeRoom") ∈ xTG := xmem 1 (by decide +kernel) (by decide +kernel)
theorem cw_X11_signOf : xcw md_X11_signOf 1 := ⟨wd_609, wd_1, by decide +kernel, by decide⟩
theorem wn_861 : (Jvm.Cond.methodLinkNest "KnowledgeRoom$Formula" (33 : Nat) ({ cls := "KnowledgeRoom", name := "signOf", desc := "(I)I" } : Jvm.MethodName) "KnowledgeRoom") ∈ xNW := xmemN 861 (by decide +kernel) rfl
theorem wd_608 : (Jvm.Cond.static ({ cls := "KnowledgeRoom", name := "signOf", desc := "(I)I" } : Jvm.MethodName)) ∈ xTG := xmem 608 (by decide +kernel) (by decide +kernel)
theorem cn_RX2_33 : xCSN RX2 33 md_X11_signOf 1 := ⟨_, cw_X11_signOf, wn_861, wd_608⟩
theorem wd_865 : (Jvm.Cond.code ({ cls := "java/lang/String", name := "indexOf", desc := "(I)I" } : Jvm.MethodName) prog_19_method_79_code (2 : Nat) (Option.some Jvm.ClassFile.FieldType.int)) ∈ xTG := xmem 865 (by decide +kernel) (by decide +kernel)
theorem cw_J0_indexOf_0f7a4 : xcw md_J0_indexOf_0f7a4 1 := ⟨wd_865, wd_17, by decide +kernel, by decide⟩
theorem wd_862 : (Jvm.Cond.methodLink "KnowledgeRoom$Formula" (39 : Nat) ({ cls := "java/lang/String", name := "indexOf", desc := "(I)I" } : Jvm.MethodName)) ∈ xTG := xmem 862 (by decide +kernel) (by decide +kernel)
theorem wd_863 : (Jvm.Cond.instanceMethod ({ cls := "java/lang/String", name := "indexOf", desc := "(I)I" } : Jvm.MethodName)) ∈ xTG := xmem 863 (by decide +kernel) (by decide +kernel)
theorem wd_864 : (Jvm.Cond.selects "java/lang/String" ({ cls := "java/lang/String", name := "indexOf", desc := "(I)I" } : Jvm.MethodName) ({ cls := "java/lang/String", name := "indexOf", desc := "(I)I" } : Jvm.MethodName)) ∈ xTG := xmem 864 (by decide +kernel) (by decide +kernel)
theorem ct_RX2_39 : xCT RX2 39 md_J0_indexOf_0f7a4 1 := ⟨rfl, cw_J0_indexOf_0f7a4, wd_862, wd_863, wd_864⟩
abbrev md_X2_hasAny : xMd := (yX2_hasAny, cX2_hasAny, 3, (some .boolean))
abbrev md_J7_fill_53178 : xMd := (yJ7_fill_53178, cJ7_fill_53178, 4, none)
abbrev md_X11_isLeaf : xMd := (yX11_isLeaf, cX11_isLeaf, 1, (some .boolean))
abbrev md_X8_isBase : xMd := (yX8_isBase, cX8_isBase, 1, (some .boolean))
theorem cb_8 : xCB 8 RX8 TX8 (xnf 8) tyX8 := ⟨rfl, fun w h => List.mem_filter.mpr ⟨List.mem_append_right _ ((by decide +kernel : ∀ w ∈ u_ws RX8 TX8 (xnf 8), w ∈ tables_1) w h), (by decide +kernel : ∀ w ∈ u_ws RX8 TX8 (xnf 8), goodWord w = true) w h⟩, tyX8_ok, nmX8, by decide⟩
theorem wd_298 : (Jvm.Cond.fieldLink "KnowledgeRoom$Terms" (27 : Nat) "KnowledgeRoom$Terms" "table" "[I") ∈ xTG := xmem 298 (by decide +kernel) (by decide +kernel)
theorem fl_RX8_27 : xFL RX8 27 8 5 := ⟨_, _, _, cb_8, by decide, wd_298⟩
theorem wd_288 : (Jvm.Cond.fieldLink "KnowledgeRoom$Terms" (11 : Nat) "KnowledgeRoom$Terms" "token" "[I") ∈ xTG := xmem 288 (by decide +kernel) (by decide +kernel)
theorem fl_RX8_11 : xFL RX8 11 8 0 := ⟨_, _, _, cb_8, by decide, wd_288⟩
theorem wd_290 : (Jvm.Cond.fieldLink "KnowledgeRoom$Terms" (15 : Nat) "KnowledgeRoom$Terms" "left" "[I") ∈ xTG := xmem 290 (by decide +kernel) (by decide +kernel)
theorem fl_RX8_15 : xFL RX8 15 8 1 := ⟨_, _, _, cb_8, by decide, wd_290⟩
theorem wd_292 : (Jvm.Cond.fieldLink "KnowledgeRoom$Terms" (18 : Nat) "KnowledgeRoom$Terms" "right" "[I") ∈ xTG := xmem 292 (by decide +kernel) (by decide +kernel)
theorem fl_RX8_18 : xFL RX8 18 8 2 := ⟨_, _, _, cb_8, by decide, wd_292⟩
theorem wn_983 : (Jvm.Cond.methodLinkNest "KnowledgeRoom$Terms" (56 : Nat) ({ cls := "KnowledgeRoom", name := "signOf", desc := "(I)I" } : Jvm.MethodName) "KnowledgeRoom") ∈ xNW := xmemN 983 (by decide +kernel) rfl
theorem cn_RX8_56 : xCSN RX8 56 md_X11_signOf 1 := ⟨_, cw_X11_signOf, wn_983, wd_608⟩
theorem wd_991 : (Jvm.Cond.code ({ cls := "KnowledgeRoom$Terms", name := "isBase", desc := "(I)Z" } : Jvm.MethodName) prog_10_method_7_code (1 : Nat) (Option.some Jvm.ClassFile.FieldType.boolean)) ∈ xTG := xmem 991 (by decide +kernel) (by decide +kernel)
theorem wd_13 : (Jvm.Cond.initialized "KnowledgeRoom$Terms") ∈ xTG := xmem 13 (by decide +kernel) (by decide +kernel)
theorem cw_X8_isBase : xcw md_X8_isBase 1 := ⟨wd_991, wd_13, by decide +kernel, by decide⟩
theorem wd_989 : (Jvm.Cond.methodLink "KnowledgeRoom$Terms" (93 : Nat) ({ cls := "KnowledgeRoom$Terms", name := "isBase", desc := "(I)Z" } : Jvm.MethodName)) ∈ xTG := xmem 989 (by decide +kernel) (by decide +kernel)
theorem wd_990 : (Jvm.Cond.static ({ cls := "KnowledgeRoom$Terms", name := "isBase", desc := "(I)Z" } : Jvm.MethodName)) ∈ xTG := xmem 990 (by decide +kernel) (by decide +kernel)
theorem cs_RX8_93 : xCS RX8 93 md_X8_isBase 1 := ⟨cw_X8_isBase, wd_989, wd_990⟩
theorem wd_304 : (Jvm.Cond.fieldLink "KnowledgeRoom$Terms" (40 : Nat) "KnowledgeRoom$Terms" "great" "Z") ∈ xTG := xmem 304 (by decide +kernel) (by decide +kernel)
theorem fl_RX8_40 : xFL RX8 40 8 9 := ⟨_, _, _, cb_8, by decide, wd_304⟩
theorem fp_RX8_40 : xFP RX8 40 8 9 .boolean := ⟨_, _, _, cb_8, by decide, wd_304, rfl, rfl⟩
theorem wd_300 : (Jvm.Cond.fieldLink "KnowledgeRoom$Terms" (33 : Nat) "KnowledgeRoom$Terms" "size" "I") ∈ xTG := xmem 300 (by decide +kernel) (by decide +kernel)
theorem fl_RX8_33 : xFL RX8 33 8 7 := ⟨_, _, _, cb_8, by decide, wd_300⟩
theorem wd_302 : (Jvm.Cond.fieldLink "KnowledgeRoom$Terms" (37 : Nat) "KnowledgeRoom$Terms" "baseSize" "I") ∈ xTG := xmem 302 (by decide +kernel) (by decide +kernel)
theorem fl_RX8_37 : xFL RX8 37 8 8 := ⟨_, _, _, cb_8, by decide, wd_302⟩
theorem wd_294 : (Jvm.Cond.fieldLink "KnowledgeRoom$Terms" (21 : Nat) "KnowledgeRoom$Terms" "baseOf" "[I") ∈ xTG := xmem 294 (by decide +kernel) (by decide +kernel)
theorem fl_RX8_21 : xFL RX8 21 8 3 := ⟨_, _, _, cb_8, by decide, wd_294⟩
theorem wd_296 : (Jvm.Cond.fieldLink "KnowledgeRoom$Terms" (24 : Nat) "KnowledgeRoom$Terms" "base" "[I") ∈ xTG := xmem 296 (by decide +kernel) (by decide +kernel)
theorem fl_RX8_24 : xFL RX8 24 8 4 := ⟨_, _, _, cb_8, by decide, wd_296⟩
theorem fp_RX8_37 : xFP RX8 37 8 8 .int := ⟨_, _, _, cb_8, by decide, wd_302, rfl, rfl⟩
theorem fp_RX8_33 : xFP RX8 33 8 7 .int := ⟨_, _, _, cb_8, by decide, wd_300, rfl, rfl⟩
abbrev md_X8_make : xMd := (yX8_make, cX8_make, 7, (some .int))
abbrev md_X11_isJoin : xMd := (yX11_isJoin, cX11_isJoin, 1, (some .boolean))
abbrev md_X11_hasAgent : xMd := (yX11_hasAgent, cX11_hasAgent, 2, (some .boolean))
abbrev md_X11_withAgents : xMd := (yX11_withAgents, cX11_withAgents, 2, (some .int))
theorem wd_1003 : (Jvm.Cond.methodLink "KnowledgeRoom$Terms" (88 : Nat) ({ cls := "java/lang/Math", name := "max", desc := "(II)I" } : Jvm.MethodName)) ∈ xTG := xmem 1003 (by decide +kernel) (by decide +kernel)
theorem mm_RX8_88 : xMXw RX8 88 := ⟨wd_1003, wd_91, wd_6, wd_92⟩
theorem wd_640 : (Jvm.Cond.code ({ cls := "KnowledgeRoom", name := "hasAgent", desc := "(II)Z" } : Jvm.MethodName) prog_1_method_37_code (2 : Nat) (Option.some Jvm.ClassFile.FieldType.boolean)) ∈ xTG := xmem 640 (by decide +kernel) (by decide +kernel)
theorem cw_X11_hasAgent : xcw md_X11_hasAgent 2 := ⟨wd_640, wd_1, by decide +kernel, by decide⟩
theorem wn_1001 : (Jvm.Cond.methodLinkNest "KnowledgeRoom$Terms" (81 : Nat) ({ cls := "KnowledgeRoom", name := "hasAgent", desc := "(II)Z" } : Jvm.MethodName) "KnowledgeRoom") ∈ xNW := xmemN 1001 (by decide +kernel) rfl
theorem wd_639 : (Jvm.Cond.static ({ cls := "KnowledgeRoom", name := "hasAgent", desc := "(II)Z" } : Jvm.MethodName)) ∈ xTG := xmem 639 (by decide +kernel) (by decide +kernel)
theorem cn_RX8_81 : xCSN RX8 81 md_X11_hasAgent 2 := ⟨_, cw_X11_hasAgent, wn_1001, wd_639⟩
theorem wd_553 : (Jvm.Cond.code ({ cls := "KnowledgeRoom", name := "withAgents", desc := "(II)I" } : Jvm.MethodName) prog_1_method_36_code (2 : Nat) (Option.some Jvm.ClassFile.FieldType.int)) ∈ xTG := xmem 553 (by decide +kernel) (by decide +kernel)
theorem cw_X11_withAgents : xcw md_X11_withAgents 2 := ⟨wd_553, wd_1, by decide +kernel, by decide⟩
theorem wn_1002 : (Jvm.Cond.methodLinkNest "KnowledgeRoom$Terms" (85 : Nat) ({ cls := "KnowledgeRoom", name := "withAgents", desc := "(II)I" } : Jvm.MethodName) "KnowledgeRoom") ∈ xNW := xmemN 1002 (by decide +kernel) rfl
theorem wd_552 : (Jvm.Cond.static ({ cls := "KnowledgeRoom", name := "withAgents", desc := "(II)I" } : Jvm.MethodName)) ∈ xTG := xmem 552 (by decide +kernel) (by decide +kernel)
theorem cn_RX8_85 : xCSN RX8 85 md_X11_withAgents 2 := ⟨_, cw_X11_withAgents, wn_1002, wd_552⟩
theorem wd_988 : (Jvm.Cond.code ({ cls := "KnowledgeRoom$Terms", name := "make", desc := "(III)I" } : Jvm.MethodName) prog_10_method_6_code (7 : Nat) (Option.some Jvm.ClassFile.FieldType.int)) ∈ xTG := xmem 988 (by decide +kernel) (by decide +kernel)
theorem cw_X8_make : xcw md_X8_make 3 := ⟨wd_988, wd_13, by decide +kernel, by decide⟩
theorem wd_985 : (Jvm.Cond.methodLink "KnowledgeRoom$Terms" (64 : Nat) ({ cls := "KnowledgeRoom$Terms", name := "make", desc := "(III)I" } : Jvm.MethodName)) ∈ xTG := xmem 985 (by decide +kernel) (by decide +kernel)
theorem wd_987 : (Jvm.Cond.instanceMethod ({ cls := "KnowledgeRoom$Terms", name := "make", desc := "(III)I" } : Jvm.MethodName)) ∈ xTG := xmem 987 (by decide +kernel) (by decide +kernel)
theorem ws_40 : Cond.selects "KnowledgeRoom$Terms" ⟨"KnowledgeRoom$Terms", "make", "(III)I"⟩ ⟨"KnowledgeRoom$Terms", "make", "(III)I"⟩ ∈ xTG := xmemP 40 (by decide +kernel) (by decide +kernel)
theorem cv_RX8_64 : xCV RX8 64 md_X8_make 8 3 := ⟨_, _, _, cb_8, rfl, cw_X8_make, wd_985, wd_987, ws_40⟩
abbrev md_X8_everyone : xMd := (yX8_everyone, cX8_everyone, 6, (some .int))
abbrev md_X8_common : xMd := (yX8_common, cX8_common, 5, (some .int))
theorem wd_1007 : (Jvm.Cond.code ({ cls := "KnowledgeRoom$Terms", name := "common", desc := "(II)I" } : Jvm.MethodName) prog_10_method_5_code (5 : Nat) (Option.some Jvm.ClassFile.FieldType.int)) ∈ xTG := xmem 1007 (by decide +kernel) (by decide +kernel)
theorem cw_X8_common : xcw md_X8_common 2 := ⟨wd_1007, wd_13, by decide +kernel, by decide⟩
theorem wd_1004 : (Jvm.Cond.methodLink "KnowledgeRoom$Terms" (78 : Nat) ({ cls := "KnowledgeRoom$Terms", name := "common", desc := "(II)I" } : Jvm.MethodName)) ∈ xTG := xmem 1004 (by decide +kernel) (by decide +kernel)
theorem wd_1006 : (Jvm.Cond.instanceMethod ({ cls := "KnowledgeRoom$Terms", name := "common", desc := "(II)I" } : Jvm.MethodName)) ∈ xTG := xmem 1006 (by decide +kernel) (by decide +kernel)
theorem ws_43 : Cond.selects "KnowledgeRoom$Terms" ⟨"KnowledgeRoom$Terms", "common", "(II)I"⟩ ⟨"KnowledgeRoom$Terms", "common", "(II)I"⟩ ∈ xTG := xmemP 43 (by decide +kernel) (by decide +kernel)
theorem cv_RX8_78 : xCV RX8 78 md_X8_common 8 2 := ⟨_, _, _, cb_8, rfl, cw_X8_common, wd_1004, wd_1006, ws_43⟩
theorem wd_1000 : (Jvm.Cond.code ({ cls := "KnowledgeRoom$Terms", name := "everyone", desc := "(II)I" } : Jvm.MethodName) prog_10_method_4_code (6 : Nat) (Option.some Jvm.ClassFile.FieldType.int)) ∈ xTG := xmem 1000 (by decide +kernel) (by decide +kernel)
theorem cw_X8_everyone : xcw md_X8_everyone 2 := ⟨wd_1000, wd_13, by decide +kernel, by decide⟩
theorem wd_997 : (Jvm.Cond.methodLink "KnowledgeRoom$Terms" (75 : Nat) ({ cls := "KnowledgeRoom$Terms", name := "everyone", desc := "(II)I" } : Jvm.MethodName)) ∈ xTG := xmem 997 (by decide +kernel) (by decide +kernel)
theorem wd_999 : (Jvm.Cond.instanceMethod ({ cls := "KnowledgeRoom$Terms", name := "everyone", desc := "(II)I" } : Jvm.MethodName)) ∈ xTG := xmem 999 (by decide +kernel) (by decide +kernel)
theorem ws_42 : Cond.selects "KnowledgeRoom$Terms" ⟨"KnowledgeRoom$Terms", "everyone", "(II)I"⟩ ⟨"KnowledgeRoom$Terms", "everyone", "(II)I"⟩ ∈ xTG := xmemP 42 (by decide +kernel) (by decide +kernel)
theorem cv_RX8_75 : xCV RX8 75 md_X8_everyone 8 2 := ⟨_, _, _, cb_8, rfl, cw_X8_everyone, wd_997, wd_999, ws_42⟩
abbrev md_X8_single : xMd := (yX8_single, cX8_single, 3, (some .int))
theorem wd_977 : (Jvm.Cond.code ({ cls := "java/util/Arrays", name := "fill", desc := "([II)V" } : Jvm.MethodName) prog_23_method_103_code (4 : Nat) (Option.none : Option Jvm.ClassFile.FieldType)) ∈ xTG := xmem 977 (by decide +kernel) (by decide +kernel)
theorem wd_23 : (Jvm.Cond.initialized "java/util/Arrays") ∈ xTG := xmem 23 (by decide +kernel) (by decide +kernel)
theorem cw_J7_fill_53178 : xcw md_J7_fill_53178 2 := ⟨wd_977, wd_23, by decide +kernel, by decide⟩
theorem wd_982 : (Jvm.Cond.methodLink "KnowledgeRoom$Terms" (44 : Nat) ({ cls := "java/util/Arrays", name := "fill", desc := "([II)V" } : Jvm.MethodName)) ∈ xTG := xmem 982 (by decide +kernel) (by decide +kernel)
theorem wd_976 : (Jvm.Cond.static ({ cls := "java/util/Arrays", name := "fill", desc := "([II)V" } : Jvm.MethodName)) ∈ xTG := xmem 976 (by decide +kernel) (by decide +kernel)
theorem cs_RX8_44 : xCS RX8 44 md_J7_fill_53178 2 := ⟨cw_J7_fill_53178, wd_982, wd_976⟩
theorem wd_102 : (Jvm.Cond.fieldLink "KnowledgeRoom$Terms" (50 : Nat) "KnowledgeRoom$Formula" "size" "I") ∈ xTG := xmem 102 (by decide +kernel) (by decide +kernel)
theorem fl_RX8_50 : xFL RX8 50 2 1 := ⟨_, _, _, cb_2, by decide, wd_102⟩
theorem wd_299 : (Jvm.Cond.fieldLink "KnowledgeRoom$Terms" (30 : Nat) "KnowledgeRoom$Terms" "waiting" "[I") ∈ xTG := xmem 299 (by decide +kernel) (by decide +kernel)
theorem fl_RX8_30 : xFL RX8 30 8 6 := ⟨_, _, _, cb_8, by decide, wd_299⟩
theorem wd_96 : (Jvm.Cond.fieldLink "KnowledgeRoom$Terms" (53 : Nat) "KnowledgeRoom$Formula" "tokens" "[I") ∈ xTG := xmem 96 (by decide +kernel) (by decide +kernel)
theorem fl_RX8_53 : xFL RX8 53 2 0 := ⟨_, _, _, cb_2, by decide, wd_96⟩
theorem wd_556 : (Jvm.Cond.code ({ cls := "KnowledgeRoom", name := "isLeaf", desc := "(I)Z" } : Jvm.MethodName) prog_1_method_38_code (1 : Nat) (Option.some Jvm.ClassFile.FieldType.boolean)) ∈ xTG := xmem 556 (by decide +kernel) (by decide +kernel)
theorem cw_X11_isLeaf : xcw md_X11_isLeaf 1 := ⟨wd_556, wd_1, by decide +kernel, by decide⟩
theorem wn_984 : (Jvm.Cond.methodLinkNest "KnowledgeRoom$Terms" (60 : Nat) ({ cls := "KnowledgeRoom", name := "isLeaf", desc := "(I)Z" } : Jvm.MethodName) "KnowledgeRoom") ∈ xNW := xmemN 984 (by decide +kernel) rfl
theorem wd_555 : (Jvm.Cond.static ({ cls := "KnowledgeRoom", name := "isLeaf", desc := "(I)Z" } : Jvm.MethodName)) ∈ xTG := xmem 555 (by decide +kernel) (by decide +kernel)
theorem cn_RX8_60 : xCSN RX8 60 md_X11_isLeaf 1 := ⟨_, cw_X11_isLeaf, wn_984, wd_555⟩
theorem wd_571 : (Jvm.Cond.code ({ cls := "KnowledgeRoom", name := "isJoin", desc := "(I)Z" } : Jvm.MethodName) prog_1_method_39_code (1 : Nat) (Option.some Jvm.ClassFile.FieldType.boolean)) ∈ xTG := xmem 571 (by decide +kernel) (by decide +kernel)
theorem cw_X11_isJoin : xcw md_X11_isJoin 1 := ⟨wd_571, wd_1, by decide +kernel, by decide⟩
theorem wn_992 : (Jvm.Cond.methodLinkNest "KnowledgeRoom$Terms" (68 : Nat) ({ cls := "KnowledgeRoom", name := "isJoin", desc := "(I)Z" } : Jvm.MethodName) "KnowledgeRoom") ∈ xNW := xmemN 992 (by decide +kernel) rfl
theorem wd_570 : (Jvm.Cond.static ({ cls := "KnowledgeRoom", name := "isJoin", desc := "(I)Z" } : Jvm.MethodName)) ∈ xTG := xmem 570 (by decide +kernel) (by decide +kernel)
theorem cn_RX8_68 : xCSN RX8 68 md_X11_isJoin 1 := ⟨_, cw_X11_isJoin, wn_992, wd_570⟩
theorem wd_996 : (Jvm.Cond.code ({ cls := "KnowledgeRoom$Terms", name := "single", desc := "(II)I" } : Jvm.MethodName) prog_10_method_3_code (3 : Nat) (Option.some Jvm.ClassFile.FieldType.int)) ∈ xTG := xmem 996 (by decide +kernel) (by decide +kernel)
theorem cw_X8_single : xcw md_X8_single 2 := ⟨wd_996, wd_13, by decide +kernel, by decide⟩
theorem wd_993 : (Jvm.Cond.methodLink "KnowledgeRoom$Terms" (71 : Nat) ({ cls := "KnowledgeRoom$Terms", name := "single", desc := "(II)I" } : Jvm.MethodName)) ∈ xTG := xmem 993 (by decide +kernel) (by decide +kernel)
theorem wd_995 : (Jvm.Cond.instanceMethod ({ cls := "KnowledgeRoom$Terms", name := "single", desc := "(II)I" } : Jvm.MethodName)) ∈ xTG := xmem 995 (by decide +kernel) (by decide +kernel)
theorem ws_41 : Cond.selects "KnowledgeRoom$Terms" ⟨"KnowledgeRoom$Terms", "single", "(II)I"⟩ ⟨"KnowledgeRoom$Terms", "single", "(II)I"⟩ ∈ xTG := xmemP 41 (by decide +kernel) (by decide +kernel)
theorem cv_RX8_71 : xCV RX8 71 md_X8_single 8 2 := ⟨_, _, _, cb_8, rfl, cw_X8_single, wd_993, wd_995, ws_41⟩
abbrev md_X8_build : xMd := (yX8_build, cX8_build, 6, (some .int))
theorem cb_0 : xCB 0 RX0 TX0 (xnf 0) tyX0 := ⟨rfl, fun w h => List.mem_filter.mpr ⟨List.mem_append_right _ ((by decide +kernel : ∀ w ∈ u_ws RX0 TX0 (xnf 0), w ∈ tables_1) w h), (by decide +kernel : ∀ w ∈ u_ws RX0 TX0 (xnf 0), goodWord w = true) w h⟩, tyX0_ok, nmX0, by decide⟩
theorem wd_329 : (Jvm.Cond.fieldLink "KnowledgeRoom$Decider" (18 : Nat) "KnowledgeRoom$Decider" "terms" "LKnowledgeRoom$Terms;") ∈ xTG := xmem 329 (by decide +kernel) (by decide +kernel)
theorem fl_RX0_18 : xFL RX0 18 0 1 := ⟨_, _, _, cb_0, by decide, wd_329⟩
theorem wd_289 : (Jvm.Cond.fieldLink "KnowledgeRoom$Decider" (95 : Nat) "KnowledgeRoom$Terms" "token" "[I") ∈ xTG := xmem 289 (by decide +kernel) (by decide +kernel)
theorem fl_RX0_95 : xFL RX0 95 8 0 := ⟨_, _, _, cb_8, by decide, wd_289⟩
theorem wd_297 : (Jvm.Cond.fieldLink "KnowledgeRoom$Decider" (98 : Nat) "KnowledgeRoom$Terms" "base" "[I") ∈ xTG := xmem 297 (by decide +kernel) (by decide +kernel)
theorem fl_RX0_98 : xFL RX0 98 8 4 := ⟨_, _, _, cb_8, by decide, wd_297⟩
abbrev md_X0_tokenAt : xMd := (yX0_tokenAt, cX0_tokenAt, 2, (some .int))
theorem wd_336 : (Jvm.Cond.fieldLink "KnowledgeRoom$Decider" (41 : Nat) "KnowledgeRoom$Decider" "knownBits" "[I") ∈ xTG := xmem 336 (by decide +kernel) (by decide +kernel)
theorem fl_RX0_41 : xFL RX0 41 0 8 := ⟨_, _, _, cb_0, by decide, wd_336⟩
theorem wd_303 : (Jvm.Cond.fieldLink "KnowledgeRoom$Decider" (73 : Nat) "KnowledgeRoom$Terms" "baseSize" "I") ∈ xTG := xmem 303 (by decide +kernel) (by decide +kernel)
theorem fl_RX0_73 : xFL RX0 73 8 8 := ⟨_, _, _, cb_8, by decide, wd_303⟩
theorem wd_1015 : (Jvm.Cond.code ({ cls := "KnowledgeRoom$Decider", name := "tokenAt", desc := "(I)I" } : Jvm.MethodName) prog_2_method_4_code (2 : Nat) (Option.some Jvm.ClassFile.FieldType.int)) ∈ xTG := xmem 1015 (by decide +kernel) (by decide +kernel)
theorem wd_12 : (Jvm.Cond.initialized "KnowledgeRoom$Decider") ∈ xTG := xmem 12 (by decide +kernel) (by decide +kernel)
theorem cw_X0_tokenAt : xcw md_X0_tokenAt 1 := ⟨wd_1015, wd_12, by decide +kernel, by decide⟩
theorem wd_1012 : (Jvm.Cond.methodLink "KnowledgeRoom$Decider" (104 : Nat) ({ cls := "KnowledgeRoom$Decider", name := "tokenAt", desc := "(I)I" } : Jvm.MethodName)) ∈ xTG := xmem 1012 (by decide +kernel) (by decide +kernel)
theorem wd_1014 : (Jvm.Cond.instanceMethod ({ cls := "KnowledgeRoom$Decider", name := "tokenAt", desc := "(I)I" } : Jvm.MethodName)) ∈ xTG := xmem 1014 (by decide +kernel) (by decide +kernel)
theorem ws_45 : Cond.selects "KnowledgeRoom$Decider" ⟨"KnowledgeRoom$Decider", "tokenAt", "(I)I"⟩ ⟨"KnowledgeRoom$Decider", "tokenAt", "(I)I"⟩ ∈ xTG := xmemP 45 (by decide +kernel) (by decide +kernel)
theorem cv_RX0_104 : xCV RX0 104 md_X0_tokenAt 0 1 := ⟨_, _, _, cb_0, rfl, cw_X0_tokenAt, wd_1012, wd_1014, ws_45⟩
theorem wn_1016 : (Jvm.Cond.methodLinkNest "KnowledgeRoom$Decider" (108 : Nat) ({ cls := "KnowledgeRoom", name := "withAgents", desc := "(II)I" } : Jvm.MethodName) "KnowledgeRoom") ∈ xNW := xmemN 1016 (by decide +kernel) rfl
theorem cn_RX0_108 : xCSN RX0 108 md_X11_withAgents 2 := ⟨_, cw_X11_withAgents, wn_1016, wd_552⟩
abbrev md_X0_findKnownBits : xMd := (yX0_findKnownBits, cX0_findKnownBits, 3, none)
theorem wd_1021 : (Jvm.Cond.constantLong "KnowledgeRoom$Decider" (87 : Nat) (-1 : Int64)) ∈ xTG := xmem 1021 (by decide +kernel) (by decide +kernel)
theorem wd_1030 : (Jvm.Cond.fieldLink "KnowledgeRoom$Decider" (101 : Nat) "KnowledgeRoom$Decider" "SET" "[J") ∈ xTG := xmem 1030 (by decide +kernel) (by decide +kernel)
abbrev md_X0_telling : xMd := (yX0_telling, cX0_telling, 3, (some .long))
theorem wd_295 : (Jvm.Cond.fieldLink "KnowledgeRoom$Decider" (128 : Nat) "KnowledgeRoom$Terms" "baseOf" "[I") ∈ xTG := xmem 295 (by decide +kernel) (by decide +kernel)
theorem fl_RX0_128 : xFL RX0 128 8 3 := ⟨_, _, _, cb_8, by decide, wd_295⟩
theorem wd_330 : (Jvm.Cond.fieldLink "KnowledgeRoom$Decider" (22 : Nat) "KnowledgeRoom$Decider" "value" "[J") ∈ xTG := xmem 330 (by decide +kernel) (by decide +kernel)
theorem fl_RX0_22 : xFL RX0 22 0 2 := ⟨_, _, _, cb_0, by decide, wd_330⟩
theorem wd_291 : (Jvm.Cond.fieldLink "KnowledgeRoom$Decider" (119 : Nat) "KnowledgeRoom$Terms" "left" "[I") ∈ xTG := xmem 291 (by decide +kernel) (by decide +kernel)
theorem fl_RX0_119 : xFL RX0 119 8 1 := ⟨_, _, _, cb_8, by decide, wd_291⟩
theorem wd_293 : (Jvm.Cond.fieldLink "KnowledgeRoom$Decider" (131 : Nat) "KnowledgeRoom$Terms" "right" "[I") ∈ xTG := xmem 293 (by decide +kernel) (by decide +kernel)
theorem fl_RX0_131 : xFL RX0 131 8 2 := ⟨_, _, _, cb_8, by decide, wd_293⟩
theorem wn_1032 : (Jvm.Cond.methodLinkNest "KnowledgeRoom$Decider" (134 : Nat) ({ cls := "KnowledgeRoom", name := "signOf", desc := "(I)I" } : Jvm.MethodName) "KnowledgeRoom") ∈ xNW := xmemN 1032 (by decide +kernel) rfl
theorem cn_RX0_134 : xCSN RX0 134 md_X11_signOf 1 := ⟨_, cw_X11_signOf, wn_1032, wd_608⟩
theorem wd_1029 : (Jvm.Cond.code ({ cls := "KnowledgeRoom$Decider", name := "telling", desc := "(II)J" } : Jvm.MethodName) prog_2_method_5_code (3 : Nat) (Option.some Jvm.ClassFile.FieldType.long)) ∈ xTG := xmem 1029 (by decide +kernel) (by decide +kernel)
theorem cw_X0_telling : xcw md_X0_telling 2 := ⟨wd_1029, wd_12, by decide +kernel, by decide⟩
theorem wd_1026 : (Jvm.Cond.methodLink "KnowledgeRoom$Decider" (122 : Nat) ({ cls := "KnowledgeRoom$Decider", name := "telling", desc := "(II)J" } : Jvm.MethodName)) ∈ xTG := xmem 1026 (by decide +kernel) (by decide +kernel)
theorem wd_1028 : (Jvm.Cond.instanceMethod ({ cls := "KnowledgeRoom$Decider", name := "telling", desc := "(II)J" } : Jvm.MethodName)) ∈ xTG := xmem 1028 (by decide +kernel) (by decide +kernel)
theorem ws_48 : Cond.selects "KnowledgeRoom$Decider" ⟨"KnowledgeRoom$Decider", "telling", "(II)J"⟩ ⟨"KnowledgeRoom$Decider", "telling", "(II)J"⟩ ∈ xTG := xmemP 48 (by decide +kernel) (by decide +kernel)
theorem cv_RX0_122 : xCV RX0 122 md_X0_telling 0 2 := ⟨_, _, _, cb_0, rfl, cw_X0_telling, wd_1026, wd_1028, ws_48⟩
abbrev md_X0_valueOf : xMd := (yX0_valueOf, cX0_valueOf, 7, (some .long))
abbrev md_X11_agentsOf : xMd := (yX11_agentsOf, cX11_agentsOf, 1, (some .int))
theorem wd_1043 : (Jvm.Cond.code ({ cls := "KnowledgeRoom", name := "agentsOf", desc := "(I)I" } : Jvm.MethodName) prog_1_method_35_code (1 : Nat) (Option.some Jvm.ClassFile.FieldType.int)) ∈ xTG := xmem 1043 (by decide +kernel) (by decide +kernel)
theorem cw_X11_agentsOf : xcw md_X11_agentsOf 1 := ⟨wd_1043, wd_1, by decide +kernel, by decide⟩
theorem wn_1041 : (Jvm.Cond.methodLinkNest "KnowledgeRoom$Decider" (141 : Nat) ({ cls := "KnowledgeRoom", name := "agentsOf", desc := "(I)I" } : Jvm.MethodName) "KnowledgeRoom") ∈ xNW := xmemN 1041 (by decide +kernel) rfl
theorem wd_1042 : (Jvm.Cond.static ({ cls := "KnowledgeRoom", name := "agentsOf", desc := "(I)I" } : Jvm.MethodName)) ∈ xTG := xmem 1042 (by decide +kernel) (by decide +kernel)
theorem cn_RX0_141 : xCSN RX0 141 md_X11_agentsOf 1 := ⟨_, cw_X11_agentsOf, wn_1041, wd_1042⟩
abbrev md_X0_isKnownCommon : xMd := (yX0_isKnownCommon, cX0_isKnownCommon, 3, (some .boolean))
theorem wd_331 : (Jvm.Cond.fieldLink "KnowledgeRoom$Decider" (26 : Nat) "KnowledgeRoom$Decider" "parts" "[J") ∈ xTG := xmem 331 (by decide +kernel) (by decide +kernel)
theorem fl_RX0_26 : xFL RX0 26 0 3 := ⟨_, _, _, cb_0, by decide, wd_331⟩
theorem wd_1040 : (Jvm.Cond.code ({ cls := "KnowledgeRoom$Decider", name := "isKnownCommon", desc := "(II)Z" } : Jvm.MethodName) prog_2_method_10_code (3 : Nat) (Option.some Jvm.ClassFile.FieldType.boolean)) ∈ xTG := xmem 1040 (by decide +kernel) (by decide +kernel)
theorem cw_X0_isKnownCommon : xcw md_X0_isKnownCommon 2 := ⟨wd_1040, wd_12, by decide +kernel, by decide⟩
theorem wd_1037 : (Jvm.Cond.methodLink "KnowledgeRoom$Decider" (137 : Nat) ({ cls := "KnowledgeRoom$Decider", name := "isKnownCommon", desc := "(II)Z" } : Jvm.MethodName)) ∈ xTG := xmem 1037 (by decide +kernel) (by decide +kernel)
theorem wd_1039 : (Jvm.Cond.instanceMethod ({ cls := "KnowledgeRoom$Decider", name := "isKnownCommon", desc := "(II)Z" } : Jvm.MethodName)) ∈ xTG := xmem 1039 (by decide +kernel) (by decide +kernel)
theorem ws_50 : Cond.selects "KnowledgeRoom$Decider" ⟨"KnowledgeRoom$Decider", "isKnownCommon", "(II)Z"⟩ ⟨"KnowledgeRoom$Decider", "isKnownCommon", "(II)Z"⟩ ∈ xTG := xmemP 50 (by decide +kernel) (by decide +kernel)
theorem cv_RX0_137 : xCV RX0 137 md_X0_isKnownCommon 0 2 := ⟨_, _, _, cb_0, rfl, cw_X0_isKnownCommon, wd_1037, wd_1039, ws_50⟩
abbrev md_X0_lawful : xMd := (yX0_lawful, cX0_lawful, 7, (some .long))
theorem wd_337 : (Jvm.Cond.fieldLink "KnowledgeRoom$Decider" (84 : Nat) "KnowledgeRoom$Decider" "words" "I") ∈ xTG := xmem 337 (by decide +kernel) (by decide +kernel)
theorem fp_RX0_84 : xFP RX0 84 0 9 .int := ⟨_, _, _, cb_0, by decide, wd_337, rfl, rfl⟩
theorem fl_RX0_84 : xFL RX0 84 0 9 := ⟨_, _, _, cb_0, by decide, wd_337⟩
theorem wd_301 : (Jvm.Cond.fieldLink "KnowledgeRoom$Decider" (112 : Nat) "KnowledgeRoom$Terms" "size" "I") ∈ xTG := xmem 301 (by decide +kernel) (by decide +kernel)
theorem fl_RX0_112 : xFL RX0 112 8 7 := ⟨_, _, _, cb_8, by decide, wd_301⟩
theorem wd_332 : (Jvm.Cond.fieldLink "KnowledgeRoom$Decider" (29 : Nat) "KnowledgeRoom$Decider" "wholes" "[J") ∈ xTG := xmem 332 (by decide +kernel) (by decide +kernel)
theorem fl_RX0_29 : xFL RX0 29 0 4 := ⟨_, _, _, cb_0, by decide, wd_332⟩
theorem wd_333 : (Jvm.Cond.fieldLink "KnowledgeRoom$Decider" (32 : Nat) "KnowledgeRoom$Decider" "types" "[J") ∈ xTG := xmem 333 (by decide +kernel) (by decide +kernel)
theorem fl_RX0_32 : xFL RX0 32 0 5 := ⟨_, _, _, cb_0, by decide, wd_333⟩
theorem wd_1025 : (Jvm.Cond.code ({ cls := "KnowledgeRoom$Decider", name := "valueOf", desc := "(II)J" } : Jvm.MethodName) prog_2_method_8_code (7 : Nat) (Option.some Jvm.ClassFile.FieldType.long)) ∈ xTG := xmem 1025 (by decide +kernel) (by decide +kernel)
theorem cw_X0_valueOf : xcw md_X0_valueOf 2 := ⟨wd_1025, wd_12, by decide +kernel, by decide⟩
theorem wd_1022 : (Jvm.Cond.methodLink "KnowledgeRoom$Decider" (115 : Nat) ({ cls := "KnowledgeRoom$Decider", name := "valueOf", desc := "(II)J" } : Jvm.MethodName)) ∈ xTG := xmem 1022 (by decide +kernel) (by decide +kernel)
theorem wd_1024 : (Jvm.Cond.instanceMethod ({ cls := "KnowledgeRoom$Decider", name := "valueOf", desc := "(II)J" } : Jvm.MethodName)) ∈ xTG := xmem 1024 (by decide +kernel) (by decide +kernel)
theorem ws_47 : Cond.selects "KnowledgeRoom$Decider" ⟨"KnowledgeRoom$Decider", "valueOf", "(II)J"⟩ ⟨"KnowledgeRoom$Decider", "valueOf", "(II)J"⟩ ∈ xTG := xmemP 47 (by decide +kernel) (by decide +kernel)
theorem cv_RX0_115 : xCV RX0 115 md_X0_valueOf 0 2 := ⟨_, _, _, cb_0, rfl, cw_X0_valueOf, wd_1022, wd_1024, ws_47⟩
theorem wd_1036 : (Jvm.Cond.code ({ cls := "KnowledgeRoom$Decider", name := "lawful", desc := "(II)J" } : Jvm.MethodName) prog_2_method_9_code (7 : Nat) (Option.some Jvm.ClassFile.FieldType.long)) ∈ xTG := xmem 1036 (by decide +kernel) (by decide +kernel)
theorem cw_X0_lawful : xcw md_X0_lawful 2 := ⟨wd_1036, wd_12, by decide +kernel, by decide⟩
theorem wd_1033 : (Jvm.Cond.methodLink "KnowledgeRoom$Decider" (125 : Nat) ({ cls := "KnowledgeRoom$Decider", name := "lawful", desc := "(II)J" } : Jvm.MethodName)) ∈ xTG := xmem 1033 (by decide +kernel) (by decide +kernel)
theorem wd_1035 : (Jvm.Cond.instanceMethod ({ cls := "KnowledgeRoom$Decider", name := "lawful", desc := "(II)J" } : Jvm.MethodName)) ∈ xTG := xmem 1035 (by decide +kernel) (by decide +kernel)
theorem ws_49 : Cond.selects "KnowledgeRoom$Decider" ⟨"KnowledgeRoom$Decider", "lawful", "(II)J"⟩ ⟨"KnowledgeRoom$Decider", "lawful", "(II)J"⟩ ∈ xTG := xmemP 49 (by decide +kernel) (by decide +kernel)
theorem cv_RX0_125 : xCV RX0 125 md_X0_lawful 0 2 := ⟨_, _, _, cb_0, rfl, cw_X0_lawful, wd_1033, wd_1035, ws_49⟩
abbrev md_X0_makeTypes : xMd := (yX0_makeTypes, cX0_makeTypes, 7, none)
theorem wd_452 : (Jvm.Cond.constantLong "java/lang/Long" (314 : Nat) (6148914691236517205 : Int64)) ∈ xTG := xmem 452 (by decide +kernel) (by decide +kernel)
theorem wd_453 : (Jvm.Cond.constantLong "java/lang/Long" (316 : Nat) (3689348814741910323 : Int64)) ∈ xTG := xmem 453 (by decide +kernel) (by decide +kernel)
theorem wd_454 : (Jvm.Cond.constantLong "java/lang/Long" (318 : Nat) (1085102592571150095 : Int64)) ∈ xTG := xmem 454 (by decide +kernel) (by decide +kernel)
abbrev md_J13_bitCount_95d88 : xMd := (yJ13_bitCount_95d88, cJ13_bitCount_95d88, 2, (some .int))
theorem wd_451 : (Jvm.Cond.code ({ cls := "java/lang/Long", name := "bitCount", desc := "(J)I" } : Jvm.MethodName) prog_17_method_50_code (2 : Nat) (Option.some Jvm.ClassFile.FieldType.int)) ∈ xTG := xmem 451 (by decide +kernel) (by decide +kernel)
theorem wd_15 : (Jvm.Cond.initialized "java/lang/Long") ∈ xTG := xmem 15 (by decide +kernel) (by decide +kernel)
theorem cw_J13_bitCount_95d88 : xcw md_J13_bitCount_95d88 1 := ⟨wd_451, wd_15, by decide +kernel, by decide⟩
theorem wd_1048 : (Jvm.Cond.methodLink "KnowledgeRoom$Decider" (89 : Nat) ({ cls := "java/lang/Long", name := "bitCount", desc := "(J)I" } : Jvm.MethodName)) ∈ xTG := xmem 1048 (by decide +kernel) (by decide +kernel)
theorem wd_450 : (Jvm.Cond.static ({ cls := "java/lang/Long", name := "bitCount", desc := "(J)I" } : Jvm.MethodName)) ∈ xTG := xmem 450 (by decide +kernel) (by decide +kernel)
theorem cs_RX0_89 : xCS RX0 89 md_J13_bitCount_95d88 1 := ⟨cw_J13_bitCount_95d88, wd_1048, wd_450⟩
abbrev md_X0_sizeOf : xMd := (yX0_sizeOf, cX0_sizeOf, 4, (some .int))
theorem wd_335 : (Jvm.Cond.fieldLink "KnowledgeRoom$Decider" (38 : Nat) "KnowledgeRoom$Decider" "come" "[J") ∈ xTG := xmem 335 (by decide +kernel) (by decide +kernel)
theorem fl_RX0_38 : xFL RX0 38 0 7 := ⟨_, _, _, cb_0, by decide, wd_335⟩
abbrev md_X0_startDoubt : xMd := (yX0_startDoubt, cX0_startDoubt, 3, none)
theorem wd_334 : (Jvm.Cond.fieldLink "KnowledgeRoom$Decider" (35 : Nat) "KnowledgeRoom$Decider" "found" "[J") ∈ xTG := xmem 334 (by decide +kernel) (by decide +kernel)
theorem fl_RX0_35 : xFL RX0 35 0 6 := ⟨_, _, _, cb_0, by decide, wd_334⟩
abbrev md_X0_leaveOpen : xMd := (yX0_leaveOpen, cX0_leaveOpen, 6, none)
theorem wd_1066 : (Jvm.Cond.methodLink "KnowledgeRoom$Decider" (160 : Nat) ({ cls := "java/lang/System", name := "arraycopy", desc := "(Ljava/lang/Object;ILjava/lang/Object;II)V" } : Jvm.MethodName)) ∈ xTG := xmem 1066 (by decide +kernel) (by decide +kernel)
theorem wd_586 : (Jvm.Cond.native ({ cls := "java/lang/System", name := "arraycopy", desc := "(Ljava/lang/Object;ILjava/lang/Object;II)V" } : Jvm.MethodName)) ∈ xTG := xmem 586 (by decide +kernel) (by decide +kernel)
theorem wd_585 : (Jvm.Cond.static ({ cls := "java/lang/System", name := "arraycopy", desc := "(Ljava/lang/Object;ILjava/lang/Object;II)V" } : Jvm.MethodName)) ∈ xTG := xmem 585 (by decide +kernel) (by decide +kernel)
theorem wd_16 : (Jvm.Cond.initialized "java/lang/System") ∈ xTG := xmem 16 (by decide +kernel) (by decide +kernel)
theorem cp_RX0_160 : xCPw RX0 160 := ⟨wd_1066, wd_586, wd_585, wd_16⟩
theorem wd_1070 : (Jvm.Cond.code ({ cls := "KnowledgeRoom$Decider", name := "leaveOpen", desc := "(I)V" } : Jvm.MethodName) prog_2_method_15_code (6 : Nat) (Option.none : Option Jvm.ClassFile.FieldType)) ∈ xTG := xmem 1070 (by decide +kernel) (by decide +kernel)
theorem cw_X0_leaveOpen : xcw md_X0_leaveOpen 1 := ⟨wd_1070, wd_12, by decide +kernel, by decide⟩
theorem wd_1067 : (Jvm.Cond.methodLink "KnowledgeRoom$Decider" (166 : Nat) ({ cls := "KnowledgeRoom$Decider", name := "leaveOpen", desc := "(I)V" } : Jvm.MethodName)) ∈ xTG := xmem 1067 (by decide +kernel) (by decide +kernel)
theorem wd_1069 : (Jvm.Cond.instanceMethod ({ cls := "KnowledgeRoom$Decider", name := "leaveOpen", desc := "(I)V" } : Jvm.MethodName)) ∈ xTG := xmem 1069 (by decide +kernel) (by decide +kernel)
theorem ws_56 : Cond.selects "KnowledgeRoom$Decider" ⟨"KnowledgeRoom$Decider", "leaveOpen", "(I)V"⟩ ⟨"KnowledgeRoom$Decider", "leaveOpen", "(I)V"⟩ ∈ xTG := xmemP 56 (by decide +kernel) (by decide +kernel)
theorem cv_RX0_166 : xCV RX0 166 md_X0_leaveOpen 0 1 := ⟨_, _, _, cb_0, rfl, cw_X0_leaveOpen, wd_1067, wd_1069, ws_56⟩
abbrev md_X0_spreadBy : xMd := (yX0_spreadBy, cX0_spreadBy, 6, (some .boolean))
theorem wn_1061 : (Jvm.Cond.methodLinkNest "KnowledgeRoom$Decider" (154 : Nat) ({ cls := "KnowledgeRoom", name := "hasAgent", desc := "(II)Z" } : Jvm.MethodName) "KnowledgeRoom") ∈ xNW := xmemN 1061 (by decide +kernel) rfl
theorem cn_RX0_154 : xCSN RX0 154 md_X11_hasAgent 2 := ⟨_, cw_X11_hasAgent, wn_1061, wd_639⟩
theorem wd_1065 : (Jvm.Cond.code ({ cls := "KnowledgeRoom$Decider", name := "spreadBy", desc := "(I)Z" } : Jvm.MethodName) prog_2_method_14_code (6 : Nat) (Option.some Jvm.ClassFile.FieldType.boolean)) ∈ xTG := xmem 1065 (by decide +kernel) (by decide +kernel)
theorem cw_X0_spreadBy : xcw md_X0_spreadBy 1 := ⟨wd_1065, wd_12, by decide +kernel, by decide⟩
theorem wd_1062 : (Jvm.Cond.methodLink "KnowledgeRoom$Decider" (157 : Nat) ({ cls := "KnowledgeRoom$Decider", name := "spreadBy", desc := "(I)Z" } : Jvm.MethodName)) ∈ xTG := xmem 1062 (by decide +kernel) (by decide +kernel)
theorem wd_1064 : (Jvm.Cond.instanceMethod ({ cls := "KnowledgeRoom$Decider", name := "spreadBy", desc := "(I)Z" } : Jvm.MethodName)) ∈ xTG := xmem 1064 (by decide +kernel) (by decide +kernel)
theorem ws_55 : Cond.selects "KnowledgeRoom$Decider" ⟨"KnowledgeRoom$Decider", "spreadBy", "(I)Z"⟩ ⟨"KnowledgeRoom$Decider", "spreadBy", "(I)Z"⟩ ∈ xTG := xmemP 55 (by decide +kernel) (by decide +kernel)
theorem cv_RX0_157 : xCV RX0 157 md_X0_spreadBy 0 1 := ⟨_, _, _, cb_0, rfl, cw_X0_spreadBy, wd_1062, wd_1064, ws_55⟩
abbrev md_X0_spread : xMd := (yX0_spread, cX0_spread, 5, none)
abbrev md_X0_drop : xMd := (yX0_drop, cX0_drop, 6, (some .boolean))
theorem wd_1056 : (Jvm.Cond.code ({ cls := "KnowledgeRoom$Decider", name := "startDoubt", desc := "(I)V" } : Jvm.MethodName) prog_2_method_12_code (3 : Nat) (Option.none : Option Jvm.ClassFile.FieldType)) ∈ xTG := xmem 1056 (by decide +kernel) (by decide +kernel)
theorem cw_X0_startDoubt : xcw md_X0_startDoubt 1 := ⟨wd_1056, wd_12, by decide +kernel, by decide⟩
theorem wd_1053 : (Jvm.Cond.methodLink "KnowledgeRoom$Decider" (144 : Nat) ({ cls := "KnowledgeRoom$Decider", name := "startDoubt", desc := "(I)V" } : Jvm.MethodName)) ∈ xTG := xmem 1053 (by decide +kernel) (by decide +kernel)
theorem wd_1055 : (Jvm.Cond.instanceMethod ({ cls := "KnowledgeRoom$Decider", name := "startDoubt", desc := "(I)V" } : Jvm.MethodName)) ∈ xTG := xmem 1055 (by decide +kernel) (by decide +kernel)
theorem ws_53 : Cond.selects "KnowledgeRoom$Decider" ⟨"KnowledgeRoom$Decider", "startDoubt", "(I)V"⟩ ⟨"KnowledgeRoom$Decider", "startDoubt", "(I)V"⟩ ∈ xTG := xmemP 53 (by decide +kernel) (by decide +kernel)
theorem cv_RX0_144 : xCV RX0 144 md_X0_startDoubt 0 1 := ⟨_, _, _, cb_0, rfl, cw_X0_startDoubt, wd_1053, wd_1055, ws_53⟩
theorem wd_1060 : (Jvm.Cond.code ({ cls := "KnowledgeRoom$Decider", name := "spread", desc := "(I)V" } : Jvm.MethodName) prog_2_method_13_code (5 : Nat) (Option.none : Option Jvm.ClassFile.FieldType)) ∈ xTG := xmem 1060 (by decide +kernel) (by decide +kernel)
theorem cw_X0_spread : xcw md_X0_spread 1 := ⟨wd_1060, wd_12, by decide +kernel, by decide⟩
theorem wd_1057 : (Jvm.Cond.methodLink "KnowledgeRoom$Decider" (147 : Nat) ({ cls := "KnowledgeRoom$Decider", name := "spread", desc := "(I)V" } : Jvm.MethodName)) ∈ xTG := xmem 1057 (by decide +kernel) (by decide +kernel)
theorem wd_1059 : (Jvm.Cond.instanceMethod ({ cls := "KnowledgeRoom$Decider", name := "spread", desc := "(I)V" } : Jvm.MethodName)) ∈ xTG := xmem 1059 (by decide +kernel) (by decide +kernel)
theorem ws_54 : Cond.selects "KnowledgeRoom$Decider" ⟨"KnowledgeRoom$Decider", "spread", "(I)V"⟩ ⟨"KnowledgeRoom$Decider", "spread", "(I)V"⟩ ∈ xTG := xmemP 54 (by decide +kernel) (by decide +kernel)
theorem cv_RX0_147 : xCV RX0 147 md_X0_spread 0 1 := ⟨_, _, _, cb_0, rfl, cw_X0_spread, wd_1057, wd_1059, ws_54⟩
theorem wd_1074 : (Jvm.Cond.code ({ cls := "KnowledgeRoom$Decider", name := "drop", desc := "(I)Z" } : Jvm.MethodName) prog_2_method_16_code (6 : Nat) (Option.some Jvm.ClassFile.FieldType.boolean)) ∈ xTG := xmem 1074 (by decide +kernel) (by decide +kernel)
theorem cw_X0_drop : xcw md_X0_drop 1 := ⟨wd_1074, wd_12, by decide +kernel, by decide⟩
theorem wd_1071 : (Jvm.Cond.methodLink "KnowledgeRoom$Decider" (150 : Nat) ({ cls := "KnowledgeRoom$Decider", name := "drop", desc := "(I)Z" } : Jvm.MethodName)) ∈ xTG := xmem 1071 (by decide +kernel) (by decide +kernel)
theorem wd_1073 : (Jvm.Cond.instanceMethod ({ cls := "KnowledgeRoom$Decider", name := "drop", desc := "(I)Z" } : Jvm.MethodName)) ∈ xTG := xmem 1073 (by decide +kernel) (by decide +kernel)
theorem ws_57 : Cond.selects "KnowledgeRoom$Decider" ⟨"KnowledgeRoom$Decider", "drop", "(I)Z"⟩ ⟨"KnowledgeRoom$Decider", "drop", "(I)Z"⟩ ∈ xTG := xmemP 57 (by decide +kernel) (by decide +kernel)
theorem cv_RX0_150 : xCV RX0 150 md_X0_drop 0 1 := ⟨_, _, _, cb_0, rfl, cw_X0_drop, wd_1071, wd_1073, ws_57⟩
abbrev md_X0_sift : xMd := (yX0_sift, cX0_sift, 5, none)
theorem wd_860 : (Jvm.Cond.code ({ cls := "KnowledgeRoom$Formula", name := "hasAny", desc := "(Ljava/lang/String;)Z" } : Jvm.MethodName) prog_4_method_6_code (3 : Nat) (Option.some Jvm.ClassFile.FieldType.boolean)) ∈ xTG := xmem 860 (by decide +kernel) (by decide +kernel)
theorem wd_5 : (Jvm.Cond.initialized "KnowledgeRoom$Formula") ∈ xTG := xmem 5 (by decide +kernel) (by decide +kernel)
theorem cw_X2_hasAny : xcw md_X2_hasAny 1 := ⟨wd_860, wd_5, by decide +kernel, by decide⟩
theorem wd_974 : (Jvm.Cond.methodLink "KnowledgeRoom$Decider" (46 : Nat) ({ cls := "KnowledgeRoom$Formula", name := "hasAny", desc := "(Ljava/lang/String;)Z" } : Jvm.MethodName)) ∈ xTG := xmem 974 (by decide +kernel) (by decide +kernel)
theorem wd_858 : (Jvm.Cond.instanceMethod ({ cls := "KnowledgeRoom$Formula", name := "hasAny", desc := "(Ljava/lang/String;)Z" } : Jvm.MethodName)) ∈ xTG := xmem 858 (by decide +kernel) (by decide +kernel)
theorem wd_859 : (Jvm.Cond.selects "KnowledgeRoom$Formula" ({ cls := "KnowledgeRoom$Formula", name := "hasAny", desc := "(Ljava/lang/String;)Z" } : Jvm.MethodName) ({ cls := "KnowledgeRoom$Formula", name := "hasAny", desc := "(Ljava/lang/String;)Z" } : Jvm.MethodName)) ∈ xTG := xmem 859 (by decide +kernel) (by decide +kernel)
theorem cv_RX0_46 : xCV RX0 46 md_X2_hasAny 2 1 := ⟨_, _, _, cb_2, rfl, cw_X2_hasAny, wd_974, wd_858, wd_859⟩
theorem wd_981 : (Jvm.Cond.code ({ cls := "KnowledgeRoom$Terms", name := "build", desc := "(LKnowledgeRoom$Formula;)I" } : Jvm.MethodName) prog_10_method_2_code (6 : Nat) (Option.some Jvm.ClassFile.FieldType.int)) ∈ xTG := xmem 981 (by decide +kernel) (by decide +kernel)
theorem cw_X8_build : xcw md_X8_build 1 := ⟨wd_981, wd_13, by decide +kernel, by decide⟩
theorem wd_978 : (Jvm.Cond.methodLink "KnowledgeRoom$Decider" (58 : Nat) ({ cls := "KnowledgeRoom$Terms", name := "build", desc := "(LKnowledgeRoom$Formula;)I" } : Jvm.MethodName)) ∈ xTG := xmem 978 (by decide +kernel) (by decide +kernel)
theorem wd_979 : (Jvm.Cond.instanceMethod ({ cls := "KnowledgeRoom$Terms", name := "build", desc := "(LKnowledgeRoom$Formula;)I" } : Jvm.MethodName)) ∈ xTG := xmem 979 (by decide +kernel) (by decide +kernel)
theorem wd_980 : (Jvm.Cond.selects "KnowledgeRoom$Terms" ({ cls := "KnowledgeRoom$Terms", name := "build", desc := "(LKnowledgeRoom$Formula;)I" } : Jvm.MethodName) ({ cls := "KnowledgeRoom$Terms", name := "build", desc := "(LKnowledgeRoom$Formula;)I" } : Jvm.MethodName)) ∈ xTG := xmem 980 (by decide +kernel) (by decide +kernel)
theorem cv_RX0_58 : xCV RX0 58 md_X8_build 8 1 := ⟨_, _, _, cb_8, rfl, cw_X8_build, wd_978, wd_979, wd_980⟩
theorem wd_305 : (Jvm.Cond.fieldLink "KnowledgeRoom$Decider" (62 : Nat) "KnowledgeRoom$Terms" "great" "Z") ∈ xTG := xmem 305 (by decide +kernel) (by decide +kernel)
theorem fl_RX0_62 : xFL RX0 62 8 9 := ⟨_, _, _, cb_8, by decide, wd_305⟩
theorem wd_1011 : (Jvm.Cond.code ({ cls := "KnowledgeRoom$Decider", name := "findKnownBits", desc := "()V" } : Jvm.MethodName) prog_2_method_6_code (3 : Nat) (Option.none : Option Jvm.ClassFile.FieldType)) ∈ xTG := xmem 1011 (by decide +kernel) (by decide +kernel)
theorem cw_X0_findKnownBits : xcw md_X0_findKnownBits 0 := ⟨wd_1011, wd_12, by decide +kernel, by decide⟩
theorem wd_1008 : (Jvm.Cond.methodLink "KnowledgeRoom$Decider" (66 : Nat) ({ cls := "KnowledgeRoom$Decider", name := "findKnownBits", desc := "()V" } : Jvm.MethodName)) ∈ xTG := xmem 1008 (by decide +kernel) (by decide +kernel)
theorem wd_1010 : (Jvm.Cond.instanceMethod ({ cls := "KnowledgeRoom$Decider", name := "findKnownBits", desc := "()V" } : Jvm.MethodName)) ∈ xTG := xmem 1010 (by decide +kernel) (by decide +kernel)
theorem ws_44 : Cond.selects "KnowledgeRoom$Decider" ⟨"KnowledgeRoom$Decider", "findKnownBits", "()V"⟩ ⟨"KnowledgeRoom$Decider", "findKnownBits", "()V"⟩ ∈ xTG := xmemP 44 (by decide +kernel) (by decide +kernel)
theorem cv_RX0_66 : xCV RX0 66 md_X0_findKnownBits 0 0 := ⟨_, _, _, cb_0, rfl, cw_X0_findKnownBits, wd_1008, wd_1010, ws_44⟩
theorem wd_1020 : (Jvm.Cond.code ({ cls := "KnowledgeRoom$Decider", name := "makeTypes", desc := "(I)V" } : Jvm.MethodName) prog_2_method_7_code (7 : Nat) (Option.none : Option Jvm.ClassFile.FieldType)) ∈ xTG := xmem 1020 (by decide +kernel) (by decide +kernel)
theorem cw_X0_makeTypes : xcw md_X0_makeTypes 1 := ⟨wd_1020, wd_12, by decide +kernel, by decide⟩
theorem wd_1017 : (Jvm.Cond.methodLink "KnowledgeRoom$Decider" (69 : Nat) ({ cls := "KnowledgeRoom$Decider", name := "makeTypes", desc := "(I)V" } : Jvm.MethodName)) ∈ xTG := xmem 1017 (by decide +kernel) (by decide +kernel)
theorem wd_1019 : (Jvm.Cond.instanceMethod ({ cls := "KnowledgeRoom$Decider", name := "makeTypes", desc := "(I)V" } : Jvm.MethodName)) ∈ xTG := xmem 1019 (by decide +kernel) (by decide +kernel)
theorem ws_46 : Cond.selects "KnowledgeRoom$Decider" ⟨"KnowledgeRoom$Decider", "makeTypes", "(I)V"⟩ ⟨"KnowledgeRoom$Decider", "makeTypes", "(I)V"⟩ ∈ xTG := xmemP 46 (by decide +kernel) (by decide +kernel)
theorem cv_RX0_69 : xCV RX0 69 md_X0_makeTypes 0 1 := ⟨_, _, _, cb_0, rfl, cw_X0_makeTypes, wd_1017, wd_1019, ws_46⟩
theorem wd_327 : (Jvm.Cond.fieldLink "KnowledgeRoom$Decider" (13 : Nat) "KnowledgeRoom$Decider" "answers" "[I") ∈ xTG := xmem 327 (by decide +kernel) (by decide +kernel)
theorem fl_RX0_13 : xFL RX0 13 0 0 := ⟨_, _, _, cb_0, by decide, wd_327⟩
theorem wd_1047 : (Jvm.Cond.code ({ cls := "KnowledgeRoom$Decider", name := "sizeOf", desc := "(Z)I" } : Jvm.MethodName) prog_2_method_3_code (4 : Nat) (Option.some Jvm.ClassFile.FieldType.int)) ∈ xTG := xmem 1047 (by decide +kernel) (by decide +kernel)
theorem cw_X0_sizeOf : xcw md_X0_sizeOf 1 := ⟨wd_1047, wd_12, by decide +kernel, by decide⟩
theorem wd_1044 : (Jvm.Cond.methodLink "KnowledgeRoom$Decider" (77 : Nat) ({ cls := "KnowledgeRoom$Decider", name := "sizeOf", desc := "(Z)I" } : Jvm.MethodName)) ∈ xTG := xmem 1044 (by decide +kernel) (by decide +kernel)
theorem wd_1046 : (Jvm.Cond.instanceMethod ({ cls := "KnowledgeRoom$Decider", name := "sizeOf", desc := "(Z)I" } : Jvm.MethodName)) ∈ xTG := xmem 1046 (by decide +kernel) (by decide +kernel)
theorem ws_51 : Cond.selects "KnowledgeRoom$Decider" ⟨"KnowledgeRoom$Decider", "sizeOf", "(Z)I"⟩ ⟨"KnowledgeRoom$Decider", "sizeOf", "(Z)I"⟩ ∈ xTG := xmemP 51 (by decide +kernel) (by decide +kernel)
theorem cv_RX0_77 : xCV RX0 77 md_X0_sizeOf 0 1 := ⟨_, _, _, cb_0, rfl, cw_X0_sizeOf, wd_1044, wd_1046, ws_51⟩
theorem wd_1052 : (Jvm.Cond.code ({ cls := "KnowledgeRoom$Decider", name := "sift", desc := "()V" } : Jvm.MethodName) prog_2_method_11_code (5 : Nat) (Option.none : Option Jvm.ClassFile.FieldType)) ∈ xTG := xmem 1052 (by decide +kernel) (by decide +kernel)
theorem cw_X0_sift : xcw md_X0_sift 0 := ⟨wd_1052, wd_12, by decide +kernel, by decide⟩
theorem wd_1049 : (Jvm.Cond.methodLink "KnowledgeRoom$Decider" (81 : Nat) ({ cls := "KnowledgeRoom$Decider", name := "sift", desc := "()V" } : Jvm.MethodName)) ∈ xTG := xmem 1049 (by decide +kernel) (by decide +kernel)
theorem wd_1051 : (Jvm.Cond.instanceMethod ({ cls := "KnowledgeRoom$Decider", name := "sift", desc := "()V" } : Jvm.MethodName)) ∈ xTG := xmem 1051 (by decide +kernel) (by decide +kernel)
theorem ws_52 : Cond.selects "KnowledgeRoom$Decider" ⟨"KnowledgeRoom$Decider", "sift", "()V"⟩ ⟨"KnowledgeRoom$Decider", "sift", "()V"⟩ ∈ xTG := xmemP 52 (by decide +kernel) (by decide +kernel)
theorem cv_RX0_81 : xCV RX0 81 md_X0_sift 0 0 := ⟨_, _, _, cb_0, rfl, cw_X0_sift, wd_1049, wd_1051, ws_52⟩
theorem wd_975 : (Jvm.Cond.methodLink "KnowledgeRoom$Decider" (52 : Nat) ({ cls := "java/util/Arrays", name := "fill", desc := "([II)V" } : Jvm.MethodName)) ∈ xTG := xmem 975 (by decide +kernel) (by decide +kernel)
theorem cs_RX0_52 : xCS RX0 52 md_J7_fill_53178 2 := ⟨cw_J7_fill_53178, wd_975, wd_976⟩
abbrev md_X0_work : xMd := (yX0_work, cX0_work, 3, none)
theorem cb_1 : xCB 1 RX1 TX1 (xnf 1) tyX1 := ⟨rfl, fun w h => List.mem_filter.mpr ⟨List.mem_append_right _ ((by decide +kernel : ∀ w ∈ u_ws RX1 TX1 (xnf 1), w ∈ tables_1) w h), (by decide +kernel : ∀ w ∈ u_ws RX1 TX1 (xnf 1), goodWord w = true) w h⟩, tyX1_ok, nmX1, by decide⟩
theorem wd_112 : (Jvm.Cond.fieldLink "KnowledgeRoom$Events" (34 : Nat) "KnowledgeRoom$Events" "size" "I") ∈ xTG := xmem 112 (by decide +kernel) (by decide +kernel)
theorem fl_RX1_34 : xFL RX1 34 1 0 := ⟨_, _, _, cb_1, by decide, wd_112⟩
abbrev md_X1_has : xMd := (yX1_has, cX1_has, 2, (some .boolean))
theorem wd_584 : (Jvm.Cond.methodLink "KnowledgeRoom$Formula" (23 : Nat) ({ cls := "java/lang/System", name := "arraycopy", desc := "(Ljava/lang/Object;ILjava/lang/Object;II)V" } : Jvm.MethodName)) ∈ xTG := xmem 584 (by decide +kernel) (by decide +kernel)
theorem cp_RX2_23 : xCPw RX2 23 := ⟨wd_584, wd_586, wd_585, wd_16⟩
theorem fp_RX2_19 : xFP RX2 19 2 1 .int := ⟨_, _, _, cb_2, by decide, wd_98, rfl, rfl⟩
abbrev md_X2_addAll : xMd := (yX2_addAll, cX2_addAll, 5, (some .boolean))
theorem wd_583 : (Jvm.Cond.code ({ cls := "KnowledgeRoom$Formula", name := "addAll", desc := "([III)Z" } : Jvm.MethodName) prog_4_method_3_code (5 : Nat) (Option.some Jvm.ClassFile.FieldType.boolean)) ∈ xTG := xmem 583 (by decide +kernel) (by decide +kernel)
theorem cw_X2_addAll : xcw md_X2_addAll 3 := ⟨wd_583, wd_5, by decide +kernel, by decide⟩
theorem wd_580 : (Jvm.Cond.methodLink "KnowledgeRoom$Formula" (29 : Nat) ({ cls := "KnowledgeRoom$Formula", name := "addAll", desc := "([III)Z" } : Jvm.MethodName)) ∈ xTG := xmem 580 (by decide +kernel) (by decide +kernel)
theorem wd_581 : (Jvm.Cond.instanceMethod ({ cls := "KnowledgeRoom$Formula", name := "addAll", desc := "([III)Z" } : Jvm.MethodName)) ∈ xTG := xmem 581 (by decide +kernel) (by decide +kernel)
theorem wd_582 : (Jvm.Cond.selects "KnowledgeRoom$Formula" ({ cls := "KnowledgeRoom$Formula", name := "addAll", desc := "([III)Z" } : Jvm.MethodName) ({ cls := "KnowledgeRoom$Formula", name := "addAll", desc := "([III)Z" } : Jvm.MethodName)) ∈ xTG := xmem 582 (by decide +kernel) (by decide +kernel)
theorem cv_RX2_29 : xCV RX2 29 md_X2_addAll 2 3 := ⟨_, _, _, cb_2, rfl, cw_X2_addAll, wd_580, wd_581, wd_582⟩
abbrev md_X2_copy : xMd := (yX2_copy, cX2_copy, 2, none)
theorem wd_103 : (Jvm.Cond.fieldLink "KnowledgeRoom$Events" (38 : Nat) "KnowledgeRoom$Formula" "size" "I") ∈ xTG := xmem 103 (by decide +kernel) (by decide +kernel)
theorem fl_RX1_38 : xFL RX1 38 2 1 := ⟨_, _, _, cb_2, by decide, wd_103⟩
theorem fp_RX1_34 : xFP RX1 34 1 0 .int := ⟨_, _, _, cb_1, by decide, wd_112, rfl, rfl⟩
theorem wd_114 : (Jvm.Cond.fieldLink "KnowledgeRoom$Events" (13 : Nat) "KnowledgeRoom$Events" "rows" "[LKnowledgeRoom$Formula;") ∈ xTG := xmem 114 (by decide +kernel) (by decide +kernel)
theorem fl_RX1_13 : xFL RX1 13 1 1 := ⟨_, _, _, cb_1, by decide, wd_114⟩
theorem wd_579 : (Jvm.Cond.code ({ cls := "KnowledgeRoom$Formula", name := "copy", desc := "(LKnowledgeRoom$Formula;)V" } : Jvm.MethodName) prog_4_method_5_code (2 : Nat) (Option.none : Option Jvm.ClassFile.FieldType)) ∈ xTG := xmem 579 (by decide +kernel) (by decide +kernel)
theorem cw_X2_copy : xcw md_X2_copy 1 := ⟨wd_579, wd_5, by decide +kernel, by decide⟩
theorem wd_739 : (Jvm.Cond.methodLink "KnowledgeRoom$Events" (39 : Nat) ({ cls := "KnowledgeRoom$Formula", name := "copy", desc := "(LKnowledgeRoom$Formula;)V" } : Jvm.MethodName)) ∈ xTG := xmem 739 (by decide +kernel) (by decide +kernel)
theorem wd_577 : (Jvm.Cond.instanceMethod ({ cls := "KnowledgeRoom$Formula", name := "copy", desc := "(LKnowledgeRoom$Formula;)V" } : Jvm.MethodName)) ∈ xTG := xmem 577 (by decide +kernel) (by decide +kernel)
theorem wd_578 : (Jvm.Cond.selects "KnowledgeRoom$Formula" ({ cls := "KnowledgeRoom$Formula", name := "copy", desc := "(LKnowledgeRoom$Formula;)V" } : Jvm.MethodName) ({ cls := "KnowledgeRoom$Formula", name := "copy", desc := "(LKnowledgeRoom$Formula;)V" } : Jvm.MethodName)) ∈ xTG := xmem 578 (by decide +kernel) (by decide +kernel)
theorem cv_RX1_39 : xCV RX1 39 md_X2_copy 2 1 := ⟨_, _, _, cb_2, rfl, cw_X2_copy, wd_739, wd_577, wd_578⟩
theorem fp_RX1_38 : xFP RX1 38 2 1 .int := ⟨_, _, _, cb_2, by decide, wd_103, rfl, rfl⟩
theorem wd_115 : (Jvm.Cond.fieldLink "KnowledgeRoom$Events" (17 : Nat) "KnowledgeRoom$Events" "cells" "[I") ∈ xTG := xmem 115 (by decide +kernel) (by decide +kernel)
theorem fl_RX1_17 : xFL RX1 17 1 2 := ⟨_, _, _, cb_1, by decide, wd_115⟩
abbrev md_X1_add : xMd := (yX1_add, cX1_add, 4, (some .int))
abbrev md_X1_setChange : xMd := (yX1_setChange, cX1_setChange, 4, none)
theorem wd_755 : (Jvm.Cond.constant "java/lang/Integer" (265 : Nat) (1431655765 : Int32)) ∈ xTG := xmem 755 (by decide +kernel) (by decide +kernel)
theorem wd_756 : (Jvm.Cond.constant "java/lang/Integer" (266 : Nat) (858993459 : Int32)) ∈ xTG := xmem 756 (by decide +kernel) (by decide +kernel)
theorem wd_757 : (Jvm.Cond.constant "java/lang/Integer" (267 : Nat) (252645135 : Int32)) ∈ xTG := xmem 757 (by decide +kernel) (by decide +kernel)
abbrev md_J6_bitCount_0f7a4 : xMd := (yJ6_bitCount_0f7a4, cJ6_bitCount_0f7a4, 1, (some .int))
theorem wd_754 : (Jvm.Cond.code ({ cls := "java/lang/Integer", name := "bitCount", desc := "(I)I" } : Jvm.MethodName) prog_16_method_49_code (1 : Nat) (Option.some Jvm.ClassFile.FieldType.int)) ∈ xTG := xmem 754 (by decide +kernel) (by decide +kernel)
theorem wd_21 : (Jvm.Cond.initialized "java/lang/Integer") ∈ xTG := xmem 21 (by decide +kernel) (by decide +kernel)
theorem cw_J6_bitCount_0f7a4 : xcw md_J6_bitCount_0f7a4 1 := ⟨wd_754, wd_21, by decide +kernel, by decide⟩
theorem wd_752 : (Jvm.Cond.methodLink "KnowledgeRoom$Events" (43 : Nat) ({ cls := "java/lang/Integer", name := "bitCount", desc := "(I)I" } : Jvm.MethodName)) ∈ xTG := xmem 752 (by decide +kernel) (by decide +kernel)
theorem wd_753 : (Jvm.Cond.static ({ cls := "java/lang/Integer", name := "bitCount", desc := "(I)I" } : Jvm.MethodName)) ∈ xTG := xmem 753 (by decide +kernel) (by decide +kernel)
theorem cs_RX1_43 : xCS RX1 43 md_J6_bitCount_0f7a4 1 := ⟨cw_J6_bitCount_0f7a4, wd_752, wd_753⟩
abbrev md_X1_merge : xMd := (yX1_merge, cX1_merge, 7, (some .int))
theorem cb_10 : xCB 10 RX10 TX10 (xnf 10) tyX10 := ⟨rfl, fun w h => List.mem_filter.mpr ⟨List.mem_append_right _ ((by decide +kernel : ∀ w ∈ u_ws RX10 TX10 (xnf 10), w ∈ tables_1) w h), (by decide +kernel : ∀ w ∈ u_ws RX10 TX10 (xnf 10), goodWord w = true) w h⟩, tyX10_ok, nmX10, by decide⟩
theorem wd_38 : (Jvm.Cond.fieldLink "KnowledgeRoom$Worlds" (18 : Nat) "KnowledgeRoom$Worlds" "size" "I") ∈ xTG := xmem 38 (by decide +kernel) (by decide +kernel)
theorem fl_RX10_18 : xFL RX10 18 10 0 := ⟨_, _, _, cb_10, by decide, wd_38⟩
theorem wd_425 : (Jvm.Cond.constantLong "KnowledgeRoom$Worlds" (22 : Nat) (-1 : Int64)) ∈ xTG := xmem 425 (by decide +kernel) (by decide +kernel)
abbrev md_X10_all : xMd := (yX10_all, cX10_all, 1, (some .long))
theorem cb_3 : xCB 3 RX3 TX3 (xnf 3) tyX3 := ⟨rfl, fun w h => List.mem_filter.mpr ⟨List.mem_append_right _ ((by decide +kernel : ∀ w ∈ u_ws RX3 TX3 (xnf 3), w ∈ tables_1) w h), (by decide +kernel : ∀ w ∈ u_ws RX3 TX3 (xnf 3), goodWord w = true) w h⟩, tyX3_ok, nmX3, by decide⟩
theorem wd_218 : (Jvm.Cond.fieldLink "KnowledgeRoom$Judge" (32 : Nat) "KnowledgeRoom$Judge" "there" "J") ∈ xTG := xmem 218 (by decide +kernel) (by decide +kernel)
theorem fl_RX3_32 : xFL RX3 32 3 5 := ⟨_, _, _, cb_3, by decide, wd_218⟩
theorem wd_44 : (Jvm.Cond.fieldLink "KnowledgeRoom$Judge" (64 : Nat) "KnowledgeRoom$Worlds" "atoms" "[J") ∈ xTG := xmem 44 (by decide +kernel) (by decide +kernel)
theorem fl_RX3_64 : xFL RX3 64 10 1 := ⟨_, _, _, cb_10, by decide, wd_44⟩
abbrev md_X3_leaf : xMd := (yX3_leaf, cX3_leaf, 3, (some .long))
abbrev md_X11_isSaying : xMd := (yX11_isSaying, cX11_isSaying, 1, (some .boolean))
theorem wd_622 : (Jvm.Cond.methodLink "KnowledgeRoom" (259 : Nat) ({ cls := "KnowledgeRoom", name := "isJoin", desc := "(I)Z" } : Jvm.MethodName)) ∈ xTG := xmem 622 (by decide +kernel) (by decide +kernel)
theorem cs_RX11_259 : xCS RX11 259 md_X11_isJoin 1 := ⟨cw_X11_isJoin, wd_622, wd_570⟩
theorem wd_539 : (Jvm.Cond.code ({ cls := "KnowledgeRoom", name := "isSaying", desc := "(I)Z" } : Jvm.MethodName) prog_1_method_40_code (1 : Nat) (Option.some Jvm.ClassFile.FieldType.boolean)) ∈ xTG := xmem 539 (by decide +kernel) (by decide +kernel)
theorem cw_X11_isSaying : xcw md_X11_isSaying 1 := ⟨wd_539, wd_1, by decide +kernel, by decide⟩
theorem wd_623 : (Jvm.Cond.methodLink "KnowledgeRoom" (262 : Nat) ({ cls := "KnowledgeRoom", name := "isSaying", desc := "(I)Z" } : Jvm.MethodName)) ∈ xTG := xmem 623 (by decide +kernel) (by decide +kernel)
theorem wd_538 : (Jvm.Cond.static ({ cls := "KnowledgeRoom", name := "isSaying", desc := "(I)Z" } : Jvm.MethodName)) ∈ xTG := xmem 538 (by decide +kernel) (by decide +kernel)
theorem cs_RX11_262 : xCS RX11 262 md_X11_isSaying 1 := ⟨cw_X11_isSaying, wd_623, wd_538⟩
abbrev md_X11_hasTwoParts : xMd := (yX11_hasTwoParts, cX11_hasTwoParts, 1, (some .boolean))
theorem wd_629 : (Jvm.Cond.constantLong "KnowledgeRoom$Judge" (81 : Nat) (-1 : Int64)) ∈ xTG := xmem 629 (by decide +kernel) (by decide +kernel)
abbrev md_X3_joined : xMd := (yX3_joined, cX3_joined, 6, (some .long))
theorem wd_46 : (Jvm.Cond.fieldLink "KnowledgeRoom$Worlds" (15 : Nat) "KnowledgeRoom$Worlds" "cells" "[J") ∈ xTG := xmem 46 (by decide +kernel) (by decide +kernel)
theorem fl_RX10_15 : xFL RX10 15 10 2 := ⟨_, _, _, cb_10, by decide, wd_46⟩
abbrev md_X10_near : xMd := (yX10_near, cX10_near, 7, (some .long))
theorem wn_638 : (Jvm.Cond.methodLinkNest "KnowledgeRoom$Judge" (92 : Nat) ({ cls := "KnowledgeRoom", name := "hasAgent", desc := "(II)Z" } : Jvm.MethodName) "KnowledgeRoom") ∈ xNW := xmemN 638 (by decide +kernel) rfl
theorem cn_RX3_92 : xCSN RX3 92 md_X11_hasAgent 2 := ⟨_, cw_X11_hasAgent, wn_638, wd_639⟩
theorem wd_644 : (Jvm.Cond.code ({ cls := "KnowledgeRoom$Worlds", name := "near", desc := "(IJ)J" } : Jvm.MethodName) prog_12_method_11_code (7 : Nat) (Option.some Jvm.ClassFile.FieldType.long)) ∈ xTG := xmem 644 (by decide +kernel) (by decide +kernel)
theorem wd_2 : (Jvm.Cond.initialized "KnowledgeRoom$Worlds") ∈ xTG := xmem 2 (by decide +kernel) (by decide +kernel)
theorem cw_X10_near : xcw md_X10_near 2 := ⟨wd_644, wd_2, by decide +kernel, by decide⟩
theorem wd_641 : (Jvm.Cond.methodLink "KnowledgeRoom$Judge" (96 : Nat) ({ cls := "KnowledgeRoom$Worlds", name := "near", desc := "(IJ)J" } : Jvm.MethodName)) ∈ xTG := xmem 641 (by decide +kernel) (by decide +kernel)
theorem wd_642 : (Jvm.Cond.instanceMethod ({ cls := "KnowledgeRoom$Worlds", name := "near", desc := "(IJ)J" } : Jvm.MethodName)) ∈ xTG := xmem 642 (by decide +kernel) (by decide +kernel)
theorem wd_643 : (Jvm.Cond.selects "KnowledgeRoom$Worlds" ({ cls := "KnowledgeRoom$Worlds", name := "near", desc := "(IJ)J" } : Jvm.MethodName) ({ cls := "KnowledgeRoom$Worlds", name := "near", desc := "(IJ)J" } : Jvm.MethodName)) ∈ xTG := xmem 643 (by decide +kernel) (by decide +kernel)
theorem cv_RX3_96 : xCV RX3 96 md_X10_near 10 2 := ⟨_, _, _, cb_10, rfl, cw_X10_near, wd_641, wd_642, wd_643⟩
abbrev md_X3_known : xMd := (yX3_known, cX3_known, 8, (some .long))
abbrev md_X3_common : xMd := (yX3_common, cX3_common, 11, (some .long))
abbrev md_X10_cell : xMd := (yX10_cell, cX10_cell, 3, (some .long))
theorem wd_42 : (Jvm.Cond.fieldLink "KnowledgeRoom$Judge" (100 : Nat) "KnowledgeRoom$Worlds" "size" "I") ∈ xTG := xmem 42 (by decide +kernel) (by decide +kernel)
theorem fl_RX3_100 : xFL RX3 100 10 0 := ⟨_, _, _, cb_10, by decide, wd_42⟩
theorem wd_444 : (Jvm.Cond.code ({ cls := "KnowledgeRoom$Worlds", name := "cell", desc := "(II)J" } : Jvm.MethodName) prog_12_method_4_code (3 : Nat) (Option.some Jvm.ClassFile.FieldType.long)) ∈ xTG := xmem 444 (by decide +kernel) (by decide +kernel)
theorem cw_X10_cell : xcw md_X10_cell 2 := ⟨wd_444, wd_2, by decide +kernel, by decide⟩
theorem wd_653 : (Jvm.Cond.methodLink "KnowledgeRoom$Judge" (101 : Nat) ({ cls := "KnowledgeRoom$Worlds", name := "cell", desc := "(II)J" } : Jvm.MethodName)) ∈ xTG := xmem 653 (by decide +kernel) (by decide +kernel)
theorem wd_442 : (Jvm.Cond.instanceMethod ({ cls := "KnowledgeRoom$Worlds", name := "cell", desc := "(II)J" } : Jvm.MethodName)) ∈ xTG := xmem 442 (by decide +kernel) (by decide +kernel)
theorem wd_443 : (Jvm.Cond.selects "KnowledgeRoom$Worlds" ({ cls := "KnowledgeRoom$Worlds", name := "cell", desc := "(II)J" } : Jvm.MethodName) ({ cls := "KnowledgeRoom$Worlds", name := "cell", desc := "(II)J" } : Jvm.MethodName)) ∈ xTG := xmem 443 (by decide +kernel) (by decide +kernel)
theorem cv_RX3_101 : xCV RX3 101 md_X10_cell 10 2 := ⟨_, _, _, cb_10, rfl, cw_X10_cell, wd_653, wd_442, wd_443⟩
abbrev md_X3_pooled : xMd := (yX3_pooled, cX3_pooled, 11, (some .long))
theorem wn_607 : (Jvm.Cond.methodLinkNest "KnowledgeRoom$Judge" (48 : Nat) ({ cls := "KnowledgeRoom", name := "signOf", desc := "(I)I" } : Jvm.MethodName) "KnowledgeRoom") ∈ xNW := xmemN 607 (by decide +kernel) rfl
theorem cn_RX3_48 : xCSN RX3 48 md_X11_signOf 1 := ⟨_, cw_X11_signOf, wn_607, wd_608⟩
theorem wd_648 : (Jvm.Cond.code ({ cls := "KnowledgeRoom$Judge", name := "common", desc := "(IJLKnowledgeRoom$Worlds;)J" } : Jvm.MethodName) prog_5_method_8_code (11 : Nat) (Option.some Jvm.ClassFile.FieldType.long)) ∈ xTG := xmem 648 (by decide +kernel) (by decide +kernel)
theorem wd_9 : (Jvm.Cond.initialized "KnowledgeRoom$Judge") ∈ xTG := xmem 9 (by decide +kernel) (by decide +kernel)
theorem cw_X3_common : xcw md_X3_common 3 := ⟨wd_648, wd_9, by decide +kernel, by decide⟩
theorem wd_645 : (Jvm.Cond.methodLink "KnowledgeRoom$Judge" (86 : Nat) ({ cls := "KnowledgeRoom$Judge", name := "common", desc := "(IJLKnowledgeRoom$Worlds;)J" } : Jvm.MethodName)) ∈ xTG := xmem 645 (by decide +kernel) (by decide +kernel)
theorem wd_647 : (Jvm.Cond.instanceMethod ({ cls := "KnowledgeRoom$Judge", name := "common", desc := "(IJLKnowledgeRoom$Worlds;)J" } : Jvm.MethodName)) ∈ xTG := xmem 647 (by decide +kernel) (by decide +kernel)
theorem ws_20 : Cond.selects "KnowledgeRoom$Judge" ⟨"KnowledgeRoom$Judge", "common", "(IJLKnowledgeRoom$Worlds;)J"⟩ ⟨"KnowledgeRoom$Judge", "common", "(IJLKnowledgeRoom$Worlds;)J"⟩ ∈ xTG := xmemP 20 (by decide +kernel) (by decide +kernel)
theorem cv_RX3_86 : xCV RX3 86 md_X3_common 3 3 := ⟨_, _, _, cb_3, rfl, cw_X3_common, wd_645, wd_647, ws_20⟩
theorem wd_652 : (Jvm.Cond.code ({ cls := "KnowledgeRoom$Judge", name := "pooled", desc := "(IJLKnowledgeRoom$Worlds;)J" } : Jvm.MethodName) prog_5_method_9_code (11 : Nat) (Option.some Jvm.ClassFile.FieldType.long)) ∈ xTG := xmem 652 (by decide +kernel) (by decide +kernel)
theorem cw_X3_pooled : xcw md_X3_pooled 3 := ⟨wd_652, wd_9, by decide +kernel, by decide⟩
theorem wd_649 : (Jvm.Cond.methodLink "KnowledgeRoom$Judge" (89 : Nat) ({ cls := "KnowledgeRoom$Judge", name := "pooled", desc := "(IJLKnowledgeRoom$Worlds;)J" } : Jvm.MethodName)) ∈ xTG := xmem 649 (by decide +kernel) (by decide +kernel)
theorem wd_651 : (Jvm.Cond.instanceMethod ({ cls := "KnowledgeRoom$Judge", name := "pooled", desc := "(IJLKnowledgeRoom$Worlds;)J" } : Jvm.MethodName)) ∈ xTG := xmem 651 (by decide +kernel) (by decide +kernel)
theorem ws_21 : Cond.selects "KnowledgeRoom$Judge" ⟨"KnowledgeRoom$Judge", "pooled", "(IJLKnowledgeRoom$Worlds;)J"⟩ ⟨"KnowledgeRoom$Judge", "pooled", "(IJLKnowledgeRoom$Worlds;)J"⟩ ∈ xTG := xmemP 21 (by decide +kernel) (by decide +kernel)
theorem cv_RX3_89 : xCV RX3 89 md_X3_pooled 3 3 := ⟨_, _, _, cb_3, rfl, cw_X3_pooled, wd_649, wd_651, ws_21⟩
theorem wd_637 : (Jvm.Cond.code ({ cls := "KnowledgeRoom$Judge", name := "known", desc := "(IJLKnowledgeRoom$Worlds;)J" } : Jvm.MethodName) prog_5_method_7_code (8 : Nat) (Option.some Jvm.ClassFile.FieldType.long)) ∈ xTG := xmem 637 (by decide +kernel) (by decide +kernel)
theorem cw_X3_known : xcw md_X3_known 3 := ⟨wd_637, wd_9, by decide +kernel, by decide⟩
theorem wd_634 : (Jvm.Cond.methodLink "KnowledgeRoom$Judge" (83 : Nat) ({ cls := "KnowledgeRoom$Judge", name := "known", desc := "(IJLKnowledgeRoom$Worlds;)J" } : Jvm.MethodName)) ∈ xTG := xmem 634 (by decide +kernel) (by decide +kernel)
theorem wd_636 : (Jvm.Cond.instanceMethod ({ cls := "KnowledgeRoom$Judge", name := "known", desc := "(IJLKnowledgeRoom$Worlds;)J" } : Jvm.MethodName)) ∈ xTG := xmem 636 (by decide +kernel) (by decide +kernel)
theorem ws_19 : Cond.selects "KnowledgeRoom$Judge" ⟨"KnowledgeRoom$Judge", "known", "(IJLKnowledgeRoom$Worlds;)J"⟩ ⟨"KnowledgeRoom$Judge", "known", "(IJLKnowledgeRoom$Worlds;)J"⟩ ∈ xTG := xmemP 19 (by decide +kernel) (by decide +kernel)
theorem cv_RX3_83 : xCV RX3 83 md_X3_known 3 3 := ⟨_, _, _, cb_3, rfl, cw_X3_known, wd_634, wd_636, ws_19⟩
abbrev md_X3_single : xMd := (yX3_single, cX3_single, 5, (some .long))
theorem wd_217 : (Jvm.Cond.fieldLink "KnowledgeRoom$Judge" (36 : Nat) "KnowledgeRoom$Judge" "depth" "I") ∈ xTG := xmem 217 (by decide +kernel) (by decide +kernel)
theorem fl_RX3_36 : xFL RX3 36 3 4 := ⟨_, _, _, cb_3, by decide, wd_217⟩
theorem fp_RX3_36 : xFP RX3 36 3 4 .int := ⟨_, _, _, cb_3, by decide, wd_217, rfl, rfl⟩
theorem wd_213 : (Jvm.Cond.fieldLink "KnowledgeRoom$Judge" (9 : Nat) "KnowledgeRoom$Judge" "open" "[I") ∈ xTG := xmem 213 (by decide +kernel) (by decide +kernel)
theorem fl_RX3_9 : xFL RX3 9 3 0 := ⟨_, _, _, cb_3, by decide, wd_213⟩
theorem wd_621 : (Jvm.Cond.code ({ cls := "KnowledgeRoom", name := "hasTwoParts", desc := "(I)Z" } : Jvm.MethodName) prog_1_method_41_code (1 : Nat) (Option.some Jvm.ClassFile.FieldType.boolean)) ∈ xTG := xmem 621 (by decide +kernel) (by decide +kernel)
theorem cw_X11_hasTwoParts : xcw md_X11_hasTwoParts 1 := ⟨wd_621, wd_1, by decide +kernel, by decide⟩
theorem wn_619 : (Jvm.Cond.methodLinkNest "KnowledgeRoom$Judge" (67 : Nat) ({ cls := "KnowledgeRoom", name := "hasTwoParts", desc := "(I)Z" } : Jvm.MethodName) "KnowledgeRoom") ∈ xNW := xmemN 619 (by decide +kernel) rfl
theorem wd_620 : (Jvm.Cond.static ({ cls := "KnowledgeRoom", name := "hasTwoParts", desc := "(I)Z" } : Jvm.MethodName)) ∈ xTG := xmem 620 (by decide +kernel) (by decide +kernel)
theorem cn_RX3_67 : xCSN RX3 67 md_X11_hasTwoParts 1 := ⟨_, cw_X11_hasTwoParts, wn_619, wd_620⟩
theorem wd_214 : (Jvm.Cond.fieldLink "KnowledgeRoom$Judge" (15 : Nat) "KnowledgeRoom$Judge" "half" "[Z") ∈ xTG := xmem 214 (by decide +kernel) (by decide +kernel)
theorem fl_RX3_15 : xFL RX3 15 3 1 := ⟨_, _, _, cb_3, by decide, wd_214⟩
theorem wd_215 : (Jvm.Cond.fieldLink "KnowledgeRoom$Judge" (19 : Nat) "KnowledgeRoom$Judge" "first" "[J") ∈ xTG := xmem 215 (by decide +kernel) (by decide +kernel)
theorem fl_RX3_19 : xFL RX3 19 3 2 := ⟨_, _, _, cb_3, by decide, wd_215⟩
theorem wd_216 : (Jvm.Cond.fieldLink "KnowledgeRoom$Judge" (23 : Nat) "KnowledgeRoom$Judge" "before" "[J") ∈ xTG := xmem 216 (by decide +kernel) (by decide +kernel)
theorem fl_RX3_23 : xFL RX3 23 3 3 := ⟨_, _, _, cb_3, by decide, wd_216⟩
theorem wn_624 : (Jvm.Cond.methodLinkNest "KnowledgeRoom$Judge" (70 : Nat) ({ cls := "KnowledgeRoom", name := "isSaying", desc := "(I)Z" } : Jvm.MethodName) "KnowledgeRoom") ∈ xNW := xmemN 624 (by decide +kernel) rfl
theorem cn_RX3_70 : xCSN RX3 70 md_X11_isSaying 1 := ⟨_, cw_X11_isSaying, wn_624, wd_538⟩
theorem fp_RX3_32 : xFP RX3 32 3 5 .long := ⟨_, _, _, cb_3, by decide, wd_218, rfl, rfl⟩
theorem wd_633 : (Jvm.Cond.code ({ cls := "KnowledgeRoom$Judge", name := "single", desc := "(IJLKnowledgeRoom$Worlds;)J" } : Jvm.MethodName) prog_5_method_6_code (5 : Nat) (Option.some Jvm.ClassFile.FieldType.long)) ∈ xTG := xmem 633 (by decide +kernel) (by decide +kernel)
theorem cw_X3_single : xcw md_X3_single 3 := ⟨wd_633, wd_9, by decide +kernel, by decide⟩
theorem wd_630 : (Jvm.Cond.methodLink "KnowledgeRoom$Judge" (77 : Nat) ({ cls := "KnowledgeRoom$Judge", name := "single", desc := "(IJLKnowledgeRoom$Worlds;)J" } : Jvm.MethodName)) ∈ xTG := xmem 630 (by decide +kernel) (by decide +kernel)
theorem wd_632 : (Jvm.Cond.instanceMethod ({ cls := "KnowledgeRoom$Judge", name := "single", desc := "(IJLKnowledgeRoom$Worlds;)J" } : Jvm.MethodName)) ∈ xTG := xmem 632 (by decide +kernel) (by decide +kernel)
theorem ws_18 : Cond.selects "KnowledgeRoom$Judge" ⟨"KnowledgeRoom$Judge", "single", "(IJLKnowledgeRoom$Worlds;)J"⟩ ⟨"KnowledgeRoom$Judge", "single", "(IJLKnowledgeRoom$Worlds;)J"⟩ ∈ xTG := xmemP 18 (by decide +kernel) (by decide +kernel)
theorem cv_RX3_77 : xCV RX3 77 md_X3_single 3 3 := ⟨_, _, _, cb_3, rfl, cw_X3_single, wd_630, wd_632, ws_18⟩
theorem wd_628 : (Jvm.Cond.code ({ cls := "KnowledgeRoom$Judge", name := "joined", desc := "(IJJ)J" } : Jvm.MethodName) prog_5_method_5_code (6 : Nat) (Option.some Jvm.ClassFile.FieldType.long)) ∈ xTG := xmem 628 (by decide +kernel) (by decide +kernel)
theorem cw_X3_joined : xcw md_X3_joined 3 := ⟨wd_628, wd_9, by decide +kernel, by decide⟩
theorem wd_625 : (Jvm.Cond.methodLink "KnowledgeRoom$Judge" (73 : Nat) ({ cls := "KnowledgeRoom$Judge", name := "joined", desc := "(IJJ)J" } : Jvm.MethodName)) ∈ xTG := xmem 625 (by decide +kernel) (by decide +kernel)
theorem wd_627 : (Jvm.Cond.instanceMethod ({ cls := "KnowledgeRoom$Judge", name := "joined", desc := "(IJJ)J" } : Jvm.MethodName)) ∈ xTG := xmem 627 (by decide +kernel) (by decide +kernel)
theorem ws_17 : Cond.selects "KnowledgeRoom$Judge" ⟨"KnowledgeRoom$Judge", "joined", "(IJJ)J"⟩ ⟨"KnowledgeRoom$Judge", "joined", "(IJJ)J"⟩ ∈ xTG := xmemP 17 (by decide +kernel) (by decide +kernel)
theorem cv_RX3_73 : xCV RX3 73 md_X3_joined 3 3 := ⟨_, _, _, cb_3, rfl, cw_X3_joined, wd_625, wd_627, ws_17⟩
abbrev md_X3_finish : xMd := (yX3_finish, cX3_finish, 8, (some .long))
theorem wd_606 : (Jvm.Cond.code ({ cls := "KnowledgeRoom$Worlds", name := "all", desc := "()J" } : Jvm.MethodName) prog_12_method_3_code (1 : Nat) (Option.some Jvm.ClassFile.FieldType.long)) ∈ xTG := xmem 606 (by decide +kernel) (by decide +kernel)
theorem cw_X10_all : xcw md_X10_all 0 := ⟨wd_606, wd_2, by decide +kernel, by decide⟩
theorem wd_603 : (Jvm.Cond.methodLink "KnowledgeRoom$Judge" (26 : Nat) ({ cls := "KnowledgeRoom$Worlds", name := "all", desc := "()J" } : Jvm.MethodName)) ∈ xTG := xmem 603 (by decide +kernel) (by decide +kernel)
theorem wd_604 : (Jvm.Cond.instanceMethod ({ cls := "KnowledgeRoom$Worlds", name := "all", desc := "()J" } : Jvm.MethodName)) ∈ xTG := xmem 604 (by decide +kernel) (by decide +kernel)
theorem wd_605 : (Jvm.Cond.selects "KnowledgeRoom$Worlds" ({ cls := "KnowledgeRoom$Worlds", name := "all", desc := "()J" } : Jvm.MethodName) ({ cls := "KnowledgeRoom$Worlds", name := "all", desc := "()J" } : Jvm.MethodName)) ∈ xTG := xmem 605 (by decide +kernel) (by decide +kernel)
theorem cv_RX3_26 : xCV RX3 26 md_X10_all 10 0 := ⟨_, _, _, cb_10, rfl, cw_X10_all, wd_603, wd_604, wd_605⟩
theorem wd_100 : (Jvm.Cond.fieldLink "KnowledgeRoom$Judge" (40 : Nat) "KnowledgeRoom$Formula" "size" "I") ∈ xTG := xmem 100 (by decide +kernel) (by decide +kernel)
theorem fl_RX3_40 : xFL RX3 40 2 1 := ⟨_, _, _, cb_2, by decide, wd_100⟩
theorem wd_95 : (Jvm.Cond.fieldLink "KnowledgeRoom$Judge" (45 : Nat) "KnowledgeRoom$Formula" "tokens" "[I") ∈ xTG := xmem 95 (by decide +kernel) (by decide +kernel)
theorem fl_RX3_45 : xFL RX3 45 2 0 := ⟨_, _, _, cb_2, by decide, wd_95⟩
theorem wn_610 : (Jvm.Cond.methodLinkNest "KnowledgeRoom$Judge" (52 : Nat) ({ cls := "KnowledgeRoom", name := "isLeaf", desc := "(I)Z" } : Jvm.MethodName) "KnowledgeRoom") ∈ xNW := xmemN 610 (by decide +kernel) rfl
theorem cn_RX3_52 : xCSN RX3 52 md_X11_isLeaf 1 := ⟨_, cw_X11_isLeaf, wn_610, wd_555⟩
theorem wd_614 : (Jvm.Cond.code ({ cls := "KnowledgeRoom$Judge", name := "leaf", desc := "(ILKnowledgeRoom$Worlds;)J" } : Jvm.MethodName) prog_5_method_3_code (3 : Nat) (Option.some Jvm.ClassFile.FieldType.long)) ∈ xTG := xmem 614 (by decide +kernel) (by decide +kernel)
theorem cw_X3_leaf : xcw md_X3_leaf 2 := ⟨wd_614, wd_9, by decide +kernel, by decide⟩
theorem wd_611 : (Jvm.Cond.methodLink "KnowledgeRoom$Judge" (56 : Nat) ({ cls := "KnowledgeRoom$Judge", name := "leaf", desc := "(ILKnowledgeRoom$Worlds;)J" } : Jvm.MethodName)) ∈ xTG := xmem 611 (by decide +kernel) (by decide +kernel)
theorem wd_613 : (Jvm.Cond.instanceMethod ({ cls := "KnowledgeRoom$Judge", name := "leaf", desc := "(ILKnowledgeRoom$Worlds;)J" } : Jvm.MethodName)) ∈ xTG := xmem 613 (by decide +kernel) (by decide +kernel)
theorem ws_15 : Cond.selects "KnowledgeRoom$Judge" ⟨"KnowledgeRoom$Judge", "leaf", "(ILKnowledgeRoom$Worlds;)J"⟩ ⟨"KnowledgeRoom$Judge", "leaf", "(ILKnowledgeRoom$Worlds;)J"⟩ ∈ xTG := xmemP 15 (by decide +kernel) (by decide +kernel)
theorem cv_RX3_56 : xCV RX3 56 md_X3_leaf 3 2 := ⟨_, _, _, cb_3, rfl, cw_X3_leaf, wd_611, wd_613, ws_15⟩
theorem wd_618 : (Jvm.Cond.code ({ cls := "KnowledgeRoom$Judge", name := "finish", desc := "(JLKnowledgeRoom$Worlds;)J" } : Jvm.MethodName) prog_5_method_4_code (8 : Nat) (Option.some Jvm.ClassFile.FieldType.long)) ∈ xTG := xmem 618 (by decide +kernel) (by decide +kernel)
theorem cw_X3_finish : xcw md_X3_finish 2 := ⟨wd_618, wd_9, by decide +kernel, by decide⟩
theorem wd_615 : (Jvm.Cond.methodLink "KnowledgeRoom$Judge" (60 : Nat) ({ cls := "KnowledgeRoom$Judge", name := "finish", desc := "(JLKnowledgeRoom$Worlds;)J" } : Jvm.MethodName)) ∈ xTG := xmem 615 (by decide +kernel) (by decide +kernel)
theorem wd_617 : (Jvm.Cond.instanceMethod ({ cls := "KnowledgeRoom$Judge", name := "finish", desc := "(JLKnowledgeRoom$Worlds;)J" } : Jvm.MethodName)) ∈ xTG := xmem 617 (by decide +kernel) (by decide +kernel)
theorem ws_16 : Cond.selects "KnowledgeRoom$Judge" ⟨"KnowledgeRoom$Judge", "finish", "(JLKnowledgeRoom$Worlds;)J"⟩ ⟨"KnowledgeRoom$Judge", "finish", "(JLKnowledgeRoom$Worlds;)J"⟩ ∈ xTG := xmemP 16 (by decide +kernel) (by decide +kernel)
theorem cv_RX3_60 : xCV RX3 60 md_X3_finish 3 2 := ⟨_, _, _, cb_3, rfl, cw_X3_finish, wd_615, wd_617, ws_16⟩
abbrev md_X3_where : xMd := (yX3_where, cX3_where, 7, (some .long))
theorem wd_116 : (Jvm.Cond.fieldLink "KnowledgeRoom$Events" (21 : Nat) "KnowledgeRoom$Events" "where" "[J") ∈ xTG := xmem 116 (by decide +kernel) (by decide +kernel)
theorem fl_RX1_21 : xFL RX1 21 1 3 := ⟨_, _, _, cb_1, by decide, wd_116⟩
theorem wd_602 : (Jvm.Cond.code ({ cls := "KnowledgeRoom$Judge", name := "where", desc := "(LKnowledgeRoom$Formula;LKnowledgeRoom$Worlds;)J" } : Jvm.MethodName) prog_5_method_2_code (7 : Nat) (Option.some Jvm.ClassFile.FieldType.long)) ∈ xTG := xmem 602 (by decide +kernel) (by decide +kernel)
theorem cw_X3_where : xcw md_X3_where 2 := ⟨wd_602, wd_9, by decide +kernel, by decide⟩
theorem wd_778 : (Jvm.Cond.methodLink "KnowledgeRoom$Events" (49 : Nat) ({ cls := "KnowledgeRoom$Judge", name := "where", desc := "(LKnowledgeRoom$Formula;LKnowledgeRoom$Worlds;)J" } : Jvm.MethodName)) ∈ xTG := xmem 778 (by decide +kernel) (by decide +kernel)
theorem wd_600 : (Jvm.Cond.instanceMethod ({ cls := "KnowledgeRoom$Judge", name := "where", desc := "(LKnowledgeRoom$Formula;LKnowledgeRoom$Worlds;)J" } : Jvm.MethodName)) ∈ xTG := xmem 600 (by decide +kernel) (by decide +kernel)
theorem wd_601 : (Jvm.Cond.selects "KnowledgeRoom$Judge" ({ cls := "KnowledgeRoom$Judge", name := "where", desc := "(LKnowledgeRoom$Formula;LKnowledgeRoom$Worlds;)J" } : Jvm.MethodName) ({ cls := "KnowledgeRoom$Judge", name := "where", desc := "(LKnowledgeRoom$Formula;LKnowledgeRoom$Worlds;)J" } : Jvm.MethodName)) ∈ xTG := xmem 601 (by decide +kernel) (by decide +kernel)
theorem cv_RX1_49 : xCV RX1 49 md_X3_where 3 2 := ⟨_, _, _, cb_3, rfl, cw_X3_where, wd_778, wd_600, wd_601⟩
theorem wd_41 : (Jvm.Cond.fieldLink "KnowledgeRoom$Events" (54 : Nat) "KnowledgeRoom$Worlds" "size" "I") ∈ xTG := xmem 41 (by decide +kernel) (by decide +kernel)
theorem fl_RX1_54 : xFL RX1 54 10 0 := ⟨_, _, _, cb_10, by decide, wd_41⟩
theorem wd_117 : (Jvm.Cond.fieldLink "KnowledgeRoom$Events" (25 : Nat) "KnowledgeRoom$Events" "worldOf" "[I") ∈ xTG := xmem 117 (by decide +kernel) (by decide +kernel)
theorem fl_RX1_25 : xFL RX1 25 1 4 := ⟨_, _, _, cb_1, by decide, wd_117⟩
theorem wd_119 : (Jvm.Cond.fieldLink "KnowledgeRoom$Events" (28 : Nat) "KnowledgeRoom$Events" "eventOf" "[I") ∈ xTG := xmem 119 (by decide +kernel) (by decide +kernel)
theorem fl_RX1_28 : xFL RX1 28 1 5 := ⟨_, _, _, cb_1, by decide, wd_119⟩
abbrev md_X1_pair : xMd := (yX1_pair, cX1_pair, 6, (some .int))
abbrev md_X1_pairsOf : xMd := (yX1_pairsOf, cX1_pairsOf, 6, (some .long))
theorem wd_47 : (Jvm.Cond.fieldLink "KnowledgeRoom$Events" (57 : Nat) "KnowledgeRoom$Worlds" "cells" "[J") ∈ xTG := xmem 47 (by decide +kernel) (by decide +kernel)
theorem fl_RX1_57 : xFL RX1 57 10 2 := ⟨_, _, _, cb_10, by decide, wd_47⟩
theorem wd_786 : (Jvm.Cond.code ({ cls := "KnowledgeRoom$Events", name := "pairsOf", desc := "(II)J" } : Jvm.MethodName) prog_3_method_8_code (6 : Nat) (Option.some Jvm.ClassFile.FieldType.long)) ∈ xTG := xmem 786 (by decide +kernel) (by decide +kernel)
theorem wd_4 : (Jvm.Cond.initialized "KnowledgeRoom$Events") ∈ xTG := xmem 4 (by decide +kernel) (by decide +kernel)
theorem cw_X1_pairsOf : xcw md_X1_pairsOf 2 := ⟨wd_786, wd_4, by decide +kernel, by decide⟩
theorem wd_783 : (Jvm.Cond.methodLink "KnowledgeRoom$Events" (59 : Nat) ({ cls := "KnowledgeRoom$Events", name := "pairsOf", desc := "(II)J" } : Jvm.MethodName)) ∈ xTG := xmem 783 (by decide +kernel) (by decide +kernel)
theorem wd_785 : (Jvm.Cond.instanceMethod ({ cls := "KnowledgeRoom$Events", name := "pairsOf", desc := "(II)J" } : Jvm.MethodName)) ∈ xTG := xmem 785 (by decide +kernel) (by decide +kernel)
theorem ws_30 : Cond.selects "KnowledgeRoom$Events" ⟨"KnowledgeRoom$Events", "pairsOf", "(II)J"⟩ ⟨"KnowledgeRoom$Events", "pairsOf", "(II)J"⟩ ∈ xTG := xmemP 30 (by decide +kernel) (by decide +kernel)
theorem cv_RX1_59 : xCV RX1 59 md_X1_pairsOf 1 2 := ⟨_, _, _, cb_1, rfl, cw_X1_pairsOf, wd_783, wd_785, ws_30⟩
abbrev md_X1_narrowCells : xMd := (yX1_narrowCells, cX1_narrowCells, 5, none)
theorem wd_43 : (Jvm.Cond.fieldLink "KnowledgeRoom$Worlds" (9 : Nat) "KnowledgeRoom$Worlds" "atoms" "[J") ∈ xTG := xmem 43 (by decide +kernel) (by decide +kernel)
theorem fl_RX10_9 : xFL RX10 9 10 1 := ⟨_, _, _, cb_10, by decide, wd_43⟩
abbrev md_X10_setAtom : xMd := (yX10_setAtom, cX10_setAtom, 6, none)
theorem wd_424 : (Jvm.Cond.code ({ cls := "KnowledgeRoom$Worlds", name := "setAtom", desc := "(IIZ)V" } : Jvm.MethodName) prog_12_method_6_code (6 : Nat) (Option.none : Option Jvm.ClassFile.FieldType)) ∈ xTG := xmem 424 (by decide +kernel) (by decide +kernel)
theorem cw_X10_setAtom : xcw md_X10_setAtom 3 := ⟨wd_424, wd_2, by decide +kernel, by decide⟩
theorem wd_795 : (Jvm.Cond.methodLink "KnowledgeRoom$Events" (67 : Nat) ({ cls := "KnowledgeRoom$Worlds", name := "setAtom", desc := "(IIZ)V" } : Jvm.MethodName)) ∈ xTG := xmem 795 (by decide +kernel) (by decide +kernel)
theorem wd_422 : (Jvm.Cond.instanceMethod ({ cls := "KnowledgeRoom$Worlds", name := "setAtom", desc := "(IIZ)V" } : Jvm.MethodName)) ∈ xTG := xmem 422 (by decide +kernel) (by decide +kernel)
theorem wd_423 : (Jvm.Cond.selects "KnowledgeRoom$Worlds" ({ cls := "KnowledgeRoom$Worlds", name := "setAtom", desc := "(IIZ)V" } : Jvm.MethodName) ({ cls := "KnowledgeRoom$Worlds", name := "setAtom", desc := "(IIZ)V" } : Jvm.MethodName)) ∈ xTG := xmem 423 (by decide +kernel) (by decide +kernel)
theorem cv_RX1_67 : xCV RX1 67 md_X10_setAtom 10 3 := ⟨_, _, _, cb_10, rfl, cw_X10_setAtom, wd_795, wd_422, wd_423⟩
abbrev md_X1_changeAtom : xMd := (yX1_changeAtom, cX1_changeAtom, 7, none)
theorem wd_794 : (Jvm.Cond.code ({ cls := "KnowledgeRoom$Events", name := "changeAtom", desc := "(LKnowledgeRoom$Worlds;IIJ)V" } : Jvm.MethodName) prog_3_method_10_code (7 : Nat) (Option.none : Option Jvm.ClassFile.FieldType)) ∈ xTG := xmem 794 (by decide +kernel) (by decide +kernel)
theorem cw_X1_changeAtom : xcw md_X1_changeAtom 4 := ⟨wd_794, wd_4, by decide +kernel, by decide⟩
theorem wd_791 : (Jvm.Cond.methodLink "KnowledgeRoom$Events" (63 : Nat) ({ cls := "KnowledgeRoom$Events", name := "changeAtom", desc := "(LKnowledgeRoom$Worlds;IIJ)V" } : Jvm.MethodName)) ∈ xTG := xmem 791 (by decide +kernel) (by decide +kernel)
theorem wd_793 : (Jvm.Cond.instanceMethod ({ cls := "KnowledgeRoom$Events", name := "changeAtom", desc := "(LKnowledgeRoom$Worlds;IIJ)V" } : Jvm.MethodName)) ∈ xTG := xmem 793 (by decide +kernel) (by decide +kernel)
theorem ws_31 : Cond.selects "KnowledgeRoom$Events" ⟨"KnowledgeRoom$Events", "changeAtom", "(LKnowledgeRoom$Worlds;IIJ)V"⟩ ⟨"KnowledgeRoom$Events", "changeAtom", "(LKnowledgeRoom$Worlds;IIJ)V"⟩ ∈ xTG := xmemP 31 (by decide +kernel) (by decide +kernel)
theorem cv_RX1_63 : xCV RX1 63 md_X1_changeAtom 1 4 := ⟨_, _, _, cb_1, rfl, cw_X1_changeAtom, wd_791, wd_793, ws_31⟩
abbrev md_X1_changeAtoms : xMd := (yX1_changeAtoms, cX1_changeAtoms, 7, none)
abbrev md_X2_add : xMd := (yX2_add, cX2_add, 2, (some .boolean))
abbrev md_X2_insert : xMd := (yX2_insert, cX2_insert, 4, (some .boolean))
abbrev md_X11_isKnowing : xMd := (yX11_isKnowing, cX11_isKnowing, 1, (some .boolean))
theorem wn_1083 : (Jvm.Cond.methodLinkNest "KnowledgeRoom$Formula" (44 : Nat) ({ cls := "KnowledgeRoom", name := "isLeaf", desc := "(I)Z" } : Jvm.MethodName) "KnowledgeRoom") ∈ xNW := xmemN 1083 (by decide +kernel) rfl
theorem cn_RX2_44 : xCSN RX2 44 md_X11_isLeaf 1 := ⟨_, cw_X11_isLeaf, wn_1083, wd_555⟩
theorem wn_1084 : (Jvm.Cond.methodLinkNest "KnowledgeRoom$Formula" (48 : Nat) ({ cls := "KnowledgeRoom", name := "hasTwoParts", desc := "(I)Z" } : Jvm.MethodName) "KnowledgeRoom") ∈ xNW := xmemN 1084 (by decide +kernel) rfl
theorem cn_RX2_48 : xCSN RX2 48 md_X11_hasTwoParts 1 := ⟨_, cw_X11_hasTwoParts, wn_1084, wd_620⟩
theorem wd_90 : (Jvm.Cond.methodLink "KnowledgeRoom$Formula" (7 : Nat) ({ cls := "java/lang/Math", name := "max", desc := "(II)I" } : Jvm.MethodName)) ∈ xTG := xmem 90 (by decide +kernel) (by decide +kernel)
theorem mm_RX2_7 : xMXw RX2 7 := ⟨wd_90, wd_91, wd_6, wd_92⟩
theorem wd_542 : (Jvm.Cond.code ({ cls := "KnowledgeRoom", name := "isKnowing", desc := "(I)Z" } : Jvm.MethodName) prog_1_method_42_code (1 : Nat) (Option.some Jvm.ClassFile.FieldType.boolean)) ∈ xTG := xmem 542 (by decide +kernel) (by decide +kernel)
theorem cw_X11_isKnowing : xcw md_X11_isKnowing 1 := ⟨wd_542, wd_1, by decide +kernel, by decide⟩
theorem wn_1085 : (Jvm.Cond.methodLinkNest "KnowledgeRoom$Formula" (51 : Nat) ({ cls := "KnowledgeRoom", name := "isKnowing", desc := "(I)Z" } : Jvm.MethodName) "KnowledgeRoom") ∈ xNW := xmemN 1085 (by decide +kernel) rfl
theorem wd_541 : (Jvm.Cond.static ({ cls := "KnowledgeRoom", name := "isKnowing", desc := "(I)Z" } : Jvm.MethodName)) ∈ xTG := xmem 541 (by decide +kernel) (by decide +kernel)
theorem cn_RX2_51 : xCSN RX2 51 md_X11_isKnowing 1 := ⟨_, cw_X11_isKnowing, wn_1085, wd_541⟩
abbrev md_X2_depth : xMd := (yX2_depth, cX2_depth, 5, (some .int))
abbrev md_X10_atomsOf : xMd := (yX10_atomsOf, cX10_atomsOf, 4, (some .int))
theorem wd_40 : (Jvm.Cond.fieldLink "KnowledgeRoom$Likeness" (33 : Nat) "KnowledgeRoom$Worlds" "size" "I") ∈ xTG := xmem 40 (by decide +kernel) (by decide +kernel)
theorem fl_RX4_33 : xFL RX4 33 10 0 := ⟨_, _, _, cb_10, by decide, wd_40⟩
theorem cb_4 : xCB 4 RX4 TX4 (xnf 4) tyX4 := ⟨rfl, fun w h => List.mem_filter.mpr ⟨List.mem_append_right _ ((by decide +kernel : ∀ w ∈ u_ws RX4 TX4 (xnf 4), w ∈ tables_1) w h), (by decide +kernel : ∀ w ∈ u_ws RX4 TX4 (xnf 4), goodWord w = true) w h⟩, tyX4_ok, nmX4, by decide⟩
theorem wd_242 : (Jvm.Cond.fieldLink "KnowledgeRoom$Likeness" (22 : Nat) "KnowledgeRoom$Likeness" "atoms" "[I") ∈ xTG := xmem 242 (by decide +kernel) (by decide +kernel)
theorem fl_RX4_22 : xFL RX4 22 4 3 := ⟨_, _, _, cb_4, by decide, wd_242⟩
theorem wd_478 : (Jvm.Cond.code ({ cls := "KnowledgeRoom$Worlds", name := "atomsOf", desc := "(I)I" } : Jvm.MethodName) prog_12_method_7_code (4 : Nat) (Option.some Jvm.ClassFile.FieldType.int)) ∈ xTG := xmem 478 (by decide +kernel) (by decide +kernel)
theorem cw_X10_atomsOf : xcw md_X10_atomsOf 1 := ⟨wd_478, wd_2, by decide +kernel, by decide⟩
theorem wd_816 : (Jvm.Cond.methodLink "KnowledgeRoom$Likeness" (39 : Nat) ({ cls := "KnowledgeRoom$Worlds", name := "atomsOf", desc := "(I)I" } : Jvm.MethodName)) ∈ xTG := xmem 816 (by decide +kernel) (by decide +kernel)
theorem wd_476 : (Jvm.Cond.instanceMethod ({ cls := "KnowledgeRoom$Worlds", name := "atomsOf", desc := "(I)I" } : Jvm.MethodName)) ∈ xTG := xmem 476 (by decide +kernel) (by decide +kernel)
theorem wd_477 : (Jvm.Cond.selects "KnowledgeRoom$Worlds" ({ cls := "KnowledgeRoom$Worlds", name := "atomsOf", desc := "(I)I" } : Jvm.MethodName) ({ cls := "KnowledgeRoom$Worlds", name := "atomsOf", desc := "(I)I" } : Jvm.MethodName)) ∈ xTG := xmem 477 (by decide +kernel) (by decide +kernel)
theorem cv_RX4_39 : xCV RX4 39 md_X10_atomsOf 10 1 := ⟨_, _, _, cb_10, rfl, cw_X10_atomsOf, wd_816, wd_476, wd_477⟩
theorem wd_238 : (Jvm.Cond.fieldLink "KnowledgeRoom$Likeness" (9 : Nat) "KnowledgeRoom$Likeness" "first" "[I") ∈ xTG := xmem 238 (by decide +kernel) (by decide +kernel)
theorem fl_RX4_9 : xFL RX4 9 4 0 := ⟨_, _, _, cb_4, by decide, wd_238⟩
abbrev md_X4_start : xMd := (yX4_start, cX4_start, 4, none)
theorem wd_483 : (Jvm.Cond.methodLink "KnowledgeRoom" (155 : Nat) ({ cls := "java/lang/Long", name := "bitCount", desc := "(J)I" } : Jvm.MethodName)) ∈ xTG := xmem 483 (by decide +kernel) (by decide +kernel)
theorem cs_RX11_155 : xCS RX11 155 md_J13_bitCount_95d88 1 := ⟨cw_J13_bitCount_95d88, wd_483, wd_450⟩
abbrev md_X11_lowest : xMd := (yX11_lowest, cX11_lowest, 2, (some .int))
abbrev md_X4_firstsIn : xMd := (yX4_firstsIn, cX4_firstsIn, 7, (some .long))
theorem wd_825 : (Jvm.Cond.methodLink "KnowledgeRoom$Likeness" (56 : Nat) ({ cls := "KnowledgeRoom$Worlds", name := "cell", desc := "(II)J" } : Jvm.MethodName)) ∈ xTG := xmem 825 (by decide +kernel) (by decide +kernel)
theorem cv_RX4_56 : xCV RX4 56 md_X10_cell 10 2 := ⟨_, _, _, cb_10, rfl, cw_X10_cell, wd_825, wd_442, wd_443⟩
theorem wd_482 : (Jvm.Cond.code ({ cls := "KnowledgeRoom", name := "lowest", desc := "(J)I" } : Jvm.MethodName) prog_1_method_33_code (2 : Nat) (Option.some Jvm.ClassFile.FieldType.int)) ∈ xTG := xmem 482 (by decide +kernel) (by decide +kernel)
theorem cw_X11_lowest : xcw md_X11_lowest 1 := ⟨wd_482, wd_1, by decide +kernel, by decide⟩
theorem wn_826 : (Jvm.Cond.methodLinkNest "KnowledgeRoom$Likeness" (60 : Nat) ({ cls := "KnowledgeRoom", name := "lowest", desc := "(J)I" } : Jvm.MethodName) "KnowledgeRoom") ∈ xNW := xmemN 826 (by decide +kernel) rfl
theorem wd_481 : (Jvm.Cond.static ({ cls := "KnowledgeRoom", name := "lowest", desc := "(J)I" } : Jvm.MethodName)) ∈ xTG := xmem 481 (by decide +kernel) (by decide +kernel)
theorem cn_RX4_60 : xCSN RX4 60 md_X11_lowest 1 := ⟨_, cw_X11_lowest, wn_826, wd_481⟩
theorem wd_239 : (Jvm.Cond.fieldLink "KnowledgeRoom$Likeness" (15 : Nat) "KnowledgeRoom$Likeness" "seen" "[J") ∈ xTG := xmem 239 (by decide +kernel) (by decide +kernel)
theorem fl_RX4_15 : xFL RX4 15 4 1 := ⟨_, _, _, cb_4, by decide, wd_239⟩
theorem wd_830 : (Jvm.Cond.code ({ cls := "KnowledgeRoom$Likeness", name := "firstsIn", desc := "(JI)J" } : Jvm.MethodName) prog_6_method_8_code (7 : Nat) (Option.some Jvm.ClassFile.FieldType.long)) ∈ xTG := xmem 830 (by decide +kernel) (by decide +kernel)
theorem wd_10 : (Jvm.Cond.initialized "KnowledgeRoom$Likeness") ∈ xTG := xmem 10 (by decide +kernel) (by decide +kernel)
theorem cw_X4_firstsIn : xcw md_X4_firstsIn 2 := ⟨wd_830, wd_10, by decide +kernel, by decide⟩
theorem wd_827 : (Jvm.Cond.methodLink "KnowledgeRoom$Likeness" (64 : Nat) ({ cls := "KnowledgeRoom$Likeness", name := "firstsIn", desc := "(JI)J" } : Jvm.MethodName)) ∈ xTG := xmem 827 (by decide +kernel) (by decide +kernel)
theorem wd_829 : (Jvm.Cond.instanceMethod ({ cls := "KnowledgeRoom$Likeness", name := "firstsIn", desc := "(JI)J" } : Jvm.MethodName)) ∈ xTG := xmem 829 (by decide +kernel) (by decide +kernel)
theorem ws_35 : Cond.selects "KnowledgeRoom$Likeness" ⟨"KnowledgeRoom$Likeness", "firstsIn", "(JI)J"⟩ ⟨"KnowledgeRoom$Likeness", "firstsIn", "(JI)J"⟩ ∈ xTG := xmemP 35 (by decide +kernel) (by decide +kernel)
theorem cv_RX4_64 : xCV RX4 64 md_X4_firstsIn 4 2 := ⟨_, _, _, cb_4, rfl, cw_X4_firstsIn, wd_827, wd_829, ws_35⟩
abbrev md_X4_look : xMd := (yX4_look, cX4_look, 8, none)
abbrev md_X4_seeSame : xMd := (yX4_seeSame, cX4_seeSame, 4, (some .boolean))
theorem wd_824 : (Jvm.Cond.code ({ cls := "KnowledgeRoom$Likeness", name := "look", desc := "(LKnowledgeRoom$Worlds;)V" } : Jvm.MethodName) prog_6_method_7_code (8 : Nat) (Option.none : Option Jvm.ClassFile.FieldType)) ∈ xTG := xmem 824 (by decide +kernel) (by decide +kernel)
theorem cw_X4_look : xcw md_X4_look 1 := ⟨wd_824, wd_10, by decide +kernel, by decide⟩
theorem wd_821 : (Jvm.Cond.methodLink "KnowledgeRoom$Likeness" (43 : Nat) ({ cls := "KnowledgeRoom$Likeness", name := "look", desc := "(LKnowledgeRoom$Worlds;)V" } : Jvm.MethodName)) ∈ xTG := xmem 821 (by decide +kernel) (by decide +kernel)
theorem wd_823 : (Jvm.Cond.instanceMethod ({ cls := "KnowledgeRoom$Likeness", name := "look", desc := "(LKnowledgeRoom$Worlds;)V" } : Jvm.MethodName)) ∈ xTG := xmem 823 (by decide +kernel) (by decide +kernel)
theorem ws_34 : Cond.selects "KnowledgeRoom$Likeness" ⟨"KnowledgeRoom$Likeness", "look", "(LKnowledgeRoom$Worlds;)V"⟩ ⟨"KnowledgeRoom$Likeness", "look", "(LKnowledgeRoom$Worlds;)V"⟩ ∈ xTG := xmemP 34 (by decide +kernel) (by decide +kernel)
theorem cv_RX4_43 : xCV RX4 43 md_X4_look 4 1 := ⟨_, _, _, cb_4, rfl, cw_X4_look, wd_821, wd_823, ws_34⟩
theorem wd_241 : (Jvm.Cond.fieldLink "KnowledgeRoom$Likeness" (19 : Nat) "KnowledgeRoom$Likeness" "finer" "[I") ∈ xTG := xmem 241 (by decide +kernel) (by decide +kernel)
theorem fl_RX4_19 : xFL RX4 19 4 2 := ⟨_, _, _, cb_4, by decide, wd_241⟩
theorem wd_835 : (Jvm.Cond.methodLink "KnowledgeRoom$Likeness" (50 : Nat) ({ cls := "java/lang/System", name := "arraycopy", desc := "(Ljava/lang/Object;ILjava/lang/Object;II)V" } : Jvm.MethodName)) ∈ xTG := xmem 835 (by decide +kernel) (by decide +kernel)
theorem cp_RX4_50 : xCPw RX4 50 := ⟨wd_835, wd_586, wd_585, wd_16⟩
theorem wd_834 : (Jvm.Cond.code ({ cls := "KnowledgeRoom$Likeness", name := "seeSame", desc := "(II)Z" } : Jvm.MethodName) prog_6_method_9_code (4 : Nat) (Option.some Jvm.ClassFile.FieldType.boolean)) ∈ xTG := xmem 834 (by decide +kernel) (by decide +kernel)
theorem cw_X4_seeSame : xcw md_X4_seeSame 2 := ⟨wd_834, wd_10, by decide +kernel, by decide⟩
theorem wd_831 : (Jvm.Cond.methodLink "KnowledgeRoom$Likeness" (46 : Nat) ({ cls := "KnowledgeRoom$Likeness", name := "seeSame", desc := "(II)Z" } : Jvm.MethodName)) ∈ xTG := xmem 831 (by decide +kernel) (by decide +kernel)
theorem wd_833 : (Jvm.Cond.instanceMethod ({ cls := "KnowledgeRoom$Likeness", name := "seeSame", desc := "(II)Z" } : Jvm.MethodName)) ∈ xTG := xmem 833 (by decide +kernel) (by decide +kernel)
theorem ws_36 : Cond.selects "KnowledgeRoom$Likeness" ⟨"KnowledgeRoom$Likeness", "seeSame", "(II)Z"⟩ ⟨"KnowledgeRoom$Likeness", "seeSame", "(II)Z"⟩ ∈ xTG := xmemP 36 (by decide +kernel) (by decide +kernel)
theorem cv_RX4_46 : xCV RX4 46 md_X4_seeSame 4 2 := ⟨_, _, _, cb_4, rfl, cw_X4_seeSame, wd_831, wd_833, ws_36⟩
abbrev md_X4_refine : xMd := (yX4_refine, cX4_refine, 5, (some .boolean))
theorem wd_815 : (Jvm.Cond.code ({ cls := "KnowledgeRoom$Likeness", name := "start", desc := "(LKnowledgeRoom$Worlds;)V" } : Jvm.MethodName) prog_6_method_5_code (4 : Nat) (Option.none : Option Jvm.ClassFile.FieldType)) ∈ xTG := xmem 815 (by decide +kernel) (by decide +kernel)
theorem cw_X4_start : xcw md_X4_start 1 := ⟨wd_815, wd_10, by decide +kernel, by decide⟩
theorem wd_812 : (Jvm.Cond.methodLink "KnowledgeRoom$Likeness" (25 : Nat) ({ cls := "KnowledgeRoom$Likeness", name := "start", desc := "(LKnowledgeRoom$Worlds;)V" } : Jvm.MethodName)) ∈ xTG := xmem 812 (by decide +kernel) (by decide +kernel)
theorem wd_814 : (Jvm.Cond.instanceMethod ({ cls := "KnowledgeRoom$Likeness", name := "start", desc := "(LKnowledgeRoom$Worlds;)V" } : Jvm.MethodName)) ∈ xTG := xmem 814 (by decide +kernel) (by decide +kernel)
theorem ws_32 : Cond.selects "KnowledgeRoom$Likeness" ⟨"KnowledgeRoom$Likeness", "start", "(LKnowledgeRoom$Worlds;)V"⟩ ⟨"KnowledgeRoom$Likeness", "start", "(LKnowledgeRoom$Worlds;)V"⟩ ∈ xTG := xmemP 32 (by decide +kernel) (by decide +kernel)
theorem cv_RX4_25 : xCV RX4 25 md_X4_start 4 1 := ⟨_, _, _, cb_4, rfl, cw_X4_start, wd_812, wd_814, ws_32⟩
theorem wd_820 : (Jvm.Cond.code ({ cls := "KnowledgeRoom$Likeness", name := "refine", desc := "(LKnowledgeRoom$Worlds;)Z" } : Jvm.MethodName) prog_6_method_6_code (5 : Nat) (Option.some Jvm.ClassFile.FieldType.boolean)) ∈ xTG := xmem 820 (by decide +kernel) (by decide +kernel)
theorem cw_X4_refine : xcw md_X4_refine 1 := ⟨wd_820, wd_10, by decide +kernel, by decide⟩
theorem wd_817 : (Jvm.Cond.methodLink "KnowledgeRoom$Likeness" (29 : Nat) ({ cls := "KnowledgeRoom$Likeness", name := "refine", desc := "(LKnowledgeRoom$Worlds;)Z" } : Jvm.MethodName)) ∈ xTG := xmem 817 (by decide +kernel) (by decide +kernel)
theorem wd_819 : (Jvm.Cond.instanceMethod ({ cls := "KnowledgeRoom$Likeness", name := "refine", desc := "(LKnowledgeRoom$Worlds;)Z" } : Jvm.MethodName)) ∈ xTG := xmem 819 (by decide +kernel) (by decide +kernel)
theorem ws_33 : Cond.selects "KnowledgeRoom$Likeness" ⟨"KnowledgeRoom$Likeness", "refine", "(LKnowledgeRoom$Worlds;)Z"⟩ ⟨"KnowledgeRoom$Likeness", "refine", "(LKnowledgeRoom$Worlds;)Z"⟩ ∈ xTG := xmemP 33 (by decide +kernel) (by decide +kernel)
theorem cv_RX4_29 : xCV RX4 29 md_X4_refine 4 1 := ⟨_, _, _, cb_4, rfl, cw_X4_refine, wd_817, wd_819, ws_33⟩
abbrev md_X4_difference : xMd := (yX4_difference, cX4_difference, 5, (some .int))
abbrev md_X4_settle : xMd := (yX4_settle, cX4_settle, 3, none)
abbrev md_X4_firsts : xMd := (yX4_firsts, cX4_firsts, 5, (some .long))
theorem fp_RX10_18 : xFP RX10 18 10 0 .int := ⟨_, _, _, cb_10, by decide, wd_38, rfl, rfl⟩
theorem wd_718 : (Jvm.Cond.methodLink "KnowledgeRoom$Worlds" (42 : Nat) ({ cls := "java/lang/System", name := "arraycopy", desc := "(Ljava/lang/Object;ILjava/lang/Object;II)V" } : Jvm.MethodName)) ∈ xTG := xmem 718 (by decide +kernel) (by decide +kernel)
theorem cp_RX10_42 : xCPw RX10 42 := ⟨wd_718, wd_586, wd_585, wd_16⟩
abbrev md_X10_copy : xMd := (yX10_copy, cX10_copy, 2, none)
theorem cb_5 : xCB 5 RX5 TX5 (xnf 5) tyX5 := ⟨rfl, fun w h => List.mem_filter.mpr ⟨List.mem_append_right _ ((by decide +kernel : ∀ w ∈ u_ws RX5 TX5 (xnf 5), w ∈ tables_1) w h), (by decide +kernel : ∀ w ∈ u_ws RX5 TX5 (xnf 5), goodWord w = true) w h⟩, tyX5_ok, nmX5, by decide⟩
theorem wd_66 : (Jvm.Cond.fieldLink "KnowledgeRoom$Past" (11 : Nat) "KnowledgeRoom$Past" "ring" "[LKnowledgeRoom$Worlds;") ∈ xTG := xmem 66 (by decide +kernel) (by decide +kernel)
theorem fl_RX5_11 : xFL RX5 11 5 0 := ⟨_, _, _, cb_5, by decide, wd_66⟩
theorem wd_67 : (Jvm.Cond.fieldLink "KnowledgeRoom$Past" (18 : Nat) "KnowledgeRoom$Past" "next" "I") ∈ xTG := xmem 67 (by decide +kernel) (by decide +kernel)
theorem fl_RX5_18 : xFL RX5 18 5 1 := ⟨_, _, _, cb_5, by decide, wd_67⟩
theorem wd_717 : (Jvm.Cond.code ({ cls := "KnowledgeRoom$Worlds", name := "copy", desc := "(LKnowledgeRoom$Worlds;)V" } : Jvm.MethodName) prog_12_method_12_code (2 : Nat) (Option.none : Option Jvm.ClassFile.FieldType)) ∈ xTG := xmem 717 (by decide +kernel) (by decide +kernel)
theorem cw_X10_copy : xcw md_X10_copy 1 := ⟨wd_717, wd_2, by decide +kernel, by decide⟩
theorem wd_714 : (Jvm.Cond.methodLink "KnowledgeRoom$Past" (22 : Nat) ({ cls := "KnowledgeRoom$Worlds", name := "copy", desc := "(LKnowledgeRoom$Worlds;)V" } : Jvm.MethodName)) ∈ xTG := xmem 714 (by decide +kernel) (by decide +kernel)
theorem wd_715 : (Jvm.Cond.instanceMethod ({ cls := "KnowledgeRoom$Worlds", name := "copy", desc := "(LKnowledgeRoom$Worlds;)V" } : Jvm.MethodName)) ∈ xTG := xmem 715 (by decide +kernel) (by decide +kernel)
theorem wd_716 : (Jvm.Cond.selects "KnowledgeRoom$Worlds" ({ cls := "KnowledgeRoom$Worlds", name := "copy", desc := "(LKnowledgeRoom$Worlds;)V" } : Jvm.MethodName) ({ cls := "KnowledgeRoom$Worlds", name := "copy", desc := "(LKnowledgeRoom$Worlds;)V" } : Jvm.MethodName)) ∈ xTG := xmem 716 (by decide +kernel) (by decide +kernel)
theorem cv_RX5_22 : xCV RX5 22 md_X10_copy 10 1 := ⟨_, _, _, cb_10, rfl, cw_X10_copy, wd_714, wd_715, wd_716⟩
theorem fp_RX5_18 : xFP RX5 18 5 1 .int := ⟨_, _, _, cb_5, by decide, wd_67, rfl, rfl⟩
theorem wd_68 : (Jvm.Cond.fieldLink "KnowledgeRoom$Past" (26 : Nat) "KnowledgeRoom$Past" "size" "I") ∈ xTG := xmem 68 (by decide +kernel) (by decide +kernel)
theorem fl_RX5_26 : xFL RX5 26 5 2 := ⟨_, _, _, cb_5, by decide, wd_68⟩
theorem wd_719 : (Jvm.Cond.methodLink "KnowledgeRoom$Past" (29 : Nat) ({ cls := "java/lang/Math", name := "min", desc := "(II)I" } : Jvm.MethodName)) ∈ xTG := xmem 719 (by decide +kernel) (by decide +kernel)
theorem mm_RX5_29 : xMNw RX5 29 := ⟨wd_719, wd_720, wd_6, wd_721⟩
theorem fp_RX5_26 : xFP RX5 26 5 2 .int := ⟨_, _, _, cb_5, by decide, wd_68, rfl, rfl⟩
abbrev md_X5_keep : xMd := (yX5_keep, cX5_keep, 3, (some (.object "KnowledgeRoom$Worlds")))
abbrev md_X5_restore : xMd := (yX5_restore, cX5_restore, 2, none)
abbrev md_X6_isSign : xMd := (yX6_isSign, cX6_isSign, 1, (some .boolean))
theorem wd_494 : (Jvm.Cond.code ({ cls := "KnowledgeRoom$Reader", name := "isSign", desc := "(I)Z" } : Jvm.MethodName) prog_8_method_5_code (1 : Nat) (Option.some Jvm.ClassFile.FieldType.boolean)) ∈ xTG := xmem 494 (by decide +kernel) (by decide +kernel)
theorem wd_7 : (Jvm.Cond.initialized "KnowledgeRoom$Reader") ∈ xTG := xmem 7 (by decide +kernel) (by decide +kernel)
theorem cw_X6_isSign : xcw md_X6_isSign 1 := ⟨wd_494, wd_7, by decide +kernel, by decide⟩
theorem wd_492 : (Jvm.Cond.methodLink "KnowledgeRoom$Reader" (44 : Nat) ({ cls := "KnowledgeRoom$Reader", name := "isSign", desc := "(I)Z" } : Jvm.MethodName)) ∈ xTG := xmem 492 (by decide +kernel) (by decide +kernel)
theorem wd_493 : (Jvm.Cond.static ({ cls := "KnowledgeRoom$Reader", name := "isSign", desc := "(I)Z" } : Jvm.MethodName)) ∈ xTG := xmem 493 (by decide +kernel) (by decide +kernel)
theorem cs_RX6_44 : xCS RX6 44 md_X6_isSign 1 := ⟨cw_X6_isSign, wd_492, wd_493⟩
theorem cb_6 : xCB 6 RX6 TX6 (xnf 6) tyX6 := ⟨rfl, fun w h => List.mem_filter.mpr ⟨List.mem_append_right _ ((by decide +kernel : ∀ w ∈ u_ws RX6 TX6 (xnf 6), w ∈ tables_1) w h), (by decide +kernel : ∀ w ∈ u_ws RX6 TX6 (xnf 6), goodWord w = true) w h⟩, tyX6_ok, nmX6, by decide⟩
theorem wd_142 : (Jvm.Cond.fieldLink "KnowledgeRoom$Reader" (48 : Nat) "KnowledgeRoom$Reader" "size" "I") ∈ xTG := xmem 142 (by decide +kernel) (by decide +kernel)
theorem fl_RX6_48 : xFL RX6 48 6 1 := ⟨_, _, _, cb_6, by decide, wd_142⟩
theorem wd_141 : (Jvm.Cond.fieldLink "KnowledgeRoom$Reader" (9 : Nat) "KnowledgeRoom$Reader" "signs" "[C") ∈ xTG := xmem 141 (by decide +kernel) (by decide +kernel)
theorem fl_RX6_9 : xFL RX6 9 6 0 := ⟨_, _, _, cb_6, by decide, wd_141⟩
theorem fp_RX6_48 : xFP RX6 48 6 1 .int := ⟨_, _, _, cb_6, by decide, wd_142, rfl, rfl⟩
abbrev md_X6_collect : xMd := (yX6_collect, cX6_collect, 2, (some .int))
theorem wd_491 : (Jvm.Cond.code ({ cls := "KnowledgeRoom$Reader", name := "collect", desc := "(I)I" } : Jvm.MethodName) prog_8_method_2_code (2 : Nat) (Option.some Jvm.ClassFile.FieldType.int)) ∈ xTG := xmem 491 (by decide +kernel) (by decide +kernel)
theorem cw_X6_collect : xcw md_X6_collect 1 := ⟨wd_491, wd_7, by decide +kernel, by decide⟩
theorem wd_503 : (Jvm.Cond.methodLink "KnowledgeRoom$Reader" (52 : Nat) ({ cls := "KnowledgeRoom$Reader", name := "collect", desc := "(I)I" } : Jvm.MethodName)) ∈ xTG := xmem 503 (by decide +kernel) (by decide +kernel)
theorem wd_489 : (Jvm.Cond.instanceMethod ({ cls := "KnowledgeRoom$Reader", name := "collect", desc := "(I)I" } : Jvm.MethodName)) ∈ xTG := xmem 489 (by decide +kernel) (by decide +kernel)
theorem wd_490 : (Jvm.Cond.selects "KnowledgeRoom$Reader" ({ cls := "KnowledgeRoom$Reader", name := "collect", desc := "(I)I" } : Jvm.MethodName) ({ cls := "KnowledgeRoom$Reader", name := "collect", desc := "(I)I" } : Jvm.MethodName)) ∈ xTG := xmem 490 (by decide +kernel) (by decide +kernel)
theorem cv_RX6_52 : xCV RX6 52 md_X6_collect 6 1 := ⟨_, _, _, cb_6, rfl, cw_X6_collect, wd_503, wd_489, wd_490⟩
abbrev md_X6_collectFour : xMd := (yX6_collectFour, cX6_collectFour, 5, (some .int))
theorem wd_152 : (Jvm.Cond.fieldLink "KnowledgeRoom$Reader" (89 : Nat) "KnowledgeRoom$Reader" "behind" "I") ∈ xTG := xmem 152 (by decide +kernel) (by decide +kernel)
theorem fp_RX6_89 : xFP RX6 89 6 10 .int := ⟨_, _, _, cb_6, by decide, wd_152, rfl, rfl⟩
theorem wd_153 : (Jvm.Cond.fieldLink "KnowledgeRoom$Reader" (78 : Nat) "KnowledgeRoom$Reader" "wantsOne" "Z") ∈ xTG := xmem 153 (by decide +kernel) (by decide +kernel)
theorem fp_RX6_78 : xFP RX6 78 6 11 .boolean := ⟨_, _, _, cb_6, by decide, wd_153, rfl, rfl⟩
abbrev md_X6_wantFirstOne : xMd := (yX6_wantFirstOne, cX6_wantFirstOne, 1, none)
theorem wd_151 : (Jvm.Cond.fieldLink "KnowledgeRoom$Reader" (57 : Nat) "KnowledgeRoom$Reader" "level" "I") ∈ xTG := xmem 151 (by decide +kernel) (by decide +kernel)
theorem fl_RX6_57 : xFL RX6 57 6 9 := ⟨_, _, _, cb_6, by decide, wd_151⟩
theorem fp_RX6_57 : xFP RX6 57 6 9 .int := ⟨_, _, _, cb_6, by decide, wd_151, rfl, rfl⟩
theorem wd_145 : (Jvm.Cond.fieldLink "KnowledgeRoom$Reader" (24 : Nat) "KnowledgeRoom$Reader" "closer" "[C") ∈ xTG := xmem 145 (by decide +kernel) (by decide +kernel)
theorem fl_RX6_24 : xFL RX6 24 6 3 := ⟨_, _, _, cb_6, by decide, wd_145⟩
theorem wd_149 : (Jvm.Cond.fieldLink "KnowledgeRoom$Reader" (37 : Nat) "KnowledgeRoom$Reader" "outer" "[I") ∈ xTG := xmem 149 (by decide +kernel) (by decide +kernel)
theorem fl_RX6_37 : xFL RX6 37 6 7 := ⟨_, _, _, cb_6, by decide, wd_149⟩
theorem fl_RX6_89 : xFL RX6 89 6 10 := ⟨_, _, _, cb_6, by decide, wd_152⟩
theorem wd_150 : (Jvm.Cond.fieldLink "KnowledgeRoom$Reader" (40 : Nat) "KnowledgeRoom$Reader" "equated" "[Z") ∈ xTG := xmem 150 (by decide +kernel) (by decide +kernel)
theorem fl_RX6_40 : xFL RX6 40 6 8 := ⟨_, _, _, cb_6, by decide, wd_150⟩
theorem wd_146 : (Jvm.Cond.fieldLink "KnowledgeRoom$Reader" (27 : Nat) "KnowledgeRoom$Reader" "wholeAt" "[I") ∈ xTG := xmem 146 (by decide +kernel) (by decide +kernel)
theorem fl_RX6_27 : xFL RX6 27 6 4 := ⟨_, _, _, cb_6, by decide, wd_146⟩
theorem wd_144 : (Jvm.Cond.fieldLink "KnowledgeRoom$Reader" (20 : Nat) "KnowledgeRoom$Reader" "draft" "LKnowledgeRoom$Formula;") ∈ xTG := xmem 144 (by decide +kernel) (by decide +kernel)
theorem fl_RX6_20 : xFL RX6 20 6 2 := ⟨_, _, _, cb_6, by decide, wd_144⟩
theorem wd_104 : (Jvm.Cond.fieldLink "KnowledgeRoom$Reader" (56 : Nat) "KnowledgeRoom$Formula" "size" "I") ∈ xTG := xmem 104 (by decide +kernel) (by decide +kernel)
theorem fl_RX6_56 : xFL RX6 56 2 1 := ⟨_, _, _, cb_2, by decide, wd_104⟩
theorem wd_147 : (Jvm.Cond.fieldLink "KnowledgeRoom$Reader" (31 : Nat) "KnowledgeRoom$Reader" "orAt" "[I") ∈ xTG := xmem 147 (by decide +kernel) (by decide +kernel)
theorem fl_RX6_31 : xFL RX6 31 6 5 := ⟨_, _, _, cb_6, by decide, wd_147⟩
theorem wd_148 : (Jvm.Cond.fieldLink "KnowledgeRoom$Reader" (34 : Nat) "KnowledgeRoom$Reader" "andAt" "[I") ∈ xTG := xmem 148 (by decide +kernel) (by decide +kernel)
theorem fl_RX6_34 : xFL RX6 34 6 6 := ⟨_, _, _, cb_6, by decide, wd_148⟩
theorem wd_519 : (Jvm.Cond.code ({ cls := "KnowledgeRoom$Reader", name := "wantFirstOne", desc := "()V" } : Jvm.MethodName) prog_8_method_11_code (1 : Nat) (Option.none : Option Jvm.ClassFile.FieldType)) ∈ xTG := xmem 519 (by decide +kernel) (by decide +kernel)
theorem cw_X6_wantFirstOne : xcw md_X6_wantFirstOne 0 := ⟨wd_519, wd_7, by decide +kernel, by decide⟩
theorem wd_516 : (Jvm.Cond.methodLink "KnowledgeRoom$Reader" (111 : Nat) ({ cls := "KnowledgeRoom$Reader", name := "wantFirstOne", desc := "()V" } : Jvm.MethodName)) ∈ xTG := xmem 516 (by decide +kernel) (by decide +kernel)
theorem wd_518 : (Jvm.Cond.instanceMethod ({ cls := "KnowledgeRoom$Reader", name := "wantFirstOne", desc := "()V" } : Jvm.MethodName)) ∈ xTG := xmem 518 (by decide +kernel) (by decide +kernel)
theorem ws_3 : Cond.selects "KnowledgeRoom$Reader" ⟨"KnowledgeRoom$Reader", "wantFirstOne", "()V"⟩ ⟨"KnowledgeRoom$Reader", "wantFirstOne", "()V"⟩ ∈ xTG := xmemP 3 (by decide +kernel) (by decide +kernel)
theorem cv_RX6_111 : xCV RX6 111 md_X6_wantFirstOne 6 0 := ⟨_, _, _, cb_6, rfl, cw_X6_wantFirstOne, wd_516, wd_518, ws_3⟩
abbrev md_X6_enter : xMd := (yX6_enter, cX6_enter, 2, none)
theorem wd_154 : (Jvm.Cond.fieldLink "KnowledgeRoom$Reader" (71 : Nat) "KnowledgeRoom$Reader" "at" "I") ∈ xTG := xmem 154 (by decide +kernel) (by decide +kernel)
theorem fp_RX6_71 : xFP RX6 71 6 12 .int := ⟨_, _, _, cb_6, by decide, wd_154, rfl, rfl⟩
theorem fl_RX6_71 : xFL RX6 71 6 12 := ⟨_, _, _, cb_6, by decide, wd_154⟩
abbrev md_X6_toSign : xMd := (yX6_toSign, cX6_toSign, 2, none)
theorem wd_362 : (Jvm.Cond.code ({ cls := "KnowledgeRoom$Formula", name := "add", desc := "(I)Z" } : Jvm.MethodName) prog_4_method_2_code (2 : Nat) (Option.some Jvm.ClassFile.FieldType.boolean)) ∈ xTG := xmem 362 (by decide +kernel) (by decide +kernel)
theorem cw_X2_add : xcw md_X2_add 1 := ⟨wd_362, wd_5, by decide +kernel, by decide⟩
theorem wd_536 : (Jvm.Cond.methodLink "KnowledgeRoom$Reader" (108 : Nat) ({ cls := "KnowledgeRoom$Formula", name := "add", desc := "(I)Z" } : Jvm.MethodName)) ∈ xTG := xmem 536 (by decide +kernel) (by decide +kernel)
theorem wd_360 : (Jvm.Cond.instanceMethod ({ cls := "KnowledgeRoom$Formula", name := "add", desc := "(I)Z" } : Jvm.MethodName)) ∈ xTG := xmem 360 (by decide +kernel) (by decide +kernel)
theorem wd_361 : (Jvm.Cond.selects "KnowledgeRoom$Formula" ({ cls := "KnowledgeRoom$Formula", name := "add", desc := "(I)Z" } : Jvm.MethodName) ({ cls := "KnowledgeRoom$Formula", name := "add", desc := "(I)Z" } : Jvm.MethodName)) ∈ xTG := xmem 361 (by decide +kernel) (by decide +kernel)
theorem cv_RX6_108 : xCV RX6 108 md_X2_add 2 1 := ⟨_, _, _, cb_2, rfl, cw_X2_add, wd_536, wd_360, wd_361⟩
theorem wd_515 : (Jvm.Cond.code ({ cls := "KnowledgeRoom$Reader", name := "enter", desc := "(C)V" } : Jvm.MethodName) prog_8_method_10_code (2 : Nat) (Option.none : Option Jvm.ClassFile.FieldType)) ∈ xTG := xmem 515 (by decide +kernel) (by decide +kernel)
theorem cw_X6_enter : xcw md_X6_enter 1 := ⟨wd_515, wd_7, by decide +kernel, by decide⟩
theorem wd_512 : (Jvm.Cond.methodLink "KnowledgeRoom$Reader" (60 : Nat) ({ cls := "KnowledgeRoom$Reader", name := "enter", desc := "(C)V" } : Jvm.MethodName)) ∈ xTG := xmem 512 (by decide +kernel) (by decide +kernel)
theorem wd_514 : (Jvm.Cond.instanceMethod ({ cls := "KnowledgeRoom$Reader", name := "enter", desc := "(C)V" } : Jvm.MethodName)) ∈ xTG := xmem 514 (by decide +kernel) (by decide +kernel)
theorem ws_2 : Cond.selects "KnowledgeRoom$Reader" ⟨"KnowledgeRoom$Reader", "enter", "(C)V"⟩ ⟨"KnowledgeRoom$Reader", "enter", "(C)V"⟩ ∈ xTG := xmemP 2 (by decide +kernel) (by decide +kernel)
theorem cv_RX6_60 : xCV RX6 60 md_X6_enter 6 1 := ⟨_, _, _, cb_6, rfl, cw_X6_enter, wd_512, wd_514, ws_2⟩
theorem wd_523 : (Jvm.Cond.code ({ cls := "KnowledgeRoom$Reader", name := "toSign", desc := "(I)V" } : Jvm.MethodName) prog_8_method_6_code (2 : Nat) (Option.none : Option Jvm.ClassFile.FieldType)) ∈ xTG := xmem 523 (by decide +kernel) (by decide +kernel)
theorem cw_X6_toSign : xcw md_X6_toSign 1 := ⟨wd_523, wd_7, by decide +kernel, by decide⟩
theorem wd_520 : (Jvm.Cond.methodLink "KnowledgeRoom$Reader" (64 : Nat) ({ cls := "KnowledgeRoom$Reader", name := "toSign", desc := "(I)V" } : Jvm.MethodName)) ∈ xTG := xmem 520 (by decide +kernel) (by decide +kernel)
theorem wd_522 : (Jvm.Cond.instanceMethod ({ cls := "KnowledgeRoom$Reader", name := "toSign", desc := "(I)V" } : Jvm.MethodName)) ∈ xTG := xmem 522 (by decide +kernel) (by decide +kernel)
theorem ws_4 : Cond.selects "KnowledgeRoom$Reader" ⟨"KnowledgeRoom$Reader", "toSign", "(I)V"⟩ ⟨"KnowledgeRoom$Reader", "toSign", "(I)V"⟩ ∈ xTG := xmemP 4 (by decide +kernel) (by decide +kernel)
theorem cv_RX6_64 : xCV RX6 64 md_X6_toSign 6 1 := ⟨_, _, _, cb_6, rfl, cw_X6_toSign, wd_520, wd_522, ws_4⟩
abbrev md_X6_takeOpening : xMd := (yX6_takeOpening, cX6_takeOpening, 3, (some .boolean))
abbrev md_X6_takeAgents : xMd := (yX6_takeAgents, cX6_takeAgents, 5, (some .int))
theorem wd_550 : (Jvm.Cond.code ({ cls := "KnowledgeRoom$Reader", name := "takeAgents", desc := "(I)I" } : Jvm.MethodName) prog_8_method_13_code (5 : Nat) (Option.some Jvm.ClassFile.FieldType.int)) ∈ xTG := xmem 550 (by decide +kernel) (by decide +kernel)
theorem cw_X6_takeAgents : xcw md_X6_takeAgents 1 := ⟨wd_550, wd_7, by decide +kernel, by decide⟩
theorem wd_547 : (Jvm.Cond.methodLink "KnowledgeRoom$Reader" (114 : Nat) ({ cls := "KnowledgeRoom$Reader", name := "takeAgents", desc := "(I)I" } : Jvm.MethodName)) ∈ xTG := xmem 547 (by decide +kernel) (by decide +kernel)
theorem wd_549 : (Jvm.Cond.instanceMethod ({ cls := "KnowledgeRoom$Reader", name := "takeAgents", desc := "(I)I" } : Jvm.MethodName)) ∈ xTG := xmem 549 (by decide +kernel) (by decide +kernel)
theorem ws_9 : Cond.selects "KnowledgeRoom$Reader" ⟨"KnowledgeRoom$Reader", "takeAgents", "(I)I"⟩ ⟨"KnowledgeRoom$Reader", "takeAgents", "(I)I"⟩ ∈ xTG := xmemP 9 (by decide +kernel) (by decide +kernel)
theorem cv_RX6_114 : xCV RX6 114 md_X6_takeAgents 6 1 := ⟨_, _, _, cb_6, rfl, cw_X6_takeAgents, wd_547, wd_549, ws_9⟩
theorem wn_551 : (Jvm.Cond.methodLinkNest "KnowledgeRoom$Reader" (117 : Nat) ({ cls := "KnowledgeRoom", name := "withAgents", desc := "(II)I" } : Jvm.MethodName) "KnowledgeRoom") ∈ xNW := xmemN 551 (by decide +kernel) rfl
theorem cn_RX6_117 : xCSN RX6 117 md_X11_withAgents 2 := ⟨_, cw_X11_withAgents, wn_551, wd_552⟩
abbrev md_X6_takeKnowing : xMd := (yX6_takeKnowing, cX6_takeKnowing, 3, (some .boolean))
theorem wn_537 : (Jvm.Cond.methodLinkNest "KnowledgeRoom$Reader" (96 : Nat) ({ cls := "KnowledgeRoom", name := "isSaying", desc := "(I)Z" } : Jvm.MethodName) "KnowledgeRoom") ∈ xNW := xmemN 537 (by decide +kernel) rfl
theorem cn_RX6_96 : xCSN RX6 96 md_X11_isSaying 1 := ⟨_, cw_X11_isSaying, wn_537, wd_538⟩
theorem wn_540 : (Jvm.Cond.methodLinkNest "KnowledgeRoom$Reader" (99 : Nat) ({ cls := "KnowledgeRoom", name := "isKnowing", desc := "(I)Z" } : Jvm.MethodName) "KnowledgeRoom") ∈ xNW := xmemN 540 (by decide +kernel) rfl
theorem cn_RX6_99 : xCSN RX6 99 md_X11_isKnowing 1 := ⟨_, cw_X11_isKnowing, wn_540, wd_541⟩
theorem wn_554 : (Jvm.Cond.methodLinkNest "KnowledgeRoom$Reader" (105 : Nat) ({ cls := "KnowledgeRoom", name := "isLeaf", desc := "(I)Z" } : Jvm.MethodName) "KnowledgeRoom") ∈ xNW := xmemN 554 (by decide +kernel) rfl
theorem cn_RX6_105 : xCSN RX6 105 md_X11_isLeaf 1 := ⟨_, cw_X11_isLeaf, wn_554, wd_555⟩
theorem wd_546 : (Jvm.Cond.code ({ cls := "KnowledgeRoom$Reader", name := "takeKnowing", desc := "(C)Z" } : Jvm.MethodName) prog_8_method_12_code (3 : Nat) (Option.some Jvm.ClassFile.FieldType.boolean)) ∈ xTG := xmem 546 (by decide +kernel) (by decide +kernel)
theorem cw_X6_takeKnowing : xcw md_X6_takeKnowing 1 := ⟨wd_546, wd_7, by decide +kernel, by decide⟩
theorem wd_543 : (Jvm.Cond.methodLink "KnowledgeRoom$Reader" (102 : Nat) ({ cls := "KnowledgeRoom$Reader", name := "takeKnowing", desc := "(C)Z" } : Jvm.MethodName)) ∈ xTG := xmem 543 (by decide +kernel) (by decide +kernel)
theorem wd_545 : (Jvm.Cond.instanceMethod ({ cls := "KnowledgeRoom$Reader", name := "takeKnowing", desc := "(C)Z" } : Jvm.MethodName)) ∈ xTG := xmem 545 (by decide +kernel) (by decide +kernel)
theorem ws_8 : Cond.selects "KnowledgeRoom$Reader" ⟨"KnowledgeRoom$Reader", "takeKnowing", "(C)Z"⟩ ⟨"KnowledgeRoom$Reader", "takeKnowing", "(C)Z"⟩ ∈ xTG := xmemP 8 (by decide +kernel) (by decide +kernel)
theorem cv_RX6_102 : xCV RX6 102 md_X6_takeKnowing 6 1 := ⟨_, _, _, cb_6, rfl, cw_X6_takeKnowing, wd_543, wd_545, ws_8⟩
theorem wd_535 : (Jvm.Cond.code ({ cls := "KnowledgeRoom$Reader", name := "takeOpening", desc := "(CC)Z" } : Jvm.MethodName) prog_8_method_9_code (3 : Nat) (Option.some Jvm.ClassFile.FieldType.boolean)) ∈ xTG := xmem 535 (by decide +kernel) (by decide +kernel)
theorem cw_X6_takeOpening : xcw md_X6_takeOpening 2 := ⟨wd_535, wd_7, by decide +kernel, by decide⟩
theorem wd_532 : (Jvm.Cond.methodLink "KnowledgeRoom$Reader" (92 : Nat) ({ cls := "KnowledgeRoom$Reader", name := "takeOpening", desc := "(CC)Z" } : Jvm.MethodName)) ∈ xTG := xmem 532 (by decide +kernel) (by decide +kernel)
theorem wd_534 : (Jvm.Cond.instanceMethod ({ cls := "KnowledgeRoom$Reader", name := "takeOpening", desc := "(CC)Z" } : Jvm.MethodName)) ∈ xTG := xmem 534 (by decide +kernel) (by decide +kernel)
theorem ws_7 : Cond.selects "KnowledgeRoom$Reader" ⟨"KnowledgeRoom$Reader", "takeOpening", "(CC)Z"⟩ ⟨"KnowledgeRoom$Reader", "takeOpening", "(CC)Z"⟩ ∈ xTG := xmemP 7 (by decide +kernel) (by decide +kernel)
theorem cv_RX6_92 : xCV RX6 92 md_X6_takeOpening 6 2 := ⟨_, _, _, cb_6, rfl, cw_X6_takeOpening, wd_532, wd_534, ws_7⟩
abbrev md_X6_takeOne : xMd := (yX6_takeOne, cX6_takeOne, 2, (some .boolean))
abbrev md_X6_leave : xMd := (yX6_leave, cX6_leave, 2, (some .boolean))
theorem wn_569 : (Jvm.Cond.methodLinkNest "KnowledgeRoom$Reader" (127 : Nat) ({ cls := "KnowledgeRoom", name := "isJoin", desc := "(I)Z" } : Jvm.MethodName) "KnowledgeRoom") ∈ xNW := xmemN 569 (by decide +kernel) rfl
theorem cn_RX6_127 : xCSN RX6 127 md_X11_isJoin 1 := ⟨_, cw_X11_isJoin, wn_569, wd_570⟩
theorem wd_575 : (Jvm.Cond.code ({ cls := "KnowledgeRoom$Formula", name := "insert", desc := "(II)Z" } : Jvm.MethodName) prog_4_method_4_code (4 : Nat) (Option.some Jvm.ClassFile.FieldType.boolean)) ∈ xTG := xmem 575 (by decide +kernel) (by decide +kernel)
theorem cw_X2_insert : xcw md_X2_insert 2 := ⟨wd_575, wd_5, by decide +kernel, by decide⟩
theorem wd_572 : (Jvm.Cond.methodLink "KnowledgeRoom$Reader" (130 : Nat) ({ cls := "KnowledgeRoom$Formula", name := "insert", desc := "(II)Z" } : Jvm.MethodName)) ∈ xTG := xmem 572 (by decide +kernel) (by decide +kernel)
theorem wd_573 : (Jvm.Cond.instanceMethod ({ cls := "KnowledgeRoom$Formula", name := "insert", desc := "(II)Z" } : Jvm.MethodName)) ∈ xTG := xmem 573 (by decide +kernel) (by decide +kernel)
theorem wd_574 : (Jvm.Cond.selects "KnowledgeRoom$Formula" ({ cls := "KnowledgeRoom$Formula", name := "insert", desc := "(II)Z" } : Jvm.MethodName) ({ cls := "KnowledgeRoom$Formula", name := "insert", desc := "(II)Z" } : Jvm.MethodName)) ∈ xTG := xmem 574 (by decide +kernel) (by decide +kernel)
theorem cv_RX6_130 : xCV RX6 130 md_X2_insert 2 2 := ⟨_, _, _, cb_2, rfl, cw_X2_insert, wd_572, wd_573, wd_574⟩
abbrev md_X6_takeJoin : xMd := (yX6_takeJoin, cX6_takeJoin, 3, (some .boolean))
theorem wd_568 : (Jvm.Cond.code ({ cls := "KnowledgeRoom$Reader", name := "takeJoin", desc := "(C)Z" } : Jvm.MethodName) prog_8_method_16_code (3 : Nat) (Option.some Jvm.ClassFile.FieldType.boolean)) ∈ xTG := xmem 568 (by decide +kernel) (by decide +kernel)
theorem cw_X6_takeJoin : xcw md_X6_takeJoin 1 := ⟨wd_568, wd_7, by decide +kernel, by decide⟩
theorem wd_565 : (Jvm.Cond.methodLink "KnowledgeRoom$Reader" (124 : Nat) ({ cls := "KnowledgeRoom$Reader", name := "takeJoin", desc := "(C)Z" } : Jvm.MethodName)) ∈ xTG := xmem 565 (by decide +kernel) (by decide +kernel)
theorem wd_567 : (Jvm.Cond.instanceMethod ({ cls := "KnowledgeRoom$Reader", name := "takeJoin", desc := "(C)Z" } : Jvm.MethodName)) ∈ xTG := xmem 567 (by decide +kernel) (by decide +kernel)
theorem ws_12 : Cond.selects "KnowledgeRoom$Reader" ⟨"KnowledgeRoom$Reader", "takeJoin", "(C)Z"⟩ ⟨"KnowledgeRoom$Reader", "takeJoin", "(C)Z"⟩ ∈ xTG := xmemP 12 (by decide +kernel) (by decide +kernel)
theorem cv_RX6_124 : xCV RX6 124 md_X6_takeJoin 6 1 := ⟨_, _, _, cb_6, rfl, cw_X6_takeJoin, wd_565, wd_567, ws_12⟩
theorem wd_564 : (Jvm.Cond.code ({ cls := "KnowledgeRoom$Reader", name := "leave", desc := "(C)Z" } : Jvm.MethodName) prog_8_method_15_code (2 : Nat) (Option.some Jvm.ClassFile.FieldType.boolean)) ∈ xTG := xmem 564 (by decide +kernel) (by decide +kernel)
theorem cw_X6_leave : xcw md_X6_leave 1 := ⟨wd_564, wd_7, by decide +kernel, by decide⟩
theorem wd_561 : (Jvm.Cond.methodLink "KnowledgeRoom$Reader" (121 : Nat) ({ cls := "KnowledgeRoom$Reader", name := "leave", desc := "(C)Z" } : Jvm.MethodName)) ∈ xTG := xmem 561 (by decide +kernel) (by decide +kernel)
theorem wd_563 : (Jvm.Cond.instanceMethod ({ cls := "KnowledgeRoom$Reader", name := "leave", desc := "(C)Z" } : Jvm.MethodName)) ∈ xTG := xmem 563 (by decide +kernel) (by decide +kernel)
theorem ws_11 : Cond.selects "KnowledgeRoom$Reader" ⟨"KnowledgeRoom$Reader", "leave", "(C)Z"⟩ ⟨"KnowledgeRoom$Reader", "leave", "(C)Z"⟩ ∈ xTG := xmemP 11 (by decide +kernel) (by decide +kernel)
theorem cv_RX6_121 : xCV RX6 121 md_X6_leave 6 1 := ⟨_, _, _, cb_6, rfl, cw_X6_leave, wd_561, wd_563, ws_11⟩
abbrev md_X6_takeBehindOne : xMd := (yX6_takeBehindOne, cX6_takeBehindOne, 3, (some .boolean))
theorem fl_RX6_78 : xFL RX6 78 6 11 := ⟨_, _, _, cb_6, by decide, wd_153⟩
theorem wd_560 : (Jvm.Cond.code ({ cls := "KnowledgeRoom$Reader", name := "takeBehindOne", desc := "(C)Z" } : Jvm.MethodName) prog_8_method_14_code (3 : Nat) (Option.some Jvm.ClassFile.FieldType.boolean)) ∈ xTG := xmem 560 (by decide +kernel) (by decide +kernel)
theorem cw_X6_takeBehindOne : xcw md_X6_takeBehindOne 1 := ⟨wd_560, wd_7, by decide +kernel, by decide⟩
theorem wd_557 : (Jvm.Cond.methodLink "KnowledgeRoom$Reader" (86 : Nat) ({ cls := "KnowledgeRoom$Reader", name := "takeBehindOne", desc := "(C)Z" } : Jvm.MethodName)) ∈ xTG := xmem 557 (by decide +kernel) (by decide +kernel)
theorem wd_559 : (Jvm.Cond.instanceMethod ({ cls := "KnowledgeRoom$Reader", name := "takeBehindOne", desc := "(C)Z" } : Jvm.MethodName)) ∈ xTG := xmem 559 (by decide +kernel) (by decide +kernel)
theorem ws_10 : Cond.selects "KnowledgeRoom$Reader" ⟨"KnowledgeRoom$Reader", "takeBehindOne", "(C)Z"⟩ ⟨"KnowledgeRoom$Reader", "takeBehindOne", "(C)Z"⟩ ∈ xTG := xmemP 10 (by decide +kernel) (by decide +kernel)
theorem cv_RX6_86 : xCV RX6 86 md_X6_takeBehindOne 6 1 := ⟨_, _, _, cb_6, rfl, cw_X6_takeBehindOne, wd_557, wd_559, ws_10⟩
theorem wd_531 : (Jvm.Cond.code ({ cls := "KnowledgeRoom$Reader", name := "takeOne", desc := "(C)Z" } : Jvm.MethodName) prog_8_method_8_code (2 : Nat) (Option.some Jvm.ClassFile.FieldType.boolean)) ∈ xTG := xmem 531 (by decide +kernel) (by decide +kernel)
theorem cw_X6_takeOne : xcw md_X6_takeOne 1 := ⟨wd_531, wd_7, by decide +kernel, by decide⟩
theorem wd_528 : (Jvm.Cond.methodLink "KnowledgeRoom$Reader" (82 : Nat) ({ cls := "KnowledgeRoom$Reader", name := "takeOne", desc := "(C)Z" } : Jvm.MethodName)) ∈ xTG := xmem 528 (by decide +kernel) (by decide +kernel)
theorem wd_530 : (Jvm.Cond.instanceMethod ({ cls := "KnowledgeRoom$Reader", name := "takeOne", desc := "(C)Z" } : Jvm.MethodName)) ∈ xTG := xmem 530 (by decide +kernel) (by decide +kernel)
theorem ws_6 : Cond.selects "KnowledgeRoom$Reader" ⟨"KnowledgeRoom$Reader", "takeOne", "(C)Z"⟩ ⟨"KnowledgeRoom$Reader", "takeOne", "(C)Z"⟩ ∈ xTG := xmemP 6 (by decide +kernel) (by decide +kernel)
theorem cv_RX6_82 : xCV RX6 82 md_X6_takeOne 6 1 := ⟨_, _, _, cb_6, rfl, cw_X6_takeOne, wd_528, wd_530, ws_6⟩
abbrev md_X6_takeAll : xMd := (yX6_takeAll, cX6_takeAll, 4, (some .boolean))
theorem fp_RX6_56 : xFP RX6 56 2 1 .int := ⟨_, _, _, cb_2, by decide, wd_104, rfl, rfl⟩
theorem wd_527 : (Jvm.Cond.code ({ cls := "KnowledgeRoom$Reader", name := "takeAll", desc := "()Z" } : Jvm.MethodName) prog_8_method_7_code (4 : Nat) (Option.some Jvm.ClassFile.FieldType.boolean)) ∈ xTG := xmem 527 (by decide +kernel) (by decide +kernel)
theorem cw_X6_takeAll : xcw md_X6_takeAll 0 := ⟨wd_527, wd_7, by decide +kernel, by decide⟩
theorem wd_524 : (Jvm.Cond.methodLink "KnowledgeRoom$Reader" (67 : Nat) ({ cls := "KnowledgeRoom$Reader", name := "takeAll", desc := "()Z" } : Jvm.MethodName)) ∈ xTG := xmem 524 (by decide +kernel) (by decide +kernel)
theorem wd_526 : (Jvm.Cond.instanceMethod ({ cls := "KnowledgeRoom$Reader", name := "takeAll", desc := "()Z" } : Jvm.MethodName)) ∈ xTG := xmem 526 (by decide +kernel) (by decide +kernel)
theorem ws_5 : Cond.selects "KnowledgeRoom$Reader" ⟨"KnowledgeRoom$Reader", "takeAll", "()Z"⟩ ⟨"KnowledgeRoom$Reader", "takeAll", "()Z"⟩ ∈ xTG := xmemP 5 (by decide +kernel) (by decide +kernel)
theorem cv_RX6_67 : xCV RX6 67 md_X6_takeAll 6 0 := ⟨_, _, _, cb_6, rfl, cw_X6_takeAll, wd_524, wd_526, ws_5⟩
theorem wd_576 : (Jvm.Cond.methodLink "KnowledgeRoom$Reader" (74 : Nat) ({ cls := "KnowledgeRoom$Formula", name := "copy", desc := "(LKnowledgeRoom$Formula;)V" } : Jvm.MethodName)) ∈ xTG := xmem 576 (by decide +kernel) (by decide +kernel)
theorem cv_RX6_74 : xCV RX6 74 md_X2_copy 2 1 := ⟨_, _, _, cb_2, rfl, cw_X2_copy, wd_576, wd_577, wd_578⟩
abbrev md_X6_read : xMd := (yX6_read, cX6_read, 3, (some .int))
theorem wn_949 : (Jvm.Cond.methodLinkNest "KnowledgeRoom$Reducer" (56 : Nat) ({ cls := "KnowledgeRoom", name := "signOf", desc := "(I)I" } : Jvm.MethodName) "KnowledgeRoom") ∈ xNW := xmemN 949 (by decide +kernel) rfl
theorem cn_RX7_56 : xCSN RX7 56 md_X11_signOf 1 := ⟨_, cw_X11_signOf, wn_949, wd_608⟩
theorem wn_960 : (Jvm.Cond.methodLinkNest "KnowledgeRoom$Reducer" (69 : Nat) ({ cls := "KnowledgeRoom", name := "isJoin", desc := "(I)Z" } : Jvm.MethodName) "KnowledgeRoom") ∈ xNW := xmemN 960 (by decide +kernel) rfl
theorem cn_RX7_69 : xCSN RX7 69 md_X11_isJoin 1 := ⟨_, cw_X11_isJoin, wn_960, wd_570⟩
theorem cb_7 : xCB 7 RX7 TX7 (xnf 7) tyX7 := ⟨rfl, fun w h => List.mem_filter.mpr ⟨List.mem_append_right _ ((by decide +kernel : ∀ w ∈ u_ws RX7 TX7 (xnf 7), w ∈ tables_1) w h), (by decide +kernel : ∀ w ∈ u_ws RX7 TX7 (xnf 7), goodWord w = true) w h⟩, tyX7_ok, nmX7, by decide⟩
theorem wd_262 : (Jvm.Cond.fieldLink "KnowledgeRoom$Reducer" (23 : Nat) "KnowledgeRoom$Reducer" "draft" "LKnowledgeRoom$Formula;") ∈ xTG := xmem 262 (by decide +kernel) (by decide +kernel)
theorem fl_RX7_23 : xFL RX7 23 7 2 := ⟨_, _, _, cb_7, by decide, wd_262⟩
theorem wd_955 : (Jvm.Cond.methodLink "KnowledgeRoom$Reducer" (72 : Nat) ({ cls := "KnowledgeRoom$Formula", name := "add", desc := "(I)Z" } : Jvm.MethodName)) ∈ xTG := xmem 955 (by decide +kernel) (by decide +kernel)
theorem cv_RX7_72 : xCV RX7 72 md_X2_add 2 1 := ⟨_, _, _, cb_2, rfl, cw_X2_add, wd_955, wd_360, wd_361⟩
theorem wd_260 : (Jvm.Cond.fieldLink "KnowledgeRoom$Reducer" (9 : Nat) "KnowledgeRoom$Reducer" "row" "[I") ∈ xTG := xmem 260 (by decide +kernel) (by decide +kernel)
theorem fl_RX7_9 : xFL RX7 9 7 0 := ⟨_, _, _, cb_7, by decide, wd_260⟩
theorem wd_263 : (Jvm.Cond.fieldLink "KnowledgeRoom$Reducer" (39 : Nat) "KnowledgeRoom$Reducer" "from" "I") ∈ xTG := xmem 263 (by decide +kernel) (by decide +kernel)
theorem fl_RX7_39 : xFL RX7 39 7 3 := ⟨_, _, _, cb_7, by decide, wd_263⟩
theorem wd_961 : (Jvm.Cond.methodLink "KnowledgeRoom$Reducer" (52 : Nat) ({ cls := "KnowledgeRoom$Formula", name := "addAll", desc := "([III)Z" } : Jvm.MethodName)) ∈ xTG := xmem 961 (by decide +kernel) (by decide +kernel)
theorem cv_RX7_52 : xCV RX7 52 md_X2_addAll 2 3 := ⟨_, _, _, cb_2, rfl, cw_X2_addAll, wd_961, wd_581, wd_582⟩
abbrev md_X7_push : xMd := (yX7_push, cX7_push, 5, (some .boolean))
theorem wd_264 : (Jvm.Cond.fieldLink "KnowledgeRoom$Reducer" (42 : Nat) "KnowledgeRoom$Reducer" "held" "I") ∈ xTG := xmem 264 (by decide +kernel) (by decide +kernel)
theorem fl_RX7_42 : xFL RX7 42 7 4 := ⟨_, _, _, cb_7, by decide, wd_264⟩
theorem wd_261 : (Jvm.Cond.fieldLink "KnowledgeRoom$Reducer" (15 : Nat) "KnowledgeRoom$Reducer" "ends" "[I") ∈ xTG := xmem 261 (by decide +kernel) (by decide +kernel)
theorem fl_RX7_15 : xFL RX7 15 7 1 := ⟨_, _, _, cb_7, by decide, wd_261⟩
theorem fp_RX7_42 : xFP RX7 42 7 4 .int := ⟨_, _, _, cb_7, by decide, wd_264, rfl, rfl⟩
theorem wd_101 : (Jvm.Cond.fieldLink "KnowledgeRoom$Reducer" (35 : Nat) "KnowledgeRoom$Formula" "size" "I") ∈ xTG := xmem 101 (by decide +kernel) (by decide +kernel)
theorem fp_RX7_35 : xFP RX7 35 2 1 .int := ⟨_, _, _, cb_2, by decide, wd_101, rfl, rfl⟩
theorem wd_959 : (Jvm.Cond.code ({ cls := "KnowledgeRoom$Reducer", name := "push", desc := "(II)Z" } : Jvm.MethodName) prog_9_method_5_code (5 : Nat) (Option.some Jvm.ClassFile.FieldType.boolean)) ∈ xTG := xmem 959 (by decide +kernel) (by decide +kernel)
theorem wd_11 : (Jvm.Cond.initialized "KnowledgeRoom$Reducer") ∈ xTG := xmem 11 (by decide +kernel) (by decide +kernel)
theorem cw_X7_push : xcw md_X7_push 2 := ⟨wd_959, wd_11, by decide +kernel, by decide⟩
theorem wd_956 : (Jvm.Cond.methodLink "KnowledgeRoom$Reducer" (75 : Nat) ({ cls := "KnowledgeRoom$Reducer", name := "push", desc := "(II)Z" } : Jvm.MethodName)) ∈ xTG := xmem 956 (by decide +kernel) (by decide +kernel)
theorem wd_958 : (Jvm.Cond.instanceMethod ({ cls := "KnowledgeRoom$Reducer", name := "push", desc := "(II)Z" } : Jvm.MethodName)) ∈ xTG := xmem 958 (by decide +kernel) (by decide +kernel)
theorem ws_39 : Cond.selects "KnowledgeRoom$Reducer" ⟨"KnowledgeRoom$Reducer", "push", "(II)Z"⟩ ⟨"KnowledgeRoom$Reducer", "push", "(II)Z"⟩ ∈ xTG := xmemP 39 (by decide +kernel) (by decide +kernel)
theorem cv_RX7_75 : xCV RX7 75 md_X7_push 7 2 := ⟨_, _, _, cb_7, rfl, cw_X7_push, wd_956, wd_958, ws_39⟩
theorem fl_RX7_35 : xFL RX7 35 2 1 := ⟨_, _, _, cb_2, by decide, wd_101⟩
theorem fp_RX7_39 : xFP RX7 39 7 3 .int := ⟨_, _, _, cb_7, by decide, wd_263, rfl, rfl⟩
theorem wd_97 : (Jvm.Cond.fieldLink "KnowledgeRoom$Reducer" (45 : Nat) "KnowledgeRoom$Formula" "tokens" "[I") ∈ xTG := xmem 97 (by decide +kernel) (by decide +kernel)
theorem fl_RX7_45 : xFL RX7 45 2 0 := ⟨_, _, _, cb_2, by decide, wd_97⟩
theorem wd_962 : (Jvm.Cond.methodLink "KnowledgeRoom$Reducer" (79 : Nat) ({ cls := "java/lang/System", name := "arraycopy", desc := "(Ljava/lang/Object;ILjava/lang/Object;II)V" } : Jvm.MethodName)) ∈ xTG := xmem 962 (by decide +kernel) (by decide +kernel)
theorem cp_RX7_79 : xCPw RX7 79 := ⟨wd_962, wd_586, wd_585, wd_16⟩
abbrev md_X7_unsay : xMd := (yX7_unsay, cX7_unsay, 6, (some .boolean))
theorem wn_950 : (Jvm.Cond.methodLinkNest "KnowledgeRoom$Reducer" (60 : Nat) ({ cls := "KnowledgeRoom", name := "isSaying", desc := "(I)Z" } : Jvm.MethodName) "KnowledgeRoom") ∈ xNW := xmemN 950 (by decide +kernel) rfl
theorem cn_RX7_60 : xCSN RX7 60 md_X11_isSaying 1 := ⟨_, cw_X11_isSaying, wn_950, wd_538⟩
theorem wn_963 : (Jvm.Cond.methodLinkNest "KnowledgeRoom$Reducer" (66 : Nat) ({ cls := "KnowledgeRoom", name := "isLeaf", desc := "(I)Z" } : Jvm.MethodName) "KnowledgeRoom") ∈ xNW := xmemN 963 (by decide +kernel) rfl
theorem cn_RX7_66 : xCSN RX7 66 md_X11_isLeaf 1 := ⟨_, cw_X11_isLeaf, wn_963, wd_555⟩
theorem wd_954 : (Jvm.Cond.code ({ cls := "KnowledgeRoom$Reducer", name := "unsay", desc := "(I)Z" } : Jvm.MethodName) prog_9_method_4_code (6 : Nat) (Option.some Jvm.ClassFile.FieldType.boolean)) ∈ xTG := xmem 954 (by decide +kernel) (by decide +kernel)
theorem cw_X7_unsay : xcw md_X7_unsay 1 := ⟨wd_954, wd_11, by decide +kernel, by decide⟩
theorem wd_951 : (Jvm.Cond.methodLink "KnowledgeRoom$Reducer" (63 : Nat) ({ cls := "KnowledgeRoom$Reducer", name := "unsay", desc := "(I)Z" } : Jvm.MethodName)) ∈ xTG := xmem 951 (by decide +kernel) (by decide +kernel)
theorem wd_953 : (Jvm.Cond.instanceMethod ({ cls := "KnowledgeRoom$Reducer", name := "unsay", desc := "(I)Z" } : Jvm.MethodName)) ∈ xTG := xmem 953 (by decide +kernel) (by decide +kernel)
theorem ws_38 : Cond.selects "KnowledgeRoom$Reducer" ⟨"KnowledgeRoom$Reducer", "unsay", "(I)Z"⟩ ⟨"KnowledgeRoom$Reducer", "unsay", "(I)Z"⟩ ∈ xTG := xmemP 38 (by decide +kernel) (by decide +kernel)
theorem cv_RX7_63 : xCV RX7 63 md_X7_unsay 7 1 := ⟨_, _, _, cb_7, rfl, cw_X7_unsay, wd_951, wd_953, ws_38⟩
abbrev md_X7_place : xMd := (yX7_place, cX7_place, 3, (some .boolean))
theorem wd_857 : (Jvm.Cond.methodLink "KnowledgeRoom$Reducer" (29 : Nat) ({ cls := "KnowledgeRoom$Formula", name := "hasAny", desc := "(Ljava/lang/String;)Z" } : Jvm.MethodName)) ∈ xTG := xmem 857 (by decide +kernel) (by decide +kernel)
theorem cv_RX7_29 : xCV RX7 29 md_X2_hasAny 2 1 := ⟨_, _, _, cb_2, rfl, cw_X2_hasAny, wd_857, wd_858, wd_859⟩
theorem wd_948 : (Jvm.Cond.code ({ cls := "KnowledgeRoom$Reducer", name := "place", desc := "(I)Z" } : Jvm.MethodName) prog_9_method_3_code (3 : Nat) (Option.some Jvm.ClassFile.FieldType.boolean)) ∈ xTG := xmem 948 (by decide +kernel) (by decide +kernel)
theorem cw_X7_place : xcw md_X7_place 1 := ⟨wd_948, wd_11, by decide +kernel, by decide⟩
theorem wd_945 : (Jvm.Cond.methodLink "KnowledgeRoom$Reducer" (48 : Nat) ({ cls := "KnowledgeRoom$Reducer", name := "place", desc := "(I)Z" } : Jvm.MethodName)) ∈ xTG := xmem 945 (by decide +kernel) (by decide +kernel)
theorem wd_947 : (Jvm.Cond.instanceMethod ({ cls := "KnowledgeRoom$Reducer", name := "place", desc := "(I)Z" } : Jvm.MethodName)) ∈ xTG := xmem 947 (by decide +kernel) (by decide +kernel)
theorem ws_37 : Cond.selects "KnowledgeRoom$Reducer" ⟨"KnowledgeRoom$Reducer", "place", "(I)Z"⟩ ⟨"KnowledgeRoom$Reducer", "place", "(I)Z"⟩ ∈ xTG := xmemP 37 (by decide +kernel) (by decide +kernel)
theorem cv_RX7_48 : xCV RX7 48 md_X7_place 7 1 := ⟨_, _, _, cb_7, rfl, cw_X7_place, wd_945, wd_947, ws_37⟩
abbrev md_X7_apply : xMd := (yX7_apply, cX7_apply, 3, (some .int))
theorem cb_9 : xCB 9 RX9 TX9 (xnf 9) tyX9 := ⟨rfl, fun w h => List.mem_filter.mpr ⟨List.mem_append_right _ ((by decide +kernel : ∀ w ∈ u_ws RX9 TX9 (xnf 9), w ∈ tables_1) w h), (by decide +kernel : ∀ w ∈ u_ws RX9 TX9 (xnf 9), goodWord w = true) w h⟩, tyX9_ok, nmX9, by decide⟩
theorem wd_194 : (Jvm.Cond.fieldLink "KnowledgeRoom$Text" (19 : Nat) "KnowledgeRoom$Text" "size" "I") ∈ xTG := xmem 194 (by decide +kernel) (by decide +kernel)
theorem fl_RX9_19 : xFL RX9 19 9 1 := ⟨_, _, _, cb_9, by decide, wd_194⟩
theorem wd_192 : (Jvm.Cond.fieldLink "KnowledgeRoom$Text" (11 : Nat) "KnowledgeRoom$Text" "signs" "[C") ∈ xTG := xmem 192 (by decide +kernel) (by decide +kernel)
theorem fl_RX9_11 : xFL RX9 11 9 0 := ⟨_, _, _, cb_9, by decide, wd_192⟩
theorem fp_RX9_19 : xFP RX9 19 9 1 .int := ⟨_, _, _, cb_9, by decide, wd_194, rfl, rfl⟩
abbrev md_X9_put : xMd := (yX9_put, cX9_put, 2, none)
theorem wd_197 : (Jvm.Cond.fieldLink "KnowledgeRoom$Text" (23 : Nat) "KnowledgeRoom$Text" "depth" "I") ∈ xTG := xmem 197 (by decide +kernel) (by decide +kernel)
theorem fl_RX9_23 : xFL RX9 23 9 3 := ⟨_, _, _, cb_9, by decide, wd_197⟩
theorem fp_RX9_23 : xFP RX9 23 9 3 .int := ⟨_, _, _, cb_9, by decide, wd_197, rfl, rfl⟩
theorem wd_196 : (Jvm.Cond.fieldLink "KnowledgeRoom$Text" (15 : Nat) "KnowledgeRoom$Text" "open" "[I") ∈ xTG := xmem 196 (by decide +kernel) (by decide +kernel)
theorem fl_RX9_15 : xFL RX9 15 9 2 := ⟨_, _, _, cb_9, by decide, wd_196⟩
theorem wn_666 : (Jvm.Cond.methodLinkNest "KnowledgeRoom$Text" (32 : Nat) ({ cls := "KnowledgeRoom", name := "signOf", desc := "(I)I" } : Jvm.MethodName) "KnowledgeRoom") ∈ xNW := xmemN 666 (by decide +kernel) rfl
theorem cn_RX9_32 : xCSN RX9 32 md_X11_signOf 1 := ⟨_, cw_X11_signOf, wn_666, wd_608⟩
theorem wn_676 : (Jvm.Cond.methodLinkNest "KnowledgeRoom$Text" (65 : Nat) ({ cls := "KnowledgeRoom", name := "hasTwoParts", desc := "(I)Z" } : Jvm.MethodName) "KnowledgeRoom") ∈ xNW := xmemN 676 (by decide +kernel) rfl
theorem cn_RX9_65 : xCSN RX9 65 md_X11_hasTwoParts 1 := ⟨_, cw_X11_hasTwoParts, wn_676, wd_620⟩
theorem wd_677 : (Jvm.Cond.constant "KnowledgeRoom$Text" (64 : Nat) (65536 : Int32)) ∈ xTG := xmem 677 (by decide +kernel) (by decide +kernel)
theorem wd_671 : (Jvm.Cond.code ({ cls := "KnowledgeRoom$Text", name := "put", desc := "(I)V" } : Jvm.MethodName) prog_11_method_7_code (2 : Nat) (Option.none : Option Jvm.ClassFile.FieldType)) ∈ xTG := xmem 671 (by decide +kernel) (by decide +kernel)
theorem wd_8 : (Jvm.Cond.initialized "KnowledgeRoom$Text") ∈ xTG := xmem 8 (by decide +kernel) (by decide +kernel)
theorem cw_X9_put : xcw md_X9_put 1 := ⟨wd_671, wd_8, by decide +kernel, by decide⟩
theorem wd_668 : (Jvm.Cond.methodLink "KnowledgeRoom$Text" (40 : Nat) ({ cls := "KnowledgeRoom$Text", name := "put", desc := "(I)V" } : Jvm.MethodName)) ∈ xTG := xmem 668 (by decide +kernel) (by decide +kernel)
theorem wd_670 : (Jvm.Cond.instanceMethod ({ cls := "KnowledgeRoom$Text", name := "put", desc := "(I)V" } : Jvm.MethodName)) ∈ xTG := xmem 670 (by decide +kernel) (by decide +kernel)
theorem ws_22 : Cond.selects "KnowledgeRoom$Text" ⟨"KnowledgeRoom$Text", "put", "(I)V"⟩ ⟨"KnowledgeRoom$Text", "put", "(I)V"⟩ ∈ xTG := xmemP 22 (by decide +kernel) (by decide +kernel)
theorem cv_RX9_40 : xCV RX9 40 md_X9_put 9 1 := ⟨_, _, _, cb_9, rfl, cw_X9_put, wd_668, wd_670, ws_22⟩
theorem wd_678 : (Jvm.Cond.constant "KnowledgeRoom$Text" (60 : Nat) (131072 : Int32)) ∈ xTG := xmem 678 (by decide +kernel) (by decide +kernel)
abbrev md_X9_finish : xMd := (yX9_finish, cX9_finish, 4, none)
theorem wn_688 : (Jvm.Cond.methodLinkNest "KnowledgeRoom$Text" (68 : Nat) ({ cls := "KnowledgeRoom", name := "hasAgent", desc := "(II)Z" } : Jvm.MethodName) "KnowledgeRoom") ∈ xNW := xmemN 688 (by decide +kernel) rfl
theorem cn_RX9_68 : xCSN RX9 68 md_X11_hasAgent 2 := ⟨_, cw_X11_hasAgent, wn_688, wd_639⟩
abbrev md_X9_putAgents : xMd := (yX9_putAgents, cX9_putAgents, 3, none)
theorem wn_693 : (Jvm.Cond.methodLinkNest "KnowledgeRoom$Text" (61 : Nat) ({ cls := "KnowledgeRoom", name := "isSaying", desc := "(I)Z" } : Jvm.MethodName) "KnowledgeRoom") ∈ xNW := xmemN 693 (by decide +kernel) rfl
theorem cn_RX9_61 : xCSN RX9 61 md_X11_isSaying 1 := ⟨_, cw_X11_isSaying, wn_693, wd_538⟩
abbrev md_X9_isWhole : xMd := (yX9_isWhole, cX9_isWhole, 2, (some .boolean))
theorem wn_683 : (Jvm.Cond.methodLinkNest "KnowledgeRoom$Text" (50 : Nat) ({ cls := "KnowledgeRoom", name := "isJoin", desc := "(I)Z" } : Jvm.MethodName) "KnowledgeRoom") ∈ xNW := xmemN 683 (by decide +kernel) rfl
theorem cn_RX9_50 : xCSN RX9 50 md_X11_isJoin 1 := ⟨_, cw_X11_isJoin, wn_683, wd_570⟩
theorem wd_692 : (Jvm.Cond.code ({ cls := "KnowledgeRoom$Text", name := "isWhole", desc := "()Z" } : Jvm.MethodName) prog_11_method_4_code (2 : Nat) (Option.some Jvm.ClassFile.FieldType.boolean)) ∈ xTG := xmem 692 (by decide +kernel) (by decide +kernel)
theorem cw_X9_isWhole : xcw md_X9_isWhole 0 := ⟨wd_692, wd_8, by decide +kernel, by decide⟩
theorem wd_689 : (Jvm.Cond.methodLink "KnowledgeRoom$Text" (56 : Nat) ({ cls := "KnowledgeRoom$Text", name := "isWhole", desc := "()Z" } : Jvm.MethodName)) ∈ xTG := xmem 689 (by decide +kernel) (by decide +kernel)
theorem wd_691 : (Jvm.Cond.instanceMethod ({ cls := "KnowledgeRoom$Text", name := "isWhole", desc := "()Z" } : Jvm.MethodName)) ∈ xTG := xmem 691 (by decide +kernel) (by decide +kernel)
theorem ws_26 : Cond.selects "KnowledgeRoom$Text" ⟨"KnowledgeRoom$Text", "isWhole", "()Z"⟩ ⟨"KnowledgeRoom$Text", "isWhole", "()Z"⟩ ∈ xTG := xmemP 26 (by decide +kernel) (by decide +kernel)
theorem cv_RX9_56 : xCV RX9 56 md_X9_isWhole 9 0 := ⟨_, _, _, cb_9, rfl, cw_X9_isWhole, wd_689, wd_691, ws_26⟩
theorem wd_687 : (Jvm.Cond.code ({ cls := "KnowledgeRoom$Text", name := "putAgents", desc := "(I)V" } : Jvm.MethodName) prog_11_method_6_code (3 : Nat) (Option.none : Option Jvm.ClassFile.FieldType)) ∈ xTG := xmem 687 (by decide +kernel) (by decide +kernel)
theorem cw_X9_putAgents : xcw md_X9_putAgents 1 := ⟨wd_687, wd_8, by decide +kernel, by decide⟩
theorem wd_684 : (Jvm.Cond.methodLink "KnowledgeRoom$Text" (53 : Nat) ({ cls := "KnowledgeRoom$Text", name := "putAgents", desc := "(I)V" } : Jvm.MethodName)) ∈ xTG := xmem 684 (by decide +kernel) (by decide +kernel)
theorem wd_686 : (Jvm.Cond.instanceMethod ({ cls := "KnowledgeRoom$Text", name := "putAgents", desc := "(I)V" } : Jvm.MethodName)) ∈ xTG := xmem 686 (by decide +kernel) (by decide +kernel)
theorem ws_25 : Cond.selects "KnowledgeRoom$Text" ⟨"KnowledgeRoom$Text", "putAgents", "(I)V"⟩ ⟨"KnowledgeRoom$Text", "putAgents", "(I)V"⟩ ∈ xTG := xmemP 25 (by decide +kernel) (by decide +kernel)
theorem cv_RX9_53 : xCV RX9 53 md_X9_putAgents 9 1 := ⟨_, _, _, cb_9, rfl, cw_X9_putAgents, wd_684, wd_686, ws_25⟩
abbrev md_X9_start : xMd := (yX9_start, cX9_start, 4, none)
theorem wd_99 : (Jvm.Cond.fieldLink "KnowledgeRoom$Text" (26 : Nat) "KnowledgeRoom$Formula" "size" "I") ∈ xTG := xmem 99 (by decide +kernel) (by decide +kernel)
theorem fl_RX9_26 : xFL RX9 26 2 1 := ⟨_, _, _, cb_2, by decide, wd_99⟩
theorem wd_94 : (Jvm.Cond.fieldLink "KnowledgeRoom$Text" (29 : Nat) "KnowledgeRoom$Formula" "tokens" "[I") ∈ xTG := xmem 94 (by decide +kernel) (by decide +kernel)
theorem fl_RX9_29 : xFL RX9 29 2 0 := ⟨_, _, _, cb_2, by decide, wd_94⟩
theorem wn_667 : (Jvm.Cond.methodLinkNest "KnowledgeRoom$Text" (36 : Nat) ({ cls := "KnowledgeRoom", name := "isLeaf", desc := "(I)Z" } : Jvm.MethodName) "KnowledgeRoom") ∈ xNW := xmemN 667 (by decide +kernel) rfl
theorem cn_RX9_36 : xCSN RX9 36 md_X11_isLeaf 1 := ⟨_, cw_X11_isLeaf, wn_667, wd_555⟩
theorem wd_682 : (Jvm.Cond.code ({ cls := "KnowledgeRoom$Text", name := "start", desc := "(I)V" } : Jvm.MethodName) prog_11_method_3_code (4 : Nat) (Option.none : Option Jvm.ClassFile.FieldType)) ∈ xTG := xmem 682 (by decide +kernel) (by decide +kernel)
theorem cw_X9_start : xcw md_X9_start 1 := ⟨wd_682, wd_8, by decide +kernel, by decide⟩
theorem wd_679 : (Jvm.Cond.methodLink "KnowledgeRoom$Text" (47 : Nat) ({ cls := "KnowledgeRoom$Text", name := "start", desc := "(I)V" } : Jvm.MethodName)) ∈ xTG := xmem 679 (by decide +kernel) (by decide +kernel)
theorem wd_681 : (Jvm.Cond.instanceMethod ({ cls := "KnowledgeRoom$Text", name := "start", desc := "(I)V" } : Jvm.MethodName)) ∈ xTG := xmem 681 (by decide +kernel) (by decide +kernel)
theorem ws_24 : Cond.selects "KnowledgeRoom$Text" ⟨"KnowledgeRoom$Text", "start", "(I)V"⟩ ⟨"KnowledgeRoom$Text", "start", "(I)V"⟩ ∈ xTG := xmemP 24 (by decide +kernel) (by decide +kernel)
theorem cv_RX9_47 : xCV RX9 47 md_X9_start 9 1 := ⟨_, _, _, cb_9, rfl, cw_X9_start, wd_679, wd_681, ws_24⟩
theorem wd_675 : (Jvm.Cond.code ({ cls := "KnowledgeRoom$Text", name := "finish", desc := "()V" } : Jvm.MethodName) prog_11_method_5_code (4 : Nat) (Option.none : Option Jvm.ClassFile.FieldType)) ∈ xTG := xmem 675 (by decide +kernel) (by decide +kernel)
theorem cw_X9_finish : xcw md_X9_finish 0 := ⟨wd_675, wd_8, by decide +kernel, by decide⟩
theorem wd_672 : (Jvm.Cond.methodLink "KnowledgeRoom$Text" (44 : Nat) ({ cls := "KnowledgeRoom$Text", name := "finish", desc := "()V" } : Jvm.MethodName)) ∈ xTG := xmem 672 (by decide +kernel) (by decide +kernel)
theorem wd_674 : (Jvm.Cond.instanceMethod ({ cls := "KnowledgeRoom$Text", name := "finish", desc := "()V" } : Jvm.MethodName)) ∈ xTG := xmem 674 (by decide +kernel) (by decide +kernel)
theorem ws_23 : Cond.selects "KnowledgeRoom$Text" ⟨"KnowledgeRoom$Text", "finish", "()V"⟩ ⟨"KnowledgeRoom$Text", "finish", "()V"⟩ ∈ xTG := xmemP 23 (by decide +kernel) (by decide +kernel)
theorem cv_RX9_44 : xCV RX9 44 md_X9_finish 9 0 := ⟨_, _, _, cb_9, rfl, cw_X9_finish, wd_672, wd_674, ws_23⟩
abbrev md_X9_write : xMd := (yX9_write, cX9_write, 4, (some .int))
abbrev md_X10_has : xMd := (yX10_has, cX10_has, 2, (some .boolean))
theorem wd_421 : (Jvm.Cond.methodLink "KnowledgeRoom$Worlds" (24 : Nat) ({ cls := "KnowledgeRoom$Worlds", name := "setAtom", desc := "(IIZ)V" } : Jvm.MethodName)) ∈ xTG := xmem 421 (by decide +kernel) (by decide +kernel)
theorem cv_RX10_24 : xCV RX10 24 md_X10_setAtom 10 3 := ⟨_, _, _, cb_10, rfl, cw_X10_setAtom, wd_421, wd_422, wd_423⟩
abbrev md_X10_add : xMd := (yX10_add, cX10_add, 4, (some .int))
abbrev md_X10_setCells : xMd := (yX10_setCells, cX10_setCells, 7, none)
theorem wd_441 : (Jvm.Cond.methodLink "KnowledgeRoom$Worlds" (28 : Nat) ({ cls := "KnowledgeRoom$Worlds", name := "cell", desc := "(II)J" } : Jvm.MethodName)) ∈ xTG := xmem 441 (by decide +kernel) (by decide +kernel)
theorem cv_RX10_28 : xCV RX10 28 md_X10_cell 10 2 := ⟨_, _, _, cb_10, rfl, cw_X10_cell, wd_441, wd_442, wd_443⟩
theorem wd_448 : (Jvm.Cond.code ({ cls := "KnowledgeRoom$Worlds", name := "setCells", desc := "(IJJ)V" } : Jvm.MethodName) prog_12_method_10_code (7 : Nat) (Option.none : Option Jvm.ClassFile.FieldType)) ∈ xTG := xmem 448 (by decide +kernel) (by decide +kernel)
theorem cw_X10_setCells : xcw md_X10_setCells 3 := ⟨wd_448, wd_2, by decide +kernel, by decide⟩
theorem wd_445 : (Jvm.Cond.methodLink "KnowledgeRoom$Worlds" (32 : Nat) ({ cls := "KnowledgeRoom$Worlds", name := "setCells", desc := "(IJJ)V" } : Jvm.MethodName)) ∈ xTG := xmem 445 (by decide +kernel) (by decide +kernel)
theorem wd_447 : (Jvm.Cond.instanceMethod ({ cls := "KnowledgeRoom$Worlds", name := "setCells", desc := "(IJJ)V" } : Jvm.MethodName)) ∈ xTG := xmem 447 (by decide +kernel) (by decide +kernel)
theorem ws_1 : Cond.selects "KnowledgeRoom$Worlds" ⟨"KnowledgeRoom$Worlds", "setCells", "(IJJ)V"⟩ ⟨"KnowledgeRoom$Worlds", "setCells", "(IJJ)V"⟩ ∈ xTG := xmemP 1 (by decide +kernel) (by decide +kernel)
theorem cv_RX10_32 : xCV RX10 32 md_X10_setCells 10 3 := ⟨_, _, _, cb_10, rfl, cw_X10_setCells, wd_445, wd_447, ws_1⟩
theorem wd_449 : (Jvm.Cond.methodLink "KnowledgeRoom$Worlds" (36 : Nat) ({ cls := "java/lang/Long", name := "bitCount", desc := "(J)I" } : Jvm.MethodName)) ∈ xTG := xmem 449 (by decide +kernel) (by decide +kernel)
theorem cs_RX10_36 : xCS RX10 36 md_J13_bitCount_95d88 1 := ⟨cw_J13_bitCount_95d88, wd_449, wd_450⟩
abbrev md_X10_merge : xMd := (yX10_merge, cX10_merge, 6, (some .int))
abbrev md_X10_part : xMd := (yX10_part, cX10_part, 5, (some .int))
abbrev md_X10_drawn : xMd := (yX10_drawn, cX10_drawn, 7, (some .long))
theorem wd_726 : (Jvm.Cond.methodLink "KnowledgeRoom$Worlds" (48 : Nat) ({ cls := "java/lang/Math", name := "min", desc := "(II)I" } : Jvm.MethodName)) ∈ xTG := xmem 726 (by decide +kernel) (by decide +kernel)
theorem mm_RX10_48 : xMNw RX10 48 := ⟨wd_726, wd_720, wd_6, wd_721⟩
theorem wd_730 : (Jvm.Cond.code ({ cls := "KnowledgeRoom$Worlds", name := "drawn", desc := "(J[I)J" } : Jvm.MethodName) prog_12_method_14_code (7 : Nat) (Option.some Jvm.ClassFile.FieldType.long)) ∈ xTG := xmem 730 (by decide +kernel) (by decide +kernel)
theorem cw_X10_drawn : xcw md_X10_drawn 2 := ⟨wd_730, wd_2, by decide +kernel, by decide⟩
theorem wd_727 : (Jvm.Cond.methodLink "KnowledgeRoom$Worlds" (54 : Nat) ({ cls := "KnowledgeRoom$Worlds", name := "drawn", desc := "(J[I)J" } : Jvm.MethodName)) ∈ xTG := xmem 727 (by decide +kernel) (by decide +kernel)
theorem wd_729 : (Jvm.Cond.instanceMethod ({ cls := "KnowledgeRoom$Worlds", name := "drawn", desc := "(J[I)J" } : Jvm.MethodName)) ∈ xTG := xmem 729 (by decide +kernel) (by decide +kernel)
theorem ws_29 : Cond.selects "KnowledgeRoom$Worlds" ⟨"KnowledgeRoom$Worlds", "drawn", "(J[I)J"⟩ ⟨"KnowledgeRoom$Worlds", "drawn", "(J[I)J"⟩ ∈ xTG := xmemP 29 (by decide +kernel) (by decide +kernel)
theorem cv_RX10_54 : xCV RX10 54 md_X10_drawn 10 2 := ⟨_, _, _, cb_10, rfl, cw_X10_drawn, wd_727, wd_729, ws_29⟩
abbrev md_X10_take : xMd := (yX10_take, cX10_take, 8, none)
theorem cb_11 : xCB 11 RX11 TX11 (xnf 11) tyX11 := ⟨rfl, fun w h => List.mem_filter.mpr ⟨List.mem_append_right _ ((by decide +kernel : ∀ w ∈ u_ws RX11 TX11 (xnf 11), w ∈ tables_1) w h), (by decide +kernel : ∀ w ∈ u_ws RX11 TX11 (xnf 11), goodWord w = true) w h⟩, tyX11_ok, nmX11, by decide⟩
theorem wd_364 : (Jvm.Cond.fieldLink "KnowledgeRoom" (19 : Nat) "KnowledgeRoom" "past" "LKnowledgeRoom$Past;") ∈ xTG := xmem 364 (by decide +kernel) (by decide +kernel)
theorem fl_RX11_19 : xFL RX11 19 11 1 := ⟨_, _, _, cb_11, by decide, wd_364⟩
theorem wd_69 : (Jvm.Cond.fieldLink "KnowledgeRoom" (207 : Nat) "KnowledgeRoom$Past" "size" "I") ∈ xTG := xmem 69 (by decide +kernel) (by decide +kernel)
theorem fp_RX11_207 : xFP RX11 207 5 2 .int := ⟨_, _, _, cb_5, by decide, wd_69, rfl, rfl⟩
theorem wd_376 : (Jvm.Cond.fieldLink "KnowledgeRoom" (211 : Nat) "KnowledgeRoom" "judged" "Z") ∈ xTG := xmem 376 (by decide +kernel) (by decide +kernel)
theorem fp_RX11_211 : xFP RX11 211 11 13 .boolean := ⟨_, _, _, cb_11, by decide, wd_376, rfl, rfl⟩
abbrev md_X11_worldsEdited : xMd := (yX11_worldsEdited, cX11_worldsEdited, 1, none)
theorem wd_363 : (Jvm.Cond.fieldLink "KnowledgeRoom" (10 : Nat) "KnowledgeRoom" "now" "LKnowledgeRoom$Worlds;") ∈ xTG := xmem 363 (by decide +kernel) (by decide +kernel)
theorem fl_RX11_10 : xFL RX11 10 11 0 := ⟨_, _, _, cb_11, by decide, wd_363⟩
theorem wd_39 : (Jvm.Cond.fieldLink "KnowledgeRoom" (92 : Nat) "KnowledgeRoom$Worlds" "size" "I") ∈ xTG := xmem 39 (by decide +kernel) (by decide +kernel)
theorem fl_RX11_92 : xFL RX11 92 10 0 := ⟨_, _, _, cb_10, by decide, wd_39⟩
theorem wd_416 : (Jvm.Cond.code ({ cls := "KnowledgeRoom", name := "worldsEdited", desc := "()V" } : Jvm.MethodName) prog_1_method_26_code (1 : Nat) (Option.none : Option Jvm.ClassFile.FieldType)) ∈ xTG := xmem 416 (by decide +kernel) (by decide +kernel)
theorem cw_X11_worldsEdited : xcw md_X11_worldsEdited 0 := ⟨wd_416, wd_1, by decide +kernel, by decide⟩
theorem wd_413 : (Jvm.Cond.methodLink "KnowledgeRoom" (96 : Nat) ({ cls := "KnowledgeRoom", name := "worldsEdited", desc := "()V" } : Jvm.MethodName)) ∈ xTG := xmem 413 (by decide +kernel) (by decide +kernel)
theorem wd_415 : (Jvm.Cond.instanceMethod ({ cls := "KnowledgeRoom", name := "worldsEdited", desc := "()V" } : Jvm.MethodName)) ∈ xTG := xmem 415 (by decide +kernel) (by decide +kernel)
theorem ws_0 : Cond.selects "KnowledgeRoom" ⟨"KnowledgeRoom", "worldsEdited", "()V"⟩ ⟨"KnowledgeRoom", "worldsEdited", "()V"⟩ ∈ xTG := xmemP 0 (by decide +kernel) (by decide +kernel)
theorem cv_RX11_96 : xCV RX11 96 md_X11_worldsEdited 11 0 := ⟨_, _, _, cb_11, rfl, cw_X11_worldsEdited, wd_413, wd_415, ws_0⟩
theorem wd_420 : (Jvm.Cond.code ({ cls := "KnowledgeRoom$Worlds", name := "add", desc := "(I)I" } : Jvm.MethodName) prog_12_method_5_code (4 : Nat) (Option.some Jvm.ClassFile.FieldType.int)) ∈ xTG := xmem 420 (by decide +kernel) (by decide +kernel)
theorem cw_X10_add : xcw md_X10_add 1 := ⟨wd_420, wd_2, by decide +kernel, by decide⟩
theorem wd_417 : (Jvm.Cond.methodLink "KnowledgeRoom" (99 : Nat) ({ cls := "KnowledgeRoom$Worlds", name := "add", desc := "(I)I" } : Jvm.MethodName)) ∈ xTG := xmem 417 (by decide +kernel) (by decide +kernel)
theorem wd_418 : (Jvm.Cond.instanceMethod ({ cls := "KnowledgeRoom$Worlds", name := "add", desc := "(I)I" } : Jvm.MethodName)) ∈ xTG := xmem 418 (by decide +kernel) (by decide +kernel)
theorem wd_419 : (Jvm.Cond.selects "KnowledgeRoom$Worlds" ({ cls := "KnowledgeRoom$Worlds", name := "add", desc := "(I)I" } : Jvm.MethodName) ({ cls := "KnowledgeRoom$Worlds", name := "add", desc := "(I)I" } : Jvm.MethodName)) ∈ xTG := xmem 419 (by decide +kernel) (by decide +kernel)
theorem cv_RX11_99 : xCV RX11 99 md_X10_add 10 1 := ⟨_, _, _, cb_10, rfl, cw_X10_add, wd_417, wd_418, wd_419⟩
abbrev md_X11_world : xMd := (yX11_world, cX11_world, 2, (some .int))
abbrev md_X11_isAgent : xMd := (yX11_isAgent, cX11_isAgent, 1, (some .boolean))
theorem wd_432 : (Jvm.Cond.code ({ cls := "KnowledgeRoom", name := "isAgent", desc := "(I)Z" } : Jvm.MethodName) prog_1_method_31_code (1 : Nat) (Option.some Jvm.ClassFile.FieldType.boolean)) ∈ xTG := xmem 432 (by decide +kernel) (by decide +kernel)
theorem cw_X11_isAgent : xcw md_X11_isAgent 1 := ⟨wd_432, wd_1, by decide +kernel, by decide⟩
theorem wd_430 : (Jvm.Cond.methodLink "KnowledgeRoom" (102 : Nat) ({ cls := "KnowledgeRoom", name := "isAgent", desc := "(I)Z" } : Jvm.MethodName)) ∈ xTG := xmem 430 (by decide +kernel) (by decide +kernel)
theorem wd_431 : (Jvm.Cond.static ({ cls := "KnowledgeRoom", name := "isAgent", desc := "(I)Z" } : Jvm.MethodName)) ∈ xTG := xmem 431 (by decide +kernel) (by decide +kernel)
theorem cs_RX11_102 : xCS RX11 102 md_X11_isAgent 1 := ⟨cw_X11_isAgent, wd_430, wd_431⟩
theorem wd_436 : (Jvm.Cond.code ({ cls := "KnowledgeRoom$Worlds", name := "has", desc := "(I)Z" } : Jvm.MethodName) prog_12_method_2_code (2 : Nat) (Option.some Jvm.ClassFile.FieldType.boolean)) ∈ xTG := xmem 436 (by decide +kernel) (by decide +kernel)
theorem cw_X10_has : xcw md_X10_has 1 := ⟨wd_436, wd_2, by decide +kernel, by decide⟩
theorem wd_433 : (Jvm.Cond.methodLink "KnowledgeRoom" (105 : Nat) ({ cls := "KnowledgeRoom$Worlds", name := "has", desc := "(I)Z" } : Jvm.MethodName)) ∈ xTG := xmem 433 (by decide +kernel) (by decide +kernel)
theorem wd_434 : (Jvm.Cond.instanceMethod ({ cls := "KnowledgeRoom$Worlds", name := "has", desc := "(I)Z" } : Jvm.MethodName)) ∈ xTG := xmem 434 (by decide +kernel) (by decide +kernel)
theorem wd_435 : (Jvm.Cond.selects "KnowledgeRoom$Worlds" ({ cls := "KnowledgeRoom$Worlds", name := "has", desc := "(I)Z" } : Jvm.MethodName) ({ cls := "KnowledgeRoom$Worlds", name := "has", desc := "(I)Z" } : Jvm.MethodName)) ∈ xTG := xmem 435 (by decide +kernel) (by decide +kernel)
theorem cv_RX11_105 : xCV RX11 105 md_X10_has 10 1 := ⟨_, _, _, cb_10, rfl, cw_X10_has, wd_433, wd_434, wd_435⟩
theorem wd_440 : (Jvm.Cond.code ({ cls := "KnowledgeRoom$Worlds", name := "merge", desc := "(III)I" } : Jvm.MethodName) prog_12_method_8_code (6 : Nat) (Option.some Jvm.ClassFile.FieldType.int)) ∈ xTG := xmem 440 (by decide +kernel) (by decide +kernel)
theorem cw_X10_merge : xcw md_X10_merge 3 := ⟨wd_440, wd_2, by decide +kernel, by decide⟩
theorem wd_437 : (Jvm.Cond.methodLink "KnowledgeRoom" (108 : Nat) ({ cls := "KnowledgeRoom$Worlds", name := "merge", desc := "(III)I" } : Jvm.MethodName)) ∈ xTG := xmem 437 (by decide +kernel) (by decide +kernel)
theorem wd_438 : (Jvm.Cond.instanceMethod ({ cls := "KnowledgeRoom$Worlds", name := "merge", desc := "(III)I" } : Jvm.MethodName)) ∈ xTG := xmem 438 (by decide +kernel) (by decide +kernel)
theorem wd_439 : (Jvm.Cond.selects "KnowledgeRoom$Worlds" ({ cls := "KnowledgeRoom$Worlds", name := "merge", desc := "(III)I" } : Jvm.MethodName) ({ cls := "KnowledgeRoom$Worlds", name := "merge", desc := "(III)I" } : Jvm.MethodName)) ∈ xTG := xmem 439 (by decide +kernel) (by decide +kernel)
theorem cv_RX11_108 : xCV RX11 108 md_X10_merge 10 3 := ⟨_, _, _, cb_10, rfl, cw_X10_merge, wd_437, wd_438, wd_439⟩
abbrev md_X11_tie : xMd := (yX11_tie, cX11_tie, 4, (some .int))
theorem wd_462 : (Jvm.Cond.code ({ cls := "KnowledgeRoom$Worlds", name := "part", desc := "(II)I" } : Jvm.MethodName) prog_12_method_9_code (5 : Nat) (Option.some Jvm.ClassFile.FieldType.int)) ∈ xTG := xmem 462 (by decide +kernel) (by decide +kernel)
theorem cw_X10_part : xcw md_X10_part 2 := ⟨wd_462, wd_2, by decide +kernel, by decide⟩
theorem wd_459 : (Jvm.Cond.methodLink "KnowledgeRoom" (112 : Nat) ({ cls := "KnowledgeRoom$Worlds", name := "part", desc := "(II)I" } : Jvm.MethodName)) ∈ xTG := xmem 459 (by decide +kernel) (by decide +kernel)
theorem wd_460 : (Jvm.Cond.instanceMethod ({ cls := "KnowledgeRoom$Worlds", name := "part", desc := "(II)I" } : Jvm.MethodName)) ∈ xTG := xmem 460 (by decide +kernel) (by decide +kernel)
theorem wd_461 : (Jvm.Cond.selects "KnowledgeRoom$Worlds" ({ cls := "KnowledgeRoom$Worlds", name := "part", desc := "(II)I" } : Jvm.MethodName) ({ cls := "KnowledgeRoom$Worlds", name := "part", desc := "(II)I" } : Jvm.MethodName)) ∈ xTG := xmem 461 (by decide +kernel) (by decide +kernel)
theorem cv_RX11_112 : xCV RX11 112 md_X10_part 10 2 := ⟨_, _, _, cb_10, rfl, cw_X10_part, wd_459, wd_460, wd_461⟩
abbrev md_X11_alone : xMd := (yX11_alone, cX11_alone, 3, (some .int))
abbrev md_X11_isAtom : xMd := (yX11_isAtom, cX11_isAtom, 1, (some .boolean))
theorem wd_469 : (Jvm.Cond.code ({ cls := "KnowledgeRoom", name := "isAtom", desc := "(I)Z" } : Jvm.MethodName) prog_1_method_32_code (1 : Nat) (Option.some Jvm.ClassFile.FieldType.boolean)) ∈ xTG := xmem 469 (by decide +kernel) (by decide +kernel)
theorem cw_X11_isAtom : xcw md_X11_isAtom 1 := ⟨wd_469, wd_1, by decide +kernel, by decide⟩
theorem wd_467 : (Jvm.Cond.methodLink "KnowledgeRoom" (116 : Nat) ({ cls := "KnowledgeRoom", name := "isAtom", desc := "(I)Z" } : Jvm.MethodName)) ∈ xTG := xmem 467 (by decide +kernel) (by decide +kernel)
theorem wd_468 : (Jvm.Cond.static ({ cls := "KnowledgeRoom", name := "isAtom", desc := "(I)Z" } : Jvm.MethodName)) ∈ xTG := xmem 468 (by decide +kernel) (by decide +kernel)
theorem cs_RX11_116 : xCS RX11 116 md_X11_isAtom 1 := ⟨cw_X11_isAtom, wd_467, wd_468⟩
theorem wd_45 : (Jvm.Cond.fieldLink "KnowledgeRoom" (119 : Nat) "KnowledgeRoom$Worlds" "atoms" "[J") ∈ xTG := xmem 45 (by decide +kernel) (by decide +kernel)
theorem fl_RX11_119 : xFL RX11 119 10 1 := ⟨_, _, _, cb_10, by decide, wd_45⟩
theorem wd_470 : (Jvm.Cond.methodLink "KnowledgeRoom" (123 : Nat) ({ cls := "KnowledgeRoom$Worlds", name := "setAtom", desc := "(IIZ)V" } : Jvm.MethodName)) ∈ xTG := xmem 470 (by decide +kernel) (by decide +kernel)
theorem cv_RX11_123 : xCV RX11 123 md_X10_setAtom 10 3 := ⟨_, _, _, cb_10, rfl, cw_X10_setAtom, wd_470, wd_422, wd_423⟩
abbrev md_X11_atom : xMd := (yX11_atom, cX11_atom, 5, (some .int))
theorem wd_479 : (Jvm.Cond.methodLink "KnowledgeRoom" (130 : Nat) ({ cls := "KnowledgeRoom$Worlds", name := "cell", desc := "(II)J" } : Jvm.MethodName)) ∈ xTG := xmem 479 (by decide +kernel) (by decide +kernel)
theorem cv_RX11_130 : xCV RX11 130 md_X10_cell 10 2 := ⟨_, _, _, cb_10, rfl, cw_X10_cell, wd_479, wd_442, wd_443⟩
theorem wd_480 : (Jvm.Cond.methodLink "KnowledgeRoom" (134 : Nat) ({ cls := "KnowledgeRoom", name := "lowest", desc := "(J)I" } : Jvm.MethodName)) ∈ xTG := xmem 480 (by decide +kernel) (by decide +kernel)
theorem cs_RX11_134 : xCS RX11 134 md_X11_lowest 1 := ⟨cw_X11_lowest, wd_480, wd_481⟩
theorem wd_475 : (Jvm.Cond.methodLink "KnowledgeRoom" (127 : Nat) ({ cls := "KnowledgeRoom$Worlds", name := "atomsOf", desc := "(I)I" } : Jvm.MethodName)) ∈ xTG := xmem 475 (by decide +kernel) (by decide +kernel)
theorem cv_RX11_127 : xCV RX11 127 md_X10_atomsOf 10 1 := ⟨_, _, _, cb_10, rfl, cw_X10_atomsOf, wd_475, wd_476, wd_477⟩
abbrev md_X11_told : xMd := (yX11_told, cX11_told, 3, (some .int))
theorem wd_366 : (Jvm.Cond.fieldLink "KnowledgeRoom" (33 : Nat) "KnowledgeRoom" "reader" "LKnowledgeRoom$Reader;") ∈ xTG := xmem 366 (by decide +kernel) (by decide +kernel)
theorem fl_RX11_33 : xFL RX11 33 11 3 := ⟨_, _, _, cb_11, by decide, wd_366⟩
theorem wd_488 : (Jvm.Cond.methodLink "KnowledgeRoom" (138 : Nat) ({ cls := "KnowledgeRoom$Reader", name := "collect", desc := "(I)I" } : Jvm.MethodName)) ∈ xTG := xmem 488 (by decide +kernel) (by decide +kernel)
theorem cv_RX11_138 : xCV RX11 138 md_X6_collect 6 1 := ⟨_, _, _, cb_6, rfl, cw_X6_collect, wd_488, wd_489, wd_490⟩
abbrev md_X11_type : xMd := (yX11_type, cX11_type, 2, (some .int))
theorem wd_502 : (Jvm.Cond.code ({ cls := "KnowledgeRoom$Reader", name := "collectFour", desc := "(I)I" } : Jvm.MethodName) prog_8_method_3_code (5 : Nat) (Option.some Jvm.ClassFile.FieldType.int)) ∈ xTG := xmem 502 (by decide +kernel) (by decide +kernel)
theorem cw_X6_collectFour : xcw md_X6_collectFour 1 := ⟨wd_502, wd_7, by decide +kernel, by decide⟩
theorem wd_499 : (Jvm.Cond.methodLink "KnowledgeRoom" (141 : Nat) ({ cls := "KnowledgeRoom$Reader", name := "collectFour", desc := "(I)I" } : Jvm.MethodName)) ∈ xTG := xmem 499 (by decide +kernel) (by decide +kernel)
theorem wd_500 : (Jvm.Cond.instanceMethod ({ cls := "KnowledgeRoom$Reader", name := "collectFour", desc := "(I)I" } : Jvm.MethodName)) ∈ xTG := xmem 500 (by decide +kernel) (by decide +kernel)
theorem wd_501 : (Jvm.Cond.selects "KnowledgeRoom$Reader" ({ cls := "KnowledgeRoom$Reader", name := "collectFour", desc := "(I)I" } : Jvm.MethodName) ({ cls := "KnowledgeRoom$Reader", name := "collectFour", desc := "(I)I" } : Jvm.MethodName)) ∈ xTG := xmem 501 (by decide +kernel) (by decide +kernel)
theorem cv_RX11_141 : xCV RX11 141 md_X6_collectFour 6 1 := ⟨_, _, _, cb_6, rfl, cw_X6_collectFour, wd_499, wd_500, wd_501⟩
abbrev md_X11_four : xMd := (yX11_four, cX11_four, 2, (some .int))
theorem wd_377 : (Jvm.Cond.fieldLink "KnowledgeRoom" (232 : Nat) "KnowledgeRoom" "decided" "Z") ∈ xTG := xmem 377 (by decide +kernel) (by decide +kernel)
theorem fp_RX11_232 : xFP RX11 232 11 14 .boolean := ⟨_, _, _, cb_11, by decide, wd_377, rfl, rfl⟩
abbrev md_X11_handChanged : xMd := (yX11_handChanged, cX11_handChanged, 1, none)
theorem wd_367 : (Jvm.Cond.fieldLink "KnowledgeRoom" (42 : Nat) "KnowledgeRoom" "hand" "LKnowledgeRoom$Formula;") ∈ xTG := xmem 367 (by decide +kernel) (by decide +kernel)
theorem fl_RX11_42 : xFL RX11 42 11 4 := ⟨_, _, _, cb_11, by decide, wd_367⟩
theorem wd_511 : (Jvm.Cond.code ({ cls := "KnowledgeRoom$Reader", name := "read", desc := "(LKnowledgeRoom$Formula;)I" } : Jvm.MethodName) prog_8_method_4_code (3 : Nat) (Option.some Jvm.ClassFile.FieldType.int)) ∈ xTG := xmem 511 (by decide +kernel) (by decide +kernel)
theorem cw_X6_read : xcw md_X6_read 1 := ⟨wd_511, wd_7, by decide +kernel, by decide⟩
theorem wd_508 : (Jvm.Cond.methodLink "KnowledgeRoom" (144 : Nat) ({ cls := "KnowledgeRoom$Reader", name := "read", desc := "(LKnowledgeRoom$Formula;)I" } : Jvm.MethodName)) ∈ xTG := xmem 508 (by decide +kernel) (by decide +kernel)
theorem wd_509 : (Jvm.Cond.instanceMethod ({ cls := "KnowledgeRoom$Reader", name := "read", desc := "(LKnowledgeRoom$Formula;)I" } : Jvm.MethodName)) ∈ xTG := xmem 509 (by decide +kernel) (by decide +kernel)
theorem wd_510 : (Jvm.Cond.selects "KnowledgeRoom$Reader" ({ cls := "KnowledgeRoom$Reader", name := "read", desc := "(LKnowledgeRoom$Formula;)I" } : Jvm.MethodName) ({ cls := "KnowledgeRoom$Reader", name := "read", desc := "(LKnowledgeRoom$Formula;)I" } : Jvm.MethodName)) ∈ xTG := xmem 510 (by decide +kernel) (by decide +kernel)
theorem cv_RX11_144 : xCV RX11 144 md_X6_read 6 1 := ⟨_, _, _, cb_6, rfl, cw_X6_read, wd_508, wd_509, wd_510⟩
theorem wd_590 : (Jvm.Cond.code ({ cls := "KnowledgeRoom", name := "handChanged", desc := "()V" } : Jvm.MethodName) prog_1_method_27_code (1 : Nat) (Option.none : Option Jvm.ClassFile.FieldType)) ∈ xTG := xmem 590 (by decide +kernel) (by decide +kernel)
theorem cw_X11_handChanged : xcw md_X11_handChanged 0 := ⟨wd_590, wd_1, by decide +kernel, by decide⟩
theorem wd_587 : (Jvm.Cond.methodLink "KnowledgeRoom" (148 : Nat) ({ cls := "KnowledgeRoom", name := "handChanged", desc := "()V" } : Jvm.MethodName)) ∈ xTG := xmem 587 (by decide +kernel) (by decide +kernel)
theorem wd_589 : (Jvm.Cond.instanceMethod ({ cls := "KnowledgeRoom", name := "handChanged", desc := "()V" } : Jvm.MethodName)) ∈ xTG := xmem 589 (by decide +kernel) (by decide +kernel)
theorem ws_13 : Cond.selects "KnowledgeRoom" ⟨"KnowledgeRoom", "handChanged", "()V"⟩ ⟨"KnowledgeRoom", "handChanged", "()V"⟩ ∈ xTG := xmemP 13 (by decide +kernel) (by decide +kernel)
theorem cv_RX11_148 : xCV RX11 148 md_X11_handChanged 11 0 := ⟨_, _, _, cb_11, rfl, cw_X11_handChanged, wd_587, wd_589, ws_13⟩
abbrev md_X11_formula : xMd := (yX11_formula, cX11_formula, 2, (some .int))
theorem fl_RX11_211 : xFL RX11 211 11 13 := ⟨_, _, _, cb_11, by decide, wd_376⟩
theorem wd_375 : (Jvm.Cond.fieldLink "KnowledgeRoom" (255 : Nat) "KnowledgeRoom" "truth" "J") ∈ xTG := xmem 375 (by decide +kernel) (by decide +kernel)
theorem fl_RX11_255 : xFL RX11 255 11 12 := ⟨_, _, _, cb_11, by decide, wd_375⟩
theorem wd_369 : (Jvm.Cond.fieldLink "KnowledgeRoom" (56 : Nat) "KnowledgeRoom" "judge" "LKnowledgeRoom$Judge;") ∈ xTG := xmem 369 (by decide +kernel) (by decide +kernel)
theorem fl_RX11_56 : xFL RX11 56 11 6 := ⟨_, _, _, cb_11, by decide, wd_369⟩
theorem wd_599 : (Jvm.Cond.methodLink "KnowledgeRoom" (251 : Nat) ({ cls := "KnowledgeRoom$Judge", name := "where", desc := "(LKnowledgeRoom$Formula;LKnowledgeRoom$Worlds;)J" } : Jvm.MethodName)) ∈ xTG := xmem 599 (by decide +kernel) (by decide +kernel)
theorem cv_RX11_251 : xCV RX11 251 md_X3_where 3 2 := ⟨_, _, _, cb_3, rfl, cw_X3_where, wd_599, wd_600, wd_601⟩
theorem fp_RX11_255 : xFP RX11 255 11 12 .long := ⟨_, _, _, cb_11, by decide, wd_375, rfl, rfl⟩
abbrev md_X11_truths : xMd := (yX11_truths, cX11_truths, 1, (some .long))
theorem wd_598 : (Jvm.Cond.code ({ cls := "KnowledgeRoom", name := "truths", desc := "()J" } : Jvm.MethodName) prog_1_method_29_code (1 : Nat) (Option.some Jvm.ClassFile.FieldType.long)) ∈ xTG := xmem 598 (by decide +kernel) (by decide +kernel)
theorem cw_X11_truths : xcw md_X11_truths 0 := ⟨wd_598, wd_1, by decide +kernel, by decide⟩
theorem wd_595 : (Jvm.Cond.methodLink "KnowledgeRoom" (151 : Nat) ({ cls := "KnowledgeRoom", name := "truths", desc := "()J" } : Jvm.MethodName)) ∈ xTG := xmem 595 (by decide +kernel) (by decide +kernel)
theorem wd_597 : (Jvm.Cond.instanceMethod ({ cls := "KnowledgeRoom", name := "truths", desc := "()J" } : Jvm.MethodName)) ∈ xTG := xmem 597 (by decide +kernel) (by decide +kernel)
theorem ws_14 : Cond.selects "KnowledgeRoom" ⟨"KnowledgeRoom", "truths", "()J"⟩ ⟨"KnowledgeRoom", "truths", "()J"⟩ ∈ xTG := xmemP 14 (by decide +kernel) (by decide +kernel)
theorem cv_RX11_151 : xCV RX11 151 md_X11_truths 11 0 := ⟨_, _, _, cb_11, rfl, cw_X11_truths, wd_595, wd_597, ws_14⟩
abbrev md_X11_holds : xMd := (yX11_holds, cX11_holds, 2, (some .int))
abbrev md_X11_worlds : xMd := (yX11_worlds, cX11_worlds, 1, (some .int))
theorem wd_368 : (Jvm.Cond.fieldLink "KnowledgeRoom" (49 : Nat) "KnowledgeRoom" "text" "LKnowledgeRoom$Text;") ∈ xTG := xmem 368 (by decide +kernel) (by decide +kernel)
theorem fl_RX11_49 : xFL RX11 49 11 5 := ⟨_, _, _, cb_11, by decide, wd_368⟩
theorem wd_665 : (Jvm.Cond.code ({ cls := "KnowledgeRoom$Text", name := "write", desc := "(LKnowledgeRoom$Formula;)I" } : Jvm.MethodName) prog_11_method_2_code (4 : Nat) (Option.some Jvm.ClassFile.FieldType.int)) ∈ xTG := xmem 665 (by decide +kernel) (by decide +kernel)
theorem cw_X9_write : xcw md_X9_write 1 := ⟨wd_665, wd_8, by decide +kernel, by decide⟩
theorem wd_662 : (Jvm.Cond.methodLink "KnowledgeRoom" (160 : Nat) ({ cls := "KnowledgeRoom$Text", name := "write", desc := "(LKnowledgeRoom$Formula;)I" } : Jvm.MethodName)) ∈ xTG := xmem 662 (by decide +kernel) (by decide +kernel)
theorem wd_663 : (Jvm.Cond.instanceMethod ({ cls := "KnowledgeRoom$Text", name := "write", desc := "(LKnowledgeRoom$Formula;)I" } : Jvm.MethodName)) ∈ xTG := xmem 663 (by decide +kernel) (by decide +kernel)
theorem wd_664 : (Jvm.Cond.selects "KnowledgeRoom$Text" ({ cls := "KnowledgeRoom$Text", name := "write", desc := "(LKnowledgeRoom$Formula;)I" } : Jvm.MethodName) ({ cls := "KnowledgeRoom$Text", name := "write", desc := "(LKnowledgeRoom$Formula;)I" } : Jvm.MethodName)) ∈ xTG := xmem 664 (by decide +kernel) (by decide +kernel)
theorem cv_RX11_160 : xCV RX11 160 md_X9_write 9 1 := ⟨_, _, _, cb_9, rfl, cw_X9_write, wd_662, wd_663, wd_664⟩
abbrev md_X11_tell : xMd := (yX11_tell, cX11_tell, 1, (some .int))
theorem wd_195 : (Jvm.Cond.fieldLink "KnowledgeRoom" (163 : Nat) "KnowledgeRoom$Text" "size" "I") ∈ xTG := xmem 195 (by decide +kernel) (by decide +kernel)
theorem fl_RX11_163 : xFL RX11 163 9 1 := ⟨_, _, _, cb_9, by decide, wd_195⟩
theorem wd_193 : (Jvm.Cond.fieldLink "KnowledgeRoom" (164 : Nat) "KnowledgeRoom$Text" "signs" "[C") ∈ xTG := xmem 193 (by decide +kernel) (by decide +kernel)
theorem fl_RX11_164 : xFL RX11 164 9 0 := ⟨_, _, _, cb_9, by decide, wd_193⟩
abbrev md_X11_letter : xMd := (yX11_letter, cX11_letter, 2, (some .int))
theorem wd_373 : (Jvm.Cond.fieldLink "KnowledgeRoom" (81 : Nat) "KnowledgeRoom" "chosen" "[I") ∈ xTG := xmem 373 (by decide +kernel) (by decide +kernel)
theorem fl_RX11_81 : xFL RX11 81 11 10 := ⟨_, _, _, cb_11, by decide, wd_373⟩
abbrev md_X11_choose : xMd := (yX11_choose, cX11_choose, 5, (some .int))
theorem wd_713 : (Jvm.Cond.code ({ cls := "KnowledgeRoom$Past", name := "keep", desc := "(LKnowledgeRoom$Worlds;)LKnowledgeRoom$Worlds;" } : Jvm.MethodName) prog_7_method_2_code (3 : Nat) (Option.some (Jvm.ClassFile.FieldType.object "KnowledgeRoom$Worlds"))) ∈ xTG := xmem 713 (by decide +kernel) (by decide +kernel)
theorem wd_3 : (Jvm.Cond.initialized "KnowledgeRoom$Past") ∈ xTG := xmem 3 (by decide +kernel) (by decide +kernel)
theorem cw_X5_keep : xcw md_X5_keep 1 := ⟨wd_713, wd_3, by decide +kernel, by decide⟩
theorem wd_710 : (Jvm.Cond.methodLink "KnowledgeRoom" (247 : Nat) ({ cls := "KnowledgeRoom$Past", name := "keep", desc := "(LKnowledgeRoom$Worlds;)LKnowledgeRoom$Worlds;" } : Jvm.MethodName)) ∈ xTG := xmem 710 (by decide +kernel) (by decide +kernel)
theorem wd_711 : (Jvm.Cond.instanceMethod ({ cls := "KnowledgeRoom$Past", name := "keep", desc := "(LKnowledgeRoom$Worlds;)LKnowledgeRoom$Worlds;" } : Jvm.MethodName)) ∈ xTG := xmem 711 (by decide +kernel) (by decide +kernel)
theorem wd_712 : (Jvm.Cond.selects "KnowledgeRoom$Past" ({ cls := "KnowledgeRoom$Past", name := "keep", desc := "(LKnowledgeRoom$Worlds;)LKnowledgeRoom$Worlds;" } : Jvm.MethodName) ({ cls := "KnowledgeRoom$Past", name := "keep", desc := "(LKnowledgeRoom$Worlds;)LKnowledgeRoom$Worlds;" } : Jvm.MethodName)) ∈ xTG := xmem 712 (by decide +kernel) (by decide +kernel)
theorem cv_RX11_247 : xCV RX11 247 md_X5_keep 5 1 := ⟨_, _, _, cb_5, rfl, cw_X5_keep, wd_710, wd_711, wd_712⟩
abbrev md_X11_keptWorlds : xMd := (yX11_keptWorlds, cX11_keptWorlds, 1, (some (.object "KnowledgeRoom$Worlds")))
theorem wd_705 : (Jvm.Cond.code ({ cls := "KnowledgeRoom", name := "choose", desc := "(J)I" } : Jvm.MethodName) prog_1_method_30_code (5 : Nat) (Option.some Jvm.ClassFile.FieldType.int)) ∈ xTG := xmem 705 (by decide +kernel) (by decide +kernel)
theorem cw_X11_choose : xcw md_X11_choose 1 := ⟨wd_705, wd_1, by decide +kernel, by decide⟩
theorem wd_702 : (Jvm.Cond.methodLink "KnowledgeRoom" (168 : Nat) ({ cls := "KnowledgeRoom", name := "choose", desc := "(J)I" } : Jvm.MethodName)) ∈ xTG := xmem 702 (by decide +kernel) (by decide +kernel)
theorem wd_704 : (Jvm.Cond.instanceMethod ({ cls := "KnowledgeRoom", name := "choose", desc := "(J)I" } : Jvm.MethodName)) ∈ xTG := xmem 704 (by decide +kernel) (by decide +kernel)
theorem ws_27 : Cond.selects "KnowledgeRoom" ⟨"KnowledgeRoom", "choose", "(J)I"⟩ ⟨"KnowledgeRoom", "choose", "(J)I"⟩ ∈ xTG := xmemP 27 (by decide +kernel) (by decide +kernel)
theorem cv_RX11_168 : xCV RX11 168 md_X11_choose 11 1 := ⟨_, _, _, cb_11, rfl, cw_X11_choose, wd_702, wd_704, ws_27⟩
theorem wd_709 : (Jvm.Cond.code ({ cls := "KnowledgeRoom", name := "keptWorlds", desc := "()LKnowledgeRoom$Worlds;" } : Jvm.MethodName) prog_1_method_28_code (1 : Nat) (Option.some (Jvm.ClassFile.FieldType.object "KnowledgeRoom$Worlds"))) ∈ xTG := xmem 709 (by decide +kernel) (by decide +kernel)
theorem cw_X11_keptWorlds : xcw md_X11_keptWorlds 0 := ⟨wd_709, wd_1, by decide +kernel, by decide⟩
theorem wd_706 : (Jvm.Cond.methodLink "KnowledgeRoom" (171 : Nat) ({ cls := "KnowledgeRoom", name := "keptWorlds", desc := "()LKnowledgeRoom$Worlds;" } : Jvm.MethodName)) ∈ xTG := xmem 706 (by decide +kernel) (by decide +kernel)
theorem wd_708 : (Jvm.Cond.instanceMethod ({ cls := "KnowledgeRoom", name := "keptWorlds", desc := "()LKnowledgeRoom$Worlds;" } : Jvm.MethodName)) ∈ xTG := xmem 708 (by decide +kernel) (by decide +kernel)
theorem ws_28 : Cond.selects "KnowledgeRoom" ⟨"KnowledgeRoom", "keptWorlds", "()LKnowledgeRoom$Worlds;"⟩ ⟨"KnowledgeRoom", "keptWorlds", "()LKnowledgeRoom$Worlds;"⟩ ∈ xTG := xmemP 28 (by decide +kernel) (by decide +kernel)
theorem cv_RX11_171 : xCV RX11 171 md_X11_keptWorlds 11 0 := ⟨_, _, _, cb_11, rfl, cw_X11_keptWorlds, wd_706, wd_708, ws_28⟩
theorem wd_48 : (Jvm.Cond.fieldLink "KnowledgeRoom" (175 : Nat) "KnowledgeRoom$Worlds" "cells" "[J") ∈ xTG := xmem 48 (by decide +kernel) (by decide +kernel)
theorem fl_RX11_175 : xFL RX11 175 10 2 := ⟨_, _, _, cb_10, by decide, wd_48⟩
theorem wd_725 : (Jvm.Cond.code ({ cls := "KnowledgeRoom$Worlds", name := "take", desc := "(LKnowledgeRoom$Worlds;[J[II)V" } : Jvm.MethodName) prog_12_method_13_code (8 : Nat) (Option.none : Option Jvm.ClassFile.FieldType)) ∈ xTG := xmem 725 (by decide +kernel) (by decide +kernel)
theorem cw_X10_take : xcw md_X10_take 4 := ⟨wd_725, wd_2, by decide +kernel, by decide⟩
theorem wd_722 : (Jvm.Cond.methodLink "KnowledgeRoom" (178 : Nat) ({ cls := "KnowledgeRoom$Worlds", name := "take", desc := "(LKnowledgeRoom$Worlds;[J[II)V" } : Jvm.MethodName)) ∈ xTG := xmem 722 (by decide +kernel) (by decide +kernel)
theorem wd_723 : (Jvm.Cond.instanceMethod ({ cls := "KnowledgeRoom$Worlds", name := "take", desc := "(LKnowledgeRoom$Worlds;[J[II)V" } : Jvm.MethodName)) ∈ xTG := xmem 723 (by decide +kernel) (by decide +kernel)
theorem wd_724 : (Jvm.Cond.selects "KnowledgeRoom$Worlds" ({ cls := "KnowledgeRoom$Worlds", name := "take", desc := "(LKnowledgeRoom$Worlds;[J[II)V" } : Jvm.MethodName) ({ cls := "KnowledgeRoom$Worlds", name := "take", desc := "(LKnowledgeRoom$Worlds;[J[II)V" } : Jvm.MethodName)) ∈ xTG := xmem 724 (by decide +kernel) (by decide +kernel)
theorem cv_RX11_178 : xCV RX11 178 md_X10_take 10 4 := ⟨_, _, _, cb_10, rfl, cw_X10_take, wd_722, wd_723, wd_724⟩
abbrev md_X11_say : xMd := (yX11_say, cX11_say, 3, (some .int))
theorem wd_365 : (Jvm.Cond.fieldLink "KnowledgeRoom" (26 : Nat) "KnowledgeRoom" "events" "LKnowledgeRoom$Events;") ∈ xTG := xmem 365 (by decide +kernel) (by decide +kernel)
theorem fl_RX11_26 : xFL RX11 26 11 2 := ⟨_, _, _, cb_11, by decide, wd_365⟩
theorem wd_738 : (Jvm.Cond.code ({ cls := "KnowledgeRoom$Events", name := "add", desc := "(LKnowledgeRoom$Formula;)I" } : Jvm.MethodName) prog_3_method_3_code (4 : Nat) (Option.some Jvm.ClassFile.FieldType.int)) ∈ xTG := xmem 738 (by decide +kernel) (by decide +kernel)
theorem cw_X1_add : xcw md_X1_add 1 := ⟨wd_738, wd_4, by decide +kernel, by decide⟩
theorem wd_735 : (Jvm.Cond.methodLink "KnowledgeRoom" (182 : Nat) ({ cls := "KnowledgeRoom$Events", name := "add", desc := "(LKnowledgeRoom$Formula;)I" } : Jvm.MethodName)) ∈ xTG := xmem 735 (by decide +kernel) (by decide +kernel)
theorem wd_736 : (Jvm.Cond.instanceMethod ({ cls := "KnowledgeRoom$Events", name := "add", desc := "(LKnowledgeRoom$Formula;)I" } : Jvm.MethodName)) ∈ xTG := xmem 736 (by decide +kernel) (by decide +kernel)
theorem wd_737 : (Jvm.Cond.selects "KnowledgeRoom$Events" ({ cls := "KnowledgeRoom$Events", name := "add", desc := "(LKnowledgeRoom$Formula;)I" } : Jvm.MethodName) ({ cls := "KnowledgeRoom$Events", name := "add", desc := "(LKnowledgeRoom$Formula;)I" } : Jvm.MethodName)) ∈ xTG := xmem 737 (by decide +kernel) (by decide +kernel)
theorem cv_RX11_182 : xCV RX11 182 md_X1_add 1 1 := ⟨_, _, _, cb_1, rfl, cw_X1_add, wd_735, wd_736, wd_737⟩
abbrev md_X11_event : xMd := (yX11_event, cX11_event, 1, (some .int))
theorem wd_747 : (Jvm.Cond.code ({ cls := "KnowledgeRoom$Events", name := "has", desc := "(I)Z" } : Jvm.MethodName) prog_3_method_2_code (2 : Nat) (Option.some Jvm.ClassFile.FieldType.boolean)) ∈ xTG := xmem 747 (by decide +kernel) (by decide +kernel)
theorem cw_X1_has : xcw md_X1_has 1 := ⟨wd_747, wd_4, by decide +kernel, by decide⟩
theorem wd_744 : (Jvm.Cond.methodLink "KnowledgeRoom" (184 : Nat) ({ cls := "KnowledgeRoom$Events", name := "has", desc := "(I)Z" } : Jvm.MethodName)) ∈ xTG := xmem 744 (by decide +kernel) (by decide +kernel)
theorem wd_745 : (Jvm.Cond.instanceMethod ({ cls := "KnowledgeRoom$Events", name := "has", desc := "(I)Z" } : Jvm.MethodName)) ∈ xTG := xmem 745 (by decide +kernel) (by decide +kernel)
theorem wd_746 : (Jvm.Cond.selects "KnowledgeRoom$Events" ({ cls := "KnowledgeRoom$Events", name := "has", desc := "(I)Z" } : Jvm.MethodName) ({ cls := "KnowledgeRoom$Events", name := "has", desc := "(I)Z" } : Jvm.MethodName)) ∈ xTG := xmem 746 (by decide +kernel) (by decide +kernel)
theorem cv_RX11_184 : xCV RX11 184 md_X1_has 1 1 := ⟨_, _, _, cb_1, rfl, cw_X1_has, wd_744, wd_745, wd_746⟩
theorem wd_751 : (Jvm.Cond.code ({ cls := "KnowledgeRoom$Events", name := "merge", desc := "(III)I" } : Jvm.MethodName) prog_3_method_5_code (7 : Nat) (Option.some Jvm.ClassFile.FieldType.int)) ∈ xTG := xmem 751 (by decide +kernel) (by decide +kernel)
theorem cw_X1_merge : xcw md_X1_merge 3 := ⟨wd_751, wd_4, by decide +kernel, by decide⟩
theorem wd_748 : (Jvm.Cond.methodLink "KnowledgeRoom" (185 : Nat) ({ cls := "KnowledgeRoom$Events", name := "merge", desc := "(III)I" } : Jvm.MethodName)) ∈ xTG := xmem 748 (by decide +kernel) (by decide +kernel)
theorem wd_749 : (Jvm.Cond.instanceMethod ({ cls := "KnowledgeRoom$Events", name := "merge", desc := "(III)I" } : Jvm.MethodName)) ∈ xTG := xmem 749 (by decide +kernel) (by decide +kernel)
theorem wd_750 : (Jvm.Cond.selects "KnowledgeRoom$Events" ({ cls := "KnowledgeRoom$Events", name := "merge", desc := "(III)I" } : Jvm.MethodName) ({ cls := "KnowledgeRoom$Events", name := "merge", desc := "(III)I" } : Jvm.MethodName)) ∈ xTG := xmem 750 (by decide +kernel) (by decide +kernel)
theorem cv_RX11_185 : xCV RX11 185 md_X1_merge 1 3 := ⟨_, _, _, cb_1, rfl, cw_X1_merge, wd_748, wd_749, wd_750⟩
abbrev md_X11_tieEvents : xMd := (yX11_tieEvents, cX11_tieEvents, 4, (some .int))
theorem wd_105 : (Jvm.Cond.fieldLink "KnowledgeRoom" (186 : Nat) "KnowledgeRoom$Formula" "size" "I") ∈ xTG := xmem 105 (by decide +kernel) (by decide +kernel)
theorem fl_RX11_186 : xFL RX11 186 2 1 := ⟨_, _, _, cb_2, by decide, wd_105⟩
theorem wd_765 : (Jvm.Cond.code ({ cls := "KnowledgeRoom$Events", name := "setChange", desc := "(IILKnowledgeRoom$Formula;)V" } : Jvm.MethodName) prog_3_method_4_code (4 : Nat) (Option.none : Option Jvm.ClassFile.FieldType)) ∈ xTG := xmem 765 (by decide +kernel) (by decide +kernel)
theorem cw_X1_setChange : xcw md_X1_setChange 3 := ⟨wd_765, wd_4, by decide +kernel, by decide⟩
theorem wd_762 : (Jvm.Cond.methodLink "KnowledgeRoom" (187 : Nat) ({ cls := "KnowledgeRoom$Events", name := "setChange", desc := "(IILKnowledgeRoom$Formula;)V" } : Jvm.MethodName)) ∈ xTG := xmem 762 (by decide +kernel) (by decide +kernel)
theorem wd_763 : (Jvm.Cond.instanceMethod ({ cls := "KnowledgeRoom$Events", name := "setChange", desc := "(IILKnowledgeRoom$Formula;)V" } : Jvm.MethodName)) ∈ xTG := xmem 763 (by decide +kernel) (by decide +kernel)
theorem wd_764 : (Jvm.Cond.selects "KnowledgeRoom$Events" ({ cls := "KnowledgeRoom$Events", name := "setChange", desc := "(IILKnowledgeRoom$Formula;)V" } : Jvm.MethodName) ({ cls := "KnowledgeRoom$Events", name := "setChange", desc := "(IILKnowledgeRoom$Formula;)V" } : Jvm.MethodName)) ∈ xTG := xmem 764 (by decide +kernel) (by decide +kernel)
theorem cv_RX11_187 : xCV RX11 187 md_X1_setChange 1 3 := ⟨_, _, _, cb_1, rfl, cw_X1_setChange, wd_762, wd_763, wd_764⟩
abbrev md_X11_change : xMd := (yX11_change, cX11_change, 3, (some .int))
theorem wd_113 : (Jvm.Cond.fieldLink "KnowledgeRoom" (191 : Nat) "KnowledgeRoom$Events" "size" "I") ∈ xTG := xmem 113 (by decide +kernel) (by decide +kernel)
theorem fl_RX11_191 : xFL RX11 191 1 0 := ⟨_, _, _, cb_1, by decide, wd_113⟩
theorem fp_RX11_191 : xFP RX11 191 1 0 .int := ⟨_, _, _, cb_1, by decide, wd_113, rfl, rfl⟩
abbrev md_X11_noEvents : xMd := (yX11_noEvents, cX11_noEvents, 2, (some .int))
theorem wd_777 : (Jvm.Cond.code ({ cls := "KnowledgeRoom$Events", name := "pair", desc := "(LKnowledgeRoom$Worlds;LKnowledgeRoom$Judge;)I" } : Jvm.MethodName) prog_3_method_6_code (6 : Nat) (Option.some Jvm.ClassFile.FieldType.int)) ∈ xTG := xmem 777 (by decide +kernel) (by decide +kernel)
theorem cw_X1_pair : xcw md_X1_pair 2 := ⟨wd_777, wd_4, by decide +kernel, by decide⟩
theorem wd_774 : (Jvm.Cond.methodLink "KnowledgeRoom" (192 : Nat) ({ cls := "KnowledgeRoom$Events", name := "pair", desc := "(LKnowledgeRoom$Worlds;LKnowledgeRoom$Judge;)I" } : Jvm.MethodName)) ∈ xTG := xmem 774 (by decide +kernel) (by decide +kernel)
theorem wd_775 : (Jvm.Cond.instanceMethod ({ cls := "KnowledgeRoom$Events", name := "pair", desc := "(LKnowledgeRoom$Worlds;LKnowledgeRoom$Judge;)I" } : Jvm.MethodName)) ∈ xTG := xmem 775 (by decide +kernel) (by decide +kernel)
theorem wd_776 : (Jvm.Cond.selects "KnowledgeRoom$Events" ({ cls := "KnowledgeRoom$Events", name := "pair", desc := "(LKnowledgeRoom$Worlds;LKnowledgeRoom$Judge;)I" } : Jvm.MethodName) ({ cls := "KnowledgeRoom$Events", name := "pair", desc := "(LKnowledgeRoom$Worlds;LKnowledgeRoom$Judge;)I" } : Jvm.MethodName)) ∈ xTG := xmem 776 (by decide +kernel) (by decide +kernel)
theorem cv_RX11_192 : xCV RX11 192 md_X1_pair 1 2 := ⟨_, _, _, cb_1, rfl, cw_X1_pair, wd_774, wd_775, wd_776⟩
theorem wd_118 : (Jvm.Cond.fieldLink "KnowledgeRoom" (196 : Nat) "KnowledgeRoom$Events" "worldOf" "[I") ∈ xTG := xmem 118 (by decide +kernel) (by decide +kernel)
theorem fl_RX11_196 : xFL RX11 196 1 4 := ⟨_, _, _, cb_1, by decide, wd_118⟩
theorem wd_782 : (Jvm.Cond.code ({ cls := "KnowledgeRoom$Events", name := "narrowCells", desc := "(LKnowledgeRoom$Worlds;)V" } : Jvm.MethodName) prog_3_method_7_code (5 : Nat) (Option.none : Option Jvm.ClassFile.FieldType)) ∈ xTG := xmem 782 (by decide +kernel) (by decide +kernel)
theorem cw_X1_narrowCells : xcw md_X1_narrowCells 1 := ⟨wd_782, wd_4, by decide +kernel, by decide⟩
theorem wd_779 : (Jvm.Cond.methodLink "KnowledgeRoom" (199 : Nat) ({ cls := "KnowledgeRoom$Events", name := "narrowCells", desc := "(LKnowledgeRoom$Worlds;)V" } : Jvm.MethodName)) ∈ xTG := xmem 779 (by decide +kernel) (by decide +kernel)
theorem wd_780 : (Jvm.Cond.instanceMethod ({ cls := "KnowledgeRoom$Events", name := "narrowCells", desc := "(LKnowledgeRoom$Worlds;)V" } : Jvm.MethodName)) ∈ xTG := xmem 780 (by decide +kernel) (by decide +kernel)
theorem wd_781 : (Jvm.Cond.selects "KnowledgeRoom$Events" ({ cls := "KnowledgeRoom$Events", name := "narrowCells", desc := "(LKnowledgeRoom$Worlds;)V" } : Jvm.MethodName) ({ cls := "KnowledgeRoom$Events", name := "narrowCells", desc := "(LKnowledgeRoom$Worlds;)V" } : Jvm.MethodName)) ∈ xTG := xmem 781 (by decide +kernel) (by decide +kernel)
theorem cv_RX11_199 : xCV RX11 199 md_X1_narrowCells 1 1 := ⟨_, _, _, cb_1, rfl, cw_X1_narrowCells, wd_779, wd_780, wd_781⟩
theorem wd_790 : (Jvm.Cond.code ({ cls := "KnowledgeRoom$Events", name := "changeAtoms", desc := "(LKnowledgeRoom$Worlds;LKnowledgeRoom$Worlds;LKnowledgeRoom$Judge;)V" } : Jvm.MethodName) prog_3_method_9_code (7 : Nat) (Option.none : Option Jvm.ClassFile.FieldType)) ∈ xTG := xmem 790 (by decide +kernel) (by decide +kernel)
theorem cw_X1_changeAtoms : xcw md_X1_changeAtoms 3 := ⟨wd_790, wd_4, by decide +kernel, by decide⟩
theorem wd_787 : (Jvm.Cond.methodLink "KnowledgeRoom" (203 : Nat) ({ cls := "KnowledgeRoom$Events", name := "changeAtoms", desc := "(LKnowledgeRoom$Worlds;LKnowledgeRoom$Worlds;LKnowledgeRoom$Judge;)V" } : Jvm.MethodName)) ∈ xTG := xmem 787 (by decide +kernel) (by decide +kernel)
theorem wd_788 : (Jvm.Cond.instanceMethod ({ cls := "KnowledgeRoom$Events", name := "changeAtoms", desc := "(LKnowledgeRoom$Worlds;LKnowledgeRoom$Worlds;LKnowledgeRoom$Judge;)V" } : Jvm.MethodName)) ∈ xTG := xmem 788 (by decide +kernel) (by decide +kernel)
theorem wd_789 : (Jvm.Cond.selects "KnowledgeRoom$Events" ({ cls := "KnowledgeRoom$Events", name := "changeAtoms", desc := "(LKnowledgeRoom$Worlds;LKnowledgeRoom$Worlds;LKnowledgeRoom$Judge;)V" } : Jvm.MethodName) ({ cls := "KnowledgeRoom$Events", name := "changeAtoms", desc := "(LKnowledgeRoom$Worlds;LKnowledgeRoom$Worlds;LKnowledgeRoom$Judge;)V" } : Jvm.MethodName)) ∈ xTG := xmem 789 (by decide +kernel) (by decide +kernel)
theorem cv_RX11_203 : xCV RX11 203 md_X1_changeAtoms 1 3 := ⟨_, _, _, cb_1, rfl, cw_X1_changeAtoms, wd_787, wd_788, wd_789⟩
abbrev md_X11_happen : xMd := (yX11_happen, cX11_happen, 3, (some .int))
theorem fl_RX11_207 : xFL RX11 207 5 2 := ⟨_, _, _, cb_5, by decide, wd_69⟩
theorem wd_803 : (Jvm.Cond.code ({ cls := "KnowledgeRoom$Past", name := "restore", desc := "(LKnowledgeRoom$Worlds;)V" } : Jvm.MethodName) prog_7_method_3_code (2 : Nat) (Option.none : Option Jvm.ClassFile.FieldType)) ∈ xTG := xmem 803 (by decide +kernel) (by decide +kernel)
theorem cw_X5_restore : xcw md_X5_restore 1 := ⟨wd_803, wd_3, by decide +kernel, by decide⟩
theorem wd_800 : (Jvm.Cond.methodLink "KnowledgeRoom" (208 : Nat) ({ cls := "KnowledgeRoom$Past", name := "restore", desc := "(LKnowledgeRoom$Worlds;)V" } : Jvm.MethodName)) ∈ xTG := xmem 800 (by decide +kernel) (by decide +kernel)
theorem wd_801 : (Jvm.Cond.instanceMethod ({ cls := "KnowledgeRoom$Past", name := "restore", desc := "(LKnowledgeRoom$Worlds;)V" } : Jvm.MethodName)) ∈ xTG := xmem 801 (by decide +kernel) (by decide +kernel)
theorem wd_802 : (Jvm.Cond.selects "KnowledgeRoom$Past" ({ cls := "KnowledgeRoom$Past", name := "restore", desc := "(LKnowledgeRoom$Worlds;)V" } : Jvm.MethodName) ({ cls := "KnowledgeRoom$Past", name := "restore", desc := "(LKnowledgeRoom$Worlds;)V" } : Jvm.MethodName)) ∈ xTG := xmem 802 (by decide +kernel) (by decide +kernel)
theorem cv_RX11_208 : xCV RX11 208 md_X5_restore 5 1 := ⟨_, _, _, cb_5, rfl, cw_X5_restore, wd_800, wd_801, wd_802⟩
abbrev md_X11_back : xMd := (yX11_back, cX11_back, 1, (some .int))
theorem wd_370 : (Jvm.Cond.fieldLink "KnowledgeRoom" (63 : Nat) "KnowledgeRoom" "likeness" "LKnowledgeRoom$Likeness;") ∈ xTG := xmem 370 (by decide +kernel) (by decide +kernel)
theorem fl_RX11_63 : xFL RX11 63 11 7 := ⟨_, _, _, cb_11, by decide, wd_370⟩
theorem wd_811 : (Jvm.Cond.code ({ cls := "KnowledgeRoom$Likeness", name := "settle", desc := "(LKnowledgeRoom$Worlds;)V" } : Jvm.MethodName) prog_6_method_3_code (3 : Nat) (Option.none : Option Jvm.ClassFile.FieldType)) ∈ xTG := xmem 811 (by decide +kernel) (by decide +kernel)
theorem cw_X4_settle : xcw md_X4_settle 1 := ⟨wd_811, wd_10, by decide +kernel, by decide⟩
theorem wd_808 : (Jvm.Cond.methodLink "KnowledgeRoom" (215 : Nat) ({ cls := "KnowledgeRoom$Likeness", name := "settle", desc := "(LKnowledgeRoom$Worlds;)V" } : Jvm.MethodName)) ∈ xTG := xmem 808 (by decide +kernel) (by decide +kernel)
theorem wd_809 : (Jvm.Cond.instanceMethod ({ cls := "KnowledgeRoom$Likeness", name := "settle", desc := "(LKnowledgeRoom$Worlds;)V" } : Jvm.MethodName)) ∈ xTG := xmem 809 (by decide +kernel) (by decide +kernel)
theorem wd_810 : (Jvm.Cond.selects "KnowledgeRoom$Likeness" ({ cls := "KnowledgeRoom$Likeness", name := "settle", desc := "(LKnowledgeRoom$Worlds;)V" } : Jvm.MethodName) ({ cls := "KnowledgeRoom$Likeness", name := "settle", desc := "(LKnowledgeRoom$Worlds;)V" } : Jvm.MethodName)) ∈ xTG := xmem 810 (by decide +kernel) (by decide +kernel)
theorem cv_RX11_215 : xCV RX11 215 md_X4_settle 4 1 := ⟨_, _, _, cb_4, rfl, cw_X4_settle, wd_808, wd_809, wd_810⟩
theorem wd_839 : (Jvm.Cond.code ({ cls := "KnowledgeRoom$Likeness", name := "firsts", desc := "(LKnowledgeRoom$Worlds;)J" } : Jvm.MethodName) prog_6_method_4_code (5 : Nat) (Option.some Jvm.ClassFile.FieldType.long)) ∈ xTG := xmem 839 (by decide +kernel) (by decide +kernel)
theorem cw_X4_firsts : xcw md_X4_firsts 1 := ⟨wd_839, wd_10, by decide +kernel, by decide⟩
theorem wd_836 : (Jvm.Cond.methodLink "KnowledgeRoom" (218 : Nat) ({ cls := "KnowledgeRoom$Likeness", name := "firsts", desc := "(LKnowledgeRoom$Worlds;)J" } : Jvm.MethodName)) ∈ xTG := xmem 836 (by decide +kernel) (by decide +kernel)
theorem wd_837 : (Jvm.Cond.instanceMethod ({ cls := "KnowledgeRoom$Likeness", name := "firsts", desc := "(LKnowledgeRoom$Worlds;)J" } : Jvm.MethodName)) ∈ xTG := xmem 837 (by decide +kernel) (by decide +kernel)
theorem wd_838 : (Jvm.Cond.selects "KnowledgeRoom$Likeness" ({ cls := "KnowledgeRoom$Likeness", name := "firsts", desc := "(LKnowledgeRoom$Worlds;)J" } : Jvm.MethodName) ({ cls := "KnowledgeRoom$Likeness", name := "firsts", desc := "(LKnowledgeRoom$Worlds;)J" } : Jvm.MethodName)) ∈ xTG := xmem 838 (by decide +kernel) (by decide +kernel)
theorem cv_RX11_218 : xCV RX11 218 md_X4_firsts 4 1 := ⟨_, _, _, cb_4, rfl, cw_X4_firsts, wd_836, wd_837, wd_838⟩
theorem wd_240 : (Jvm.Cond.fieldLink "KnowledgeRoom" (222 : Nat) "KnowledgeRoom$Likeness" "seen" "[J") ∈ xTG := xmem 240 (by decide +kernel) (by decide +kernel)
theorem fl_RX11_222 : xFL RX11 222 4 1 := ⟨_, _, _, cb_4, by decide, wd_240⟩
abbrev md_X11_contract : xMd := (yX11_contract, cX11_contract, 3, (some .int))
theorem wd_847 : (Jvm.Cond.code ({ cls := "KnowledgeRoom$Likeness", name := "difference", desc := "(LKnowledgeRoom$Worlds;II)I" } : Jvm.MethodName) prog_6_method_2_code (5 : Nat) (Option.some Jvm.ClassFile.FieldType.int)) ∈ xTG := xmem 847 (by decide +kernel) (by decide +kernel)
theorem cw_X4_difference : xcw md_X4_difference 3 := ⟨wd_847, wd_10, by decide +kernel, by decide⟩
theorem wd_844 : (Jvm.Cond.methodLink "KnowledgeRoom" (225 : Nat) ({ cls := "KnowledgeRoom$Likeness", name := "difference", desc := "(LKnowledgeRoom$Worlds;II)I" } : Jvm.MethodName)) ∈ xTG := xmem 844 (by decide +kernel) (by decide +kernel)
theorem wd_845 : (Jvm.Cond.instanceMethod ({ cls := "KnowledgeRoom$Likeness", name := "difference", desc := "(LKnowledgeRoom$Worlds;II)I" } : Jvm.MethodName)) ∈ xTG := xmem 845 (by decide +kernel) (by decide +kernel)
theorem wd_846 : (Jvm.Cond.selects "KnowledgeRoom$Likeness" ({ cls := "KnowledgeRoom$Likeness", name := "difference", desc := "(LKnowledgeRoom$Worlds;II)I" } : Jvm.MethodName) ({ cls := "KnowledgeRoom$Likeness", name := "difference", desc := "(LKnowledgeRoom$Worlds;II)I" } : Jvm.MethodName)) ∈ xTG := xmem 846 (by decide +kernel) (by decide +kernel)
theorem cv_RX11_225 : xCV RX11 225 md_X4_difference 4 3 := ⟨_, _, _, cb_4, rfl, cw_X4_difference, wd_844, wd_845, wd_846⟩
abbrev md_X11_differ : xMd := (yX11_differ, cX11_differ, 3, (some .int))
theorem wd_371 : (Jvm.Cond.fieldLink "KnowledgeRoom" (70 : Nat) "KnowledgeRoom" "reducer" "LKnowledgeRoom$Reducer;") ∈ xTG := xmem 371 (by decide +kernel) (by decide +kernel)
theorem fl_RX11_70 : xFL RX11 70 11 8 := ⟨_, _, _, cb_11, by decide, wd_371⟩
theorem wd_855 : (Jvm.Cond.code ({ cls := "KnowledgeRoom$Reducer", name := "apply", desc := "(LKnowledgeRoom$Formula;)I" } : Jvm.MethodName) prog_9_method_2_code (3 : Nat) (Option.some Jvm.ClassFile.FieldType.int)) ∈ xTG := xmem 855 (by decide +kernel) (by decide +kernel)
theorem cw_X7_apply : xcw md_X7_apply 1 := ⟨wd_855, wd_11, by decide +kernel, by decide⟩
theorem wd_852 : (Jvm.Cond.methodLink "KnowledgeRoom" (229 : Nat) ({ cls := "KnowledgeRoom$Reducer", name := "apply", desc := "(LKnowledgeRoom$Formula;)I" } : Jvm.MethodName)) ∈ xTG := xmem 852 (by decide +kernel) (by decide +kernel)
theorem wd_853 : (Jvm.Cond.instanceMethod ({ cls := "KnowledgeRoom$Reducer", name := "apply", desc := "(LKnowledgeRoom$Formula;)I" } : Jvm.MethodName)) ∈ xTG := xmem 853 (by decide +kernel) (by decide +kernel)
theorem wd_854 : (Jvm.Cond.selects "KnowledgeRoom$Reducer" ({ cls := "KnowledgeRoom$Reducer", name := "apply", desc := "(LKnowledgeRoom$Formula;)I" } : Jvm.MethodName) ({ cls := "KnowledgeRoom$Reducer", name := "apply", desc := "(LKnowledgeRoom$Formula;)I" } : Jvm.MethodName)) ∈ xTG := xmem 854 (by decide +kernel) (by decide +kernel)
theorem cv_RX11_229 : xCV RX11 229 md_X7_apply 7 1 := ⟨_, _, _, cb_7, rfl, cw_X7_apply, wd_852, wd_853, wd_854⟩
abbrev md_X11_reduce : xMd := (yX11_reduce, cX11_reduce, 2, (some .int))
theorem fl_RX11_232 : xFL RX11 232 11 14 := ⟨_, _, _, cb_11, by decide, wd_377⟩
theorem wd_372 : (Jvm.Cond.fieldLink "KnowledgeRoom" (77 : Nat) "KnowledgeRoom" "decider" "LKnowledgeRoom$Decider;") ∈ xTG := xmem 372 (by decide +kernel) (by decide +kernel)
theorem fl_RX11_77 : xFL RX11 77 11 9 := ⟨_, _, _, cb_11, by decide, wd_372⟩
theorem wd_972 : (Jvm.Cond.code ({ cls := "KnowledgeRoom$Decider", name := "work", desc := "(LKnowledgeRoom$Formula;)V" } : Jvm.MethodName) prog_2_method_2_code (3 : Nat) (Option.none : Option Jvm.ClassFile.FieldType)) ∈ xTG := xmem 972 (by decide +kernel) (by decide +kernel)
theorem cw_X0_work : xcw md_X0_work 1 := ⟨wd_972, wd_12, by decide +kernel, by decide⟩
theorem wd_969 : (Jvm.Cond.methodLink "KnowledgeRoom" (235 : Nat) ({ cls := "KnowledgeRoom$Decider", name := "work", desc := "(LKnowledgeRoom$Formula;)V" } : Jvm.MethodName)) ∈ xTG := xmem 969 (by decide +kernel) (by decide +kernel)
theorem wd_970 : (Jvm.Cond.instanceMethod ({ cls := "KnowledgeRoom$Decider", name := "work", desc := "(LKnowledgeRoom$Formula;)V" } : Jvm.MethodName)) ∈ xTG := xmem 970 (by decide +kernel) (by decide +kernel)
theorem wd_971 : (Jvm.Cond.selects "KnowledgeRoom$Decider" ({ cls := "KnowledgeRoom$Decider", name := "work", desc := "(LKnowledgeRoom$Formula;)V" } : Jvm.MethodName) ({ cls := "KnowledgeRoom$Decider", name := "work", desc := "(LKnowledgeRoom$Formula;)V" } : Jvm.MethodName)) ∈ xTG := xmem 971 (by decide +kernel) (by decide +kernel)
theorem cv_RX11_235 : xCV RX11 235 md_X0_work 0 1 := ⟨_, _, _, cb_0, rfl, cw_X0_work, wd_969, wd_970, wd_971⟩
theorem wd_328 : (Jvm.Cond.fieldLink "KnowledgeRoom" (239 : Nat) "KnowledgeRoom$Decider" "answers" "[I") ∈ xTG := xmem 328 (by decide +kernel) (by decide +kernel)
theorem fl_RX11_239 : xFL RX11 239 0 0 := ⟨_, _, _, cb_0, by decide, wd_328⟩
abbrev md_X11_decide : xMd := (yX11_decide, cX11_decide, 2, (some .int))
theorem wd_143 : (Jvm.Cond.fieldLink "KnowledgeRoom" (242 : Nat) "KnowledgeRoom$Reader" "size" "I") ∈ xTG := xmem 143 (by decide +kernel) (by decide +kernel)
theorem fl_RX11_242 : xFL RX11 242 6 1 := ⟨_, _, _, cb_6, by decide, wd_143⟩
theorem wd_374 : (Jvm.Cond.fieldLink "KnowledgeRoom" (85 : Nat) "KnowledgeRoom" "depths" "[I") ∈ xTG := xmem 374 (by decide +kernel) (by decide +kernel)
theorem fl_RX11_85 : xFL RX11 85 11 11 := ⟨_, _, _, cb_11, by decide, wd_374⟩
theorem wd_1082 : (Jvm.Cond.code ({ cls := "KnowledgeRoom$Formula", name := "depth", desc := "([I)I" } : Jvm.MethodName) prog_4_method_7_code (5 : Nat) (Option.some Jvm.ClassFile.FieldType.int)) ∈ xTG := xmem 1082 (by decide +kernel) (by decide +kernel)
theorem cw_X2_depth : xcw md_X2_depth 1 := ⟨wd_1082, wd_5, by decide +kernel, by decide⟩
theorem wd_1079 : (Jvm.Cond.methodLink "KnowledgeRoom" (243 : Nat) ({ cls := "KnowledgeRoom$Formula", name := "depth", desc := "([I)I" } : Jvm.MethodName)) ∈ xTG := xmem 1079 (by decide +kernel) (by decide +kernel)
theorem wd_1080 : (Jvm.Cond.instanceMethod ({ cls := "KnowledgeRoom$Formula", name := "depth", desc := "([I)I" } : Jvm.MethodName)) ∈ xTG := xmem 1080 (by decide +kernel) (by decide +kernel)
theorem wd_1081 : (Jvm.Cond.selects "KnowledgeRoom$Formula" ({ cls := "KnowledgeRoom$Formula", name := "depth", desc := "([I)I" } : Jvm.MethodName) ({ cls := "KnowledgeRoom$Formula", name := "depth", desc := "([I)I" } : Jvm.MethodName)) ∈ xTG := xmem 1081 (by decide +kernel) (by decide +kernel)
theorem cv_RX11_243 : xCV RX11 243 md_X2_depth 2 1 := ⟨_, _, _, cb_2, rfl, cw_X2_depth, wd_1079, wd_1080, wd_1081⟩
abbrev md_X11_count : xMd := (yX11_count, cX11_count, 2, (some .int))
abbrev md_X12_in : xMd := (yX12_in, cX12_in, 3, (some .boolean))
theorem cb_12 : xCB 12 RX12 TX12 (xnf 12) tyX12 := ⟨rfl, fun w h => List.mem_filter.mpr ⟨List.mem_append_right _ ((by decide +kernel : ∀ w ∈ u_ws RX12 TX12 (xnf 12), w ∈ tables_1) w h), (by decide +kernel : ∀ w ∈ u_ws RX12 TX12 (xnf 12), goodWord w = true) w h⟩, tyX12_ok, nmX12, by decide⟩
theorem wd_1151 : (Jvm.Cond.fieldLink "KnowledgeRoomModel" (7 : Nat) "KnowledgeRoomModel" "many" "I") ∈ xTG := xmem 1151 (by decide +kernel) (by decide +kernel)
theorem fl_RX12_7 : xFL RX12 7 12 1 := ⟨_, _, _, cb_12, by decide, wd_1151⟩
theorem wd_1092 : (Jvm.Cond.code ({ cls := "KnowledgeRoomModel", name := "in", desc := "(III)Z" } : Jvm.MethodName) prog_14_method_2_code (3 : Nat) (Option.some Jvm.ClassFile.FieldType.boolean)) ∈ xTG := xmem 1092 (by decide +kernel) (by decide +kernel)
theorem wd_14 : (Jvm.Cond.initialized "KnowledgeRoomModel") ∈ xTG := xmem 14 (by decide +kernel) (by decide +kernel)
theorem cw_X12_in : xcw md_X12_in 3 := ⟨wd_1092, wd_14, by decide +kernel, by decide⟩
theorem wd_1090 : (Jvm.Cond.methodLink "KnowledgeRoomModel" (10 : Nat) ({ cls := "KnowledgeRoomModel", name := "in", desc := "(III)Z" } : Jvm.MethodName)) ∈ xTG := xmem 1090 (by decide +kernel) (by decide +kernel)
theorem wd_1091 : (Jvm.Cond.static ({ cls := "KnowledgeRoomModel", name := "in", desc := "(III)Z" } : Jvm.MethodName)) ∈ xTG := xmem 1091 (by decide +kernel) (by decide +kernel)
theorem cs_RX12_10 : xCS RX12 10 md_X12_in 3 := ⟨cw_X12_in, wd_1090, wd_1091⟩
abbrev md_X12_isWorld : xMd := (yX12_isWorld, cX12_isWorld, 2, (some .boolean))
abbrev md_X12_isAgent : xMd := (yX12_isAgent, cX12_isAgent, 1, (some .boolean))
theorem wd_1153 : (Jvm.Cond.fieldLink "KnowledgeRoomModel" (14 : Nat) "KnowledgeRoomModel" "cells" "[I") ∈ xTG := xmem 1153 (by decide +kernel) (by decide +kernel)
theorem fl_RX12_14 : xFL RX12 14 12 3 := ⟨_, _, _, cb_12, by decide, wd_1153⟩
abbrev md_X12_cell : xMd := (yX12_cell, cX12_cell, 3, (some .int))
theorem wd_1112 : (Jvm.Cond.code ({ cls := "KnowledgeRoomModel", name := "cell", desc := "(II)I" } : Jvm.MethodName) prog_14_method_5_code (3 : Nat) (Option.some Jvm.ClassFile.FieldType.int)) ∈ xTG := xmem 1112 (by decide +kernel) (by decide +kernel)
theorem cw_X12_cell : xcw md_X12_cell 2 := ⟨wd_1112, wd_14, by decide +kernel, by decide⟩
theorem wd_1109 : (Jvm.Cond.methodLink "KnowledgeRoomModel" (18 : Nat) ({ cls := "KnowledgeRoomModel", name := "cell", desc := "(II)I" } : Jvm.MethodName)) ∈ xTG := xmem 1109 (by decide +kernel) (by decide +kernel)
theorem wd_1111 : (Jvm.Cond.instanceMethod ({ cls := "KnowledgeRoomModel", name := "cell", desc := "(II)I" } : Jvm.MethodName)) ∈ xTG := xmem 1111 (by decide +kernel) (by decide +kernel)
theorem ws_60 : Cond.selects "KnowledgeRoomModel" ⟨"KnowledgeRoomModel", "cell", "(II)I"⟩ ⟨"KnowledgeRoomModel", "cell", "(II)I"⟩ ∈ xTG := xmemP 60 (by decide +kernel) (by decide +kernel)
theorem cv_RX12_18 : xCV RX12 18 md_X12_cell 12 2 := ⟨_, _, _, cb_12, rfl, cw_X12_cell, wd_1109, wd_1111, ws_60⟩
abbrev md_X12_cellOf : xMd := (yX12_cellOf, cX12_cellOf, 6, (some .long))
abbrev md_X12_least : xMd := (yX12_least, cX12_least, 3, (some .int))
abbrev md_X12_size : xMd := (yX12_size, cX12_size, 4, (some .int))
theorem wd_1119 : (Jvm.Cond.code ({ cls := "KnowledgeRoomModel", name := "least", desc := "(J)I" } : Jvm.MethodName) prog_14_method_7_code (3 : Nat) (Option.some Jvm.ClassFile.FieldType.int)) ∈ xTG := xmem 1119 (by decide +kernel) (by decide +kernel)
theorem cw_X12_least : xcw md_X12_least 1 := ⟨wd_1119, wd_14, by decide +kernel, by decide⟩
theorem wd_1117 : (Jvm.Cond.methodLink "KnowledgeRoomModel" (22 : Nat) ({ cls := "KnowledgeRoomModel", name := "least", desc := "(J)I" } : Jvm.MethodName)) ∈ xTG := xmem 1117 (by decide +kernel) (by decide +kernel)
theorem wd_1118 : (Jvm.Cond.static ({ cls := "KnowledgeRoomModel", name := "least", desc := "(J)I" } : Jvm.MethodName)) ∈ xTG := xmem 1118 (by decide +kernel) (by decide +kernel)
theorem cs_RX12_22 : xCS RX12 22 md_X12_least 1 := ⟨cw_X12_least, wd_1117, wd_1118⟩
abbrev md_X12_gather : xMd := (yX12_gather, cX12_gather, 6, none)
theorem wd_1127 : (Jvm.Cond.constantLong "KnowledgeRoomModel" (26 : Nat) (-1 : Int64)) ∈ xTG := xmem 1127 (by decide +kernel) (by decide +kernel)
abbrev md_X12_all : xMd := (yX12_all, cX12_all, 1, (some .long))
theorem wd_1157 : (Jvm.Cond.fieldLink "KnowledgeRoomModel" (28 : Nat) "KnowledgeRoomModel" "kept" "I") ∈ xTG := xmem 1157 (by decide +kernel) (by decide +kernel)
theorem fp_RX12_28 : xFP RX12 28 12 7 .int := ⟨_, _, _, cb_12, by decide, wd_1157, rfl, rfl⟩
theorem wd_1152 : (Jvm.Cond.fieldLink "KnowledgeRoomModel" (31 : Nat) "KnowledgeRoomModel" "atoms" "[I") ∈ xTG := xmem 1152 (by decide +kernel) (by decide +kernel)
theorem fl_RX12_31 : xFL RX12 31 12 2 := ⟨_, _, _, cb_12, by decide, wd_1152⟩
theorem fp_RX12_7 : xFP RX12 7 12 1 .int := ⟨_, _, _, cb_12, by decide, wd_1151, rfl, rfl⟩
abbrev md_X12_world : xMd := (yX12_world, cX12_world, 3, (some .int))
theorem wd_1099 : (Jvm.Cond.code ({ cls := "KnowledgeRoomModel", name := "isAgent", desc := "(I)Z" } : Jvm.MethodName) prog_14_method_4_code (1 : Nat) (Option.some Jvm.ClassFile.FieldType.boolean)) ∈ xTG := xmem 1099 (by decide +kernel) (by decide +kernel)
theorem cw_X12_isAgent : xcw md_X12_isAgent 1 := ⟨wd_1099, wd_14, by decide +kernel, by decide⟩
theorem wd_1097 : (Jvm.Cond.methodLink "KnowledgeRoomModel" (34 : Nat) ({ cls := "KnowledgeRoomModel", name := "isAgent", desc := "(I)Z" } : Jvm.MethodName)) ∈ xTG := xmem 1097 (by decide +kernel) (by decide +kernel)
theorem wd_1098 : (Jvm.Cond.static ({ cls := "KnowledgeRoomModel", name := "isAgent", desc := "(I)Z" } : Jvm.MethodName)) ∈ xTG := xmem 1098 (by decide +kernel) (by decide +kernel)
theorem cs_RX12_34 : xCS RX12 34 md_X12_isAgent 1 := ⟨cw_X12_isAgent, wd_1097, wd_1098⟩
theorem wd_1104 : (Jvm.Cond.code ({ cls := "KnowledgeRoomModel", name := "isWorld", desc := "(I)Z" } : Jvm.MethodName) prog_14_method_3_code (2 : Nat) (Option.some Jvm.ClassFile.FieldType.boolean)) ∈ xTG := xmem 1104 (by decide +kernel) (by decide +kernel)
theorem cw_X12_isWorld : xcw md_X12_isWorld 1 := ⟨wd_1104, wd_14, by decide +kernel, by decide⟩
theorem wd_1100 : (Jvm.Cond.methodLink "KnowledgeRoomModel" (38 : Nat) ({ cls := "KnowledgeRoomModel", name := "isWorld", desc := "(I)Z" } : Jvm.MethodName)) ∈ xTG := xmem 1100 (by decide +kernel) (by decide +kernel)
theorem wd_1102 : (Jvm.Cond.instanceMethod ({ cls := "KnowledgeRoomModel", name := "isWorld", desc := "(I)Z" } : Jvm.MethodName)) ∈ xTG := xmem 1102 (by decide +kernel) (by decide +kernel)
theorem ws_58 : Cond.selects "KnowledgeRoomModel" ⟨"KnowledgeRoomModel", "isWorld", "(I)Z"⟩ ⟨"KnowledgeRoomModel", "isWorld", "(I)Z"⟩ ∈ xTG := xmemP 58 (by decide +kernel) (by decide +kernel)
theorem cv_RX12_38 : xCV RX12 38 md_X12_isWorld 12 1 := ⟨_, _, _, cb_12, rfl, cw_X12_isWorld, wd_1100, wd_1102, ws_58⟩
theorem wd_1108 : (Jvm.Cond.code ({ cls := "KnowledgeRoomModel", name := "cellOf", desc := "(II)J" } : Jvm.MethodName) prog_14_method_6_code (6 : Nat) (Option.some Jvm.ClassFile.FieldType.long)) ∈ xTG := xmem 1108 (by decide +kernel) (by decide +kernel)
theorem cw_X12_cellOf : xcw md_X12_cellOf 2 := ⟨wd_1108, wd_14, by decide +kernel, by decide⟩
theorem wd_1105 : (Jvm.Cond.methodLink "KnowledgeRoomModel" (41 : Nat) ({ cls := "KnowledgeRoomModel", name := "cellOf", desc := "(II)J" } : Jvm.MethodName)) ∈ xTG := xmem 1105 (by decide +kernel) (by decide +kernel)
theorem wd_1107 : (Jvm.Cond.instanceMethod ({ cls := "KnowledgeRoomModel", name := "cellOf", desc := "(II)J" } : Jvm.MethodName)) ∈ xTG := xmem 1107 (by decide +kernel) (by decide +kernel)
theorem ws_59 : Cond.selects "KnowledgeRoomModel" ⟨"KnowledgeRoomModel", "cellOf", "(II)J"⟩ ⟨"KnowledgeRoomModel", "cellOf", "(II)J"⟩ ∈ xTG := xmemP 59 (by decide +kernel) (by decide +kernel)
theorem cv_RX12_41 : xCV RX12 41 md_X12_cellOf 12 2 := ⟨_, _, _, cb_12, rfl, cw_X12_cellOf, wd_1105, wd_1107, ws_59⟩
theorem wd_1116 : (Jvm.Cond.code ({ cls := "KnowledgeRoomModel", name := "gather", desc := "(IJ)V" } : Jvm.MethodName) prog_14_method_9_code (6 : Nat) (Option.none : Option Jvm.ClassFile.FieldType)) ∈ xTG := xmem 1116 (by decide +kernel) (by decide +kernel)
theorem cw_X12_gather : xcw md_X12_gather 2 := ⟨wd_1116, wd_14, by decide +kernel, by decide⟩
theorem wd_1113 : (Jvm.Cond.methodLink "KnowledgeRoomModel" (45 : Nat) ({ cls := "KnowledgeRoomModel", name := "gather", desc := "(IJ)V" } : Jvm.MethodName)) ∈ xTG := xmem 1113 (by decide +kernel) (by decide +kernel)
theorem wd_1115 : (Jvm.Cond.instanceMethod ({ cls := "KnowledgeRoomModel", name := "gather", desc := "(IJ)V" } : Jvm.MethodName)) ∈ xTG := xmem 1115 (by decide +kernel) (by decide +kernel)
theorem ws_61 : Cond.selects "KnowledgeRoomModel" ⟨"KnowledgeRoomModel", "gather", "(IJ)V"⟩ ⟨"KnowledgeRoomModel", "gather", "(IJ)V"⟩ ∈ xTG := xmemP 61 (by decide +kernel) (by decide +kernel)
theorem cv_RX12_45 : xCV RX12 45 md_X12_gather 12 2 := ⟨_, _, _, cb_12, rfl, cw_X12_gather, wd_1113, wd_1115, ws_61⟩
theorem wd_1122 : (Jvm.Cond.code ({ cls := "KnowledgeRoomModel", name := "size", desc := "(J)I" } : Jvm.MethodName) prog_14_method_8_code (4 : Nat) (Option.some Jvm.ClassFile.FieldType.int)) ∈ xTG := xmem 1122 (by decide +kernel) (by decide +kernel)
theorem cw_X12_size : xcw md_X12_size 1 := ⟨wd_1122, wd_14, by decide +kernel, by decide⟩
theorem wd_1120 : (Jvm.Cond.methodLink "KnowledgeRoomModel" (49 : Nat) ({ cls := "KnowledgeRoomModel", name := "size", desc := "(J)I" } : Jvm.MethodName)) ∈ xTG := xmem 1120 (by decide +kernel) (by decide +kernel)
theorem wd_1121 : (Jvm.Cond.static ({ cls := "KnowledgeRoomModel", name := "size", desc := "(J)I" } : Jvm.MethodName)) ∈ xTG := xmem 1121 (by decide +kernel) (by decide +kernel)
theorem cs_RX12_49 : xCS RX12 49 md_X12_size 1 := ⟨cw_X12_size, wd_1120, wd_1121⟩
abbrev md_X12_tie : xMd := (yX12_tie, cX12_tie, 6, (some .int))
abbrev md_X12_alone : xMd := (yX12_alone, cX12_alone, 5, (some .int))
abbrev md_X12_atom : xMd := (yX12_atom, cX12_atom, 5, (some .int))
abbrev md_X12_told : xMd := (yX12_told, cX12_told, 3, (some .int))
theorem wd_1154 : (Jvm.Cond.fieldLink "KnowledgeRoomModel" (56 : Nat) "KnowledgeRoomModel" "keptMany" "[I") ∈ xTG := xmem 1154 (by decide +kernel) (by decide +kernel)
theorem fl_RX12_56 : xFL RX12 56 12 4 := ⟨_, _, _, cb_12, by decide, wd_1154⟩
theorem wd_1155 : (Jvm.Cond.fieldLink "KnowledgeRoomModel" (59 : Nat) "KnowledgeRoomModel" "keptAtoms" "[I") ∈ xTG := xmem 1155 (by decide +kernel) (by decide +kernel)
theorem fl_RX12_59 : xFL RX12 59 12 5 := ⟨_, _, _, cb_12, by decide, wd_1155⟩
theorem wd_1156 : (Jvm.Cond.fieldLink "KnowledgeRoomModel" (62 : Nat) "KnowledgeRoomModel" "keptCells" "[I") ∈ xTG := xmem 1156 (by decide +kernel) (by decide +kernel)
theorem fl_RX12_62 : xFL RX12 62 12 6 := ⟨_, _, _, cb_12, by decide, wd_1156⟩
abbrev md_X12_moveKept : xMd := (yX12_moveKept, cX12_moveKept, 4, none)
theorem fl_RX12_28 : xFL RX12 28 12 7 := ⟨_, _, _, cb_12, by decide, wd_1157⟩
theorem wd_1423 : (Jvm.Cond.code ({ cls := "KnowledgeRoomModel", name := "moveKept", desc := "(II)V" } : Jvm.MethodName) prog_14_method_17_code (4 : Nat) (Option.none : Option Jvm.ClassFile.FieldType)) ∈ xTG := xmem 1423 (by decide +kernel) (by decide +kernel)
theorem cw_X12_moveKept : xcw md_X12_moveKept 2 := ⟨wd_1423, wd_14, by decide +kernel, by decide⟩
theorem wd_1420 : (Jvm.Cond.methodLink "KnowledgeRoomModel" (52 : Nat) ({ cls := "KnowledgeRoomModel", name := "moveKept", desc := "(II)V" } : Jvm.MethodName)) ∈ xTG := xmem 1420 (by decide +kernel) (by decide +kernel)
theorem wd_1422 : (Jvm.Cond.instanceMethod ({ cls := "KnowledgeRoomModel", name := "moveKept", desc := "(II)V" } : Jvm.MethodName)) ∈ xTG := xmem 1422 (by decide +kernel) (by decide +kernel)
theorem ws_84 : Cond.selects "KnowledgeRoomModel" ⟨"KnowledgeRoomModel", "moveKept", "(II)V"⟩ ⟨"KnowledgeRoomModel", "moveKept", "(II)V"⟩ ∈ xTG := xmemP 84 (by decide +kernel) (by decide +kernel)
theorem cv_RX12_52 : xCV RX12 52 md_X12_moveKept 12 2 := ⟨_, _, _, cb_12, rfl, cw_X12_moveKept, wd_1420, wd_1422, ws_84⟩
abbrev md_X12_keep : xMd := (yX12_keep, cX12_keep, 2, none)
abbrev md_X12_back : xMd := (yX12_back, cX12_back, 2, (some .int))
theorem wd_1158 : (Jvm.Cond.fieldLink "KnowledgeRoomModel" (72 : Nat) "KnowledgeRoomModel" "sorts" "[I") ∈ xTG := xmem 1158 (by decide +kernel) (by decide +kernel)
theorem fl_RX12_72 : xFL RX12 72 12 8 := ⟨_, _, _, cb_12, by decide, wd_1158⟩
theorem wd_1163 : (Jvm.Cond.fieldLink "KnowledgeRoomModel" (153 : Nat) "KnowledgeRoomModel" "top" "I") ∈ xTG := xmem 1163 (by decide +kernel) (by decide +kernel)
theorem fl_RX12_153 : xFL RX12 153 12 13 := ⟨_, _, _, cb_12, by decide, wd_1163⟩
theorem wd_1159 : (Jvm.Cond.fieldLink "KnowledgeRoomModel" (75 : Nat) "KnowledgeRoomModel" "lefts" "[I") ∈ xTG := xmem 1159 (by decide +kernel) (by decide +kernel)
theorem fl_RX12_75 : xFL RX12 75 12 9 := ⟨_, _, _, cb_12, by decide, wd_1159⟩
theorem wd_1160 : (Jvm.Cond.fieldLink "KnowledgeRoomModel" (78 : Nat) "KnowledgeRoomModel" "rights" "[I") ∈ xTG := xmem 1160 (by decide +kernel) (by decide +kernel)
theorem fl_RX12_78 : xFL RX12 78 12 10 := ⟨_, _, _, cb_12, by decide, wd_1160⟩
theorem wd_1161 : (Jvm.Cond.fieldLink "KnowledgeRoomModel" (81 : Nat) "KnowledgeRoomModel" "marks" "[I") ∈ xTG := xmem 1161 (by decide +kernel) (by decide +kernel)
theorem fl_RX12_81 : xFL RX12 81 12 11 := ⟨_, _, _, cb_12, by decide, wd_1161⟩
theorem wd_1162 : (Jvm.Cond.fieldLink "KnowledgeRoomModel" (84 : Nat) "KnowledgeRoomModel" "sizes" "[I") ∈ xTG := xmem 1162 (by decide +kernel) (by decide +kernel)
theorem fl_RX12_84 : xFL RX12 84 12 12 := ⟨_, _, _, cb_12, by decide, wd_1162⟩
theorem wd_1150 : (Jvm.Cond.constant "KnowledgeRoomModel" (163 : Nat) (1000000 : Int32)) ∈ xTG := xmem 1150 (by decide +kernel) (by decide +kernel)
theorem fp_RX12_153 : xFP RX12 153 12 13 .int := ⟨_, _, _, cb_12, by decide, wd_1163, rfl, rfl⟩
abbrev md_X12_node : xMd := (yX12_node, cX12_node, 6, (some .int))
abbrev md_X12_copied : xMd := (yX12_copied, cX12_copied, 4, (some .int))
theorem wd_1342 : (Jvm.Cond.code ({ cls := "KnowledgeRoomModel", name := "copied", desc := "(I)I" } : Jvm.MethodName) prog_14_method_21_code (4 : Nat) (Option.some Jvm.ClassFile.FieldType.int)) ∈ xTG := xmem 1342 (by decide +kernel) (by decide +kernel)
theorem cw_X12_copied : xcw md_X12_copied 1 := ⟨wd_1342, wd_14, by decide +kernel, by decide⟩
theorem wd_1339 : (Jvm.Cond.methodLink "KnowledgeRoomModel" (164 : Nat) ({ cls := "KnowledgeRoomModel", name := "copied", desc := "(I)I" } : Jvm.MethodName)) ∈ xTG := xmem 1339 (by decide +kernel) (by decide +kernel)
theorem wd_1341 : (Jvm.Cond.instanceMethod ({ cls := "KnowledgeRoomModel", name := "copied", desc := "(I)I" } : Jvm.MethodName)) ∈ xTG := xmem 1341 (by decide +kernel) (by decide +kernel)
theorem ws_74 : Cond.selects "KnowledgeRoomModel" ⟨"KnowledgeRoomModel", "copied", "(I)I"⟩ ⟨"KnowledgeRoomModel", "copied", "(I)I"⟩ ∈ xTG := xmemP 74 (by decide +kernel) (by decide +kernel)
theorem cv_RX12_164 : xCV RX12 164 md_X12_copied 12 1 := ⟨_, _, _, cb_12, rfl, cw_X12_copied, wd_1339, wd_1341, ws_74⟩
theorem wd_1149 : (Jvm.Cond.code ({ cls := "KnowledgeRoomModel", name := "node", desc := "(IIII)I" } : Jvm.MethodName) prog_14_method_20_code (6 : Nat) (Option.some Jvm.ClassFile.FieldType.int)) ∈ xTG := xmem 1149 (by decide +kernel) (by decide +kernel)
theorem cw_X12_node : xcw md_X12_node 4 := ⟨wd_1149, wd_14, by decide +kernel, by decide⟩
theorem wd_1146 : (Jvm.Cond.methodLink "KnowledgeRoomModel" (156 : Nat) ({ cls := "KnowledgeRoomModel", name := "node", desc := "(IIII)I" } : Jvm.MethodName)) ∈ xTG := xmem 1146 (by decide +kernel) (by decide +kernel)
theorem wd_1148 : (Jvm.Cond.instanceMethod ({ cls := "KnowledgeRoomModel", name := "node", desc := "(IIII)I" } : Jvm.MethodName)) ∈ xTG := xmem 1148 (by decide +kernel) (by decide +kernel)
theorem ws_62 : Cond.selects "KnowledgeRoomModel" ⟨"KnowledgeRoomModel", "node", "(IIII)I"⟩ ⟨"KnowledgeRoomModel", "node", "(IIII)I"⟩ ∈ xTG := xmemP 62 (by decide +kernel) (by decide +kernel)
theorem cv_RX12_156 : xCV RX12 156 md_X12_node 12 4 := ⟨_, _, _, cb_12, rfl, cw_X12_node, wd_1146, wd_1148, ws_62⟩
abbrev md_X12_laid : xMd := (yX12_laid, cX12_laid, 6, (some .int))
theorem wd_1166 : (Jvm.Cond.fieldLink "KnowledgeRoomModel" (168 : Nat) "KnowledgeRoomModel" "collected" "I") ∈ xTG := xmem 1166 (by decide +kernel) (by decide +kernel)
theorem fl_RX12_168 : xFL RX12 168 12 16 := ⟨_, _, _, cb_12, by decide, wd_1166⟩
theorem wd_1165 : (Jvm.Cond.fieldLink "KnowledgeRoomModel" (87 : Nat) "KnowledgeRoomModel" "signs" "[B") ∈ xTG := xmem 1165 (by decide +kernel) (by decide +kernel)
theorem fl_RX12_87 : xFL RX12 87 12 15 := ⟨_, _, _, cb_12, by decide, wd_1165⟩
theorem fp_RX12_168 : xFP RX12 168 12 16 .int := ⟨_, _, _, cb_12, by decide, wd_1166, rfl, rfl⟩
abbrev md_X12_type : xMd := (yX12_type, cX12_type, 2, (some .int))
abbrev md_X12_four : xMd := (yX12_four, cX12_four, 5, (some .int))
theorem wd_1167 : (Jvm.Cond.fieldLink "KnowledgeRoomModel" (171 : Nat) "KnowledgeRoomModel" "at" "I") ∈ xTG := xmem 1167 (by decide +kernel) (by decide +kernel)
theorem fl_RX12_171 : xFL RX12 171 12 17 := ⟨_, _, _, cb_12, by decide, wd_1167⟩
theorem fp_RX12_171 : xFP RX12 171 12 17 .int := ⟨_, _, _, cb_12, by decide, wd_1167, rfl, rfl⟩
abbrev md_X12_look : xMd := (yX12_look, cX12_look, 1, (some .int))
theorem wd_1168 : (Jvm.Cond.fieldLink "KnowledgeRoomModel" (174 : Nat) "KnowledgeRoomModel" "fault" "I") ∈ xTG := xmem 1168 (by decide +kernel) (by decide +kernel)
theorem fl_RX12_174 : xFL RX12 174 12 18 := ⟨_, _, _, cb_12, by decide, wd_1168⟩
theorem fp_RX12_174 : xFP RX12 174 12 18 .int := ⟨_, _, _, cb_12, by decide, wd_1168, rfl, rfl⟩
abbrev md_X12_bad : xMd := (yX12_bad, cX12_bad, 1, (some .int))
theorem wd_1169 : (Jvm.Cond.fieldLink "KnowledgeRoomModel" (177 : Nat) "KnowledgeRoomModel" "nodes" "I") ∈ xTG := xmem 1169 (by decide +kernel) (by decide +kernel)
theorem fl_RX12_177 : xFL RX12 177 12 19 := ⟨_, _, _, cb_12, by decide, wd_1169⟩
theorem wd_1322 : (Jvm.Cond.code ({ cls := "KnowledgeRoomModel", name := "bad", desc := "()I" } : Jvm.MethodName) prog_14_method_26_code (1 : Nat) (Option.some Jvm.ClassFile.FieldType.int)) ∈ xTG := xmem 1322 (by decide +kernel) (by decide +kernel)
theorem cw_X12_bad : xcw md_X12_bad 0 := ⟨wd_1322, wd_14, by decide +kernel, by decide⟩
theorem wd_1319 : (Jvm.Cond.methodLink "KnowledgeRoomModel" (180 : Nat) ({ cls := "KnowledgeRoomModel", name := "bad", desc := "()I" } : Jvm.MethodName)) ∈ xTG := xmem 1319 (by decide +kernel) (by decide +kernel)
theorem wd_1321 : (Jvm.Cond.instanceMethod ({ cls := "KnowledgeRoomModel", name := "bad", desc := "()I" } : Jvm.MethodName)) ∈ xTG := xmem 1321 (by decide +kernel) (by decide +kernel)
theorem ws_69 : Cond.selects "KnowledgeRoomModel" ⟨"KnowledgeRoomModel", "bad", "()I"⟩ ⟨"KnowledgeRoomModel", "bad", "()I"⟩ ∈ xTG := xmemP 69 (by decide +kernel) (by decide +kernel)
theorem cv_RX12_180 : xCV RX12 180 md_X12_bad 12 0 := ⟨_, _, _, cb_12, rfl, cw_X12_bad, wd_1319, wd_1321, ws_69⟩
theorem fp_RX12_177 : xFP RX12 177 12 19 .int := ⟨_, _, _, cb_12, by decide, wd_1169, rfl, rfl⟩
abbrev md_X12_counts : xMd := (yX12_counts, cX12_counts, 1, none)
theorem wd_1318 : (Jvm.Cond.code ({ cls := "KnowledgeRoomModel", name := "look", desc := "()I" } : Jvm.MethodName) prog_14_method_25_code (1 : Nat) (Option.some Jvm.ClassFile.FieldType.int)) ∈ xTG := xmem 1318 (by decide +kernel) (by decide +kernel)
theorem cw_X12_look : xcw md_X12_look 0 := ⟨wd_1318, wd_14, by decide +kernel, by decide⟩
theorem wd_1315 : (Jvm.Cond.methodLink "KnowledgeRoomModel" (184 : Nat) ({ cls := "KnowledgeRoomModel", name := "look", desc := "()I" } : Jvm.MethodName)) ∈ xTG := xmem 1315 (by decide +kernel) (by decide +kernel)
theorem wd_1317 : (Jvm.Cond.instanceMethod ({ cls := "KnowledgeRoomModel", name := "look", desc := "()I" } : Jvm.MethodName)) ∈ xTG := xmem 1317 (by decide +kernel) (by decide +kernel)
theorem ws_68 : Cond.selects "KnowledgeRoomModel" ⟨"KnowledgeRoomModel", "look", "()I"⟩ ⟨"KnowledgeRoomModel", "look", "()I"⟩ ∈ xTG := xmemP 68 (by decide +kernel) (by decide +kernel)
theorem cv_RX12_184 : xCV RX12 184 md_X12_look 12 0 := ⟨_, _, _, cb_12, rfl, cw_X12_look, wd_1315, wd_1317, ws_68⟩
abbrev md_X12_must : xMd := (yX12_must, cX12_must, 2, none)
abbrev md_X12_group : xMd := (yX12_group, cX12_group, 5, (some .int))
abbrev md_X12_implied : xMd := (yX12_implied, cX12_implied, 4, (some .int))
theorem wd_1302 : (Jvm.Cond.code ({ cls := "KnowledgeRoomModel", name := "implied", desc := "(I)I" } : Jvm.MethodName) prog_14_method_30_code (4 : Nat) (Option.some Jvm.ClassFile.FieldType.int)) ∈ xTG := xmem 1302 (by decide +kernel) (by decide +kernel)
theorem cw_X12_implied : xcw md_X12_implied 1 := ⟨wd_1302, wd_14, by decide +kernel, by decide⟩
theorem wd_1299 : (Jvm.Cond.methodLink "KnowledgeRoomModel" (187 : Nat) ({ cls := "KnowledgeRoomModel", name := "implied", desc := "(I)I" } : Jvm.MethodName)) ∈ xTG := xmem 1299 (by decide +kernel) (by decide +kernel)
theorem wd_1301 : (Jvm.Cond.instanceMethod ({ cls := "KnowledgeRoomModel", name := "implied", desc := "(I)I" } : Jvm.MethodName)) ∈ xTG := xmem 1301 (by decide +kernel) (by decide +kernel)
theorem ws_64 : Cond.selects "KnowledgeRoomModel" ⟨"KnowledgeRoomModel", "implied", "(I)I"⟩ ⟨"KnowledgeRoomModel", "implied", "(I)I"⟩ ∈ xTG := xmemP 64 (by decide +kernel) (by decide +kernel)
theorem cv_RX12_187 : xCV RX12 187 md_X12_implied 12 1 := ⟨_, _, _, cb_12, rfl, cw_X12_implied, wd_1299, wd_1301, ws_64⟩
theorem wd_1326 : (Jvm.Cond.code ({ cls := "KnowledgeRoomModel", name := "counts", desc := "()V" } : Jvm.MethodName) prog_14_method_27_code (1 : Nat) (Option.none : Option Jvm.ClassFile.FieldType)) ∈ xTG := xmem 1326 (by decide +kernel) (by decide +kernel)
theorem cw_X12_counts : xcw md_X12_counts 0 := ⟨wd_1326, wd_14, by decide +kernel, by decide⟩
theorem wd_1323 : (Jvm.Cond.methodLink "KnowledgeRoomModel" (190 : Nat) ({ cls := "KnowledgeRoomModel", name := "counts", desc := "()V" } : Jvm.MethodName)) ∈ xTG := xmem 1323 (by decide +kernel) (by decide +kernel)
theorem wd_1325 : (Jvm.Cond.instanceMethod ({ cls := "KnowledgeRoomModel", name := "counts", desc := "()V" } : Jvm.MethodName)) ∈ xTG := xmem 1325 (by decide +kernel) (by decide +kernel)
theorem ws_70 : Cond.selects "KnowledgeRoomModel" ⟨"KnowledgeRoomModel", "counts", "()V"⟩ ⟨"KnowledgeRoomModel", "counts", "()V"⟩ ∈ xTG := xmemP 70 (by decide +kernel) (by decide +kernel)
theorem cv_RX12_190 : xCV RX12 190 md_X12_counts 12 0 := ⟨_, _, _, cb_12, rfl, cw_X12_counts, wd_1323, wd_1325, ws_70⟩
theorem wd_1330 : (Jvm.Cond.code ({ cls := "KnowledgeRoomModel", name := "must", desc := "(I)V" } : Jvm.MethodName) prog_14_method_28_code (2 : Nat) (Option.none : Option Jvm.ClassFile.FieldType)) ∈ xTG := xmem 1330 (by decide +kernel) (by decide +kernel)
theorem cw_X12_must : xcw md_X12_must 1 := ⟨wd_1330, wd_14, by decide +kernel, by decide⟩
theorem wd_1327 : (Jvm.Cond.methodLink "KnowledgeRoomModel" (193 : Nat) ({ cls := "KnowledgeRoomModel", name := "must", desc := "(I)V" } : Jvm.MethodName)) ∈ xTG := xmem 1327 (by decide +kernel) (by decide +kernel)
theorem wd_1329 : (Jvm.Cond.instanceMethod ({ cls := "KnowledgeRoomModel", name := "must", desc := "(I)V" } : Jvm.MethodName)) ∈ xTG := xmem 1329 (by decide +kernel) (by decide +kernel)
theorem ws_71 : Cond.selects "KnowledgeRoomModel" ⟨"KnowledgeRoomModel", "must", "(I)V"⟩ ⟨"KnowledgeRoomModel", "must", "(I)V"⟩ ∈ xTG := xmemP 71 (by decide +kernel) (by decide +kernel)
theorem cv_RX12_193 : xCV RX12 193 md_X12_must 12 1 := ⟨_, _, _, cb_12, rfl, cw_X12_must, wd_1327, wd_1329, ws_71⟩
abbrev md_X12_either : xMd := (yX12_either, cX12_either, 4, (some .int))
theorem wd_1306 : (Jvm.Cond.code ({ cls := "KnowledgeRoomModel", name := "either", desc := "(I)I" } : Jvm.MethodName) prog_14_method_31_code (4 : Nat) (Option.some Jvm.ClassFile.FieldType.int)) ∈ xTG := xmem 1306 (by decide +kernel) (by decide +kernel)
theorem cw_X12_either : xcw md_X12_either 1 := ⟨wd_1306, wd_14, by decide +kernel, by decide⟩
theorem wd_1303 : (Jvm.Cond.methodLink "KnowledgeRoomModel" (197 : Nat) ({ cls := "KnowledgeRoomModel", name := "either", desc := "(I)I" } : Jvm.MethodName)) ∈ xTG := xmem 1303 (by decide +kernel) (by decide +kernel)
theorem wd_1305 : (Jvm.Cond.instanceMethod ({ cls := "KnowledgeRoomModel", name := "either", desc := "(I)I" } : Jvm.MethodName)) ∈ xTG := xmem 1305 (by decide +kernel) (by decide +kernel)
theorem ws_65 : Cond.selects "KnowledgeRoomModel" ⟨"KnowledgeRoomModel", "either", "(I)I"⟩ ⟨"KnowledgeRoomModel", "either", "(I)I"⟩ ∈ xTG := xmemP 65 (by decide +kernel) (by decide +kernel)
theorem cv_RX12_197 : xCV RX12 197 md_X12_either 12 1 := ⟨_, _, _, cb_12, rfl, cw_X12_either, wd_1303, wd_1305, ws_65⟩
abbrev md_X12_both : xMd := (yX12_both, cX12_both, 4, (some .int))
theorem wd_1310 : (Jvm.Cond.code ({ cls := "KnowledgeRoomModel", name := "both", desc := "(I)I" } : Jvm.MethodName) prog_14_method_32_code (4 : Nat) (Option.some Jvm.ClassFile.FieldType.int)) ∈ xTG := xmem 1310 (by decide +kernel) (by decide +kernel)
theorem cw_X12_both : xcw md_X12_both 1 := ⟨wd_1310, wd_14, by decide +kernel, by decide⟩
theorem wd_1307 : (Jvm.Cond.methodLink "KnowledgeRoomModel" (200 : Nat) ({ cls := "KnowledgeRoomModel", name := "both", desc := "(I)I" } : Jvm.MethodName)) ∈ xTG := xmem 1307 (by decide +kernel) (by decide +kernel)
theorem wd_1309 : (Jvm.Cond.instanceMethod ({ cls := "KnowledgeRoomModel", name := "both", desc := "(I)I" } : Jvm.MethodName)) ∈ xTG := xmem 1309 (by decide +kernel) (by decide +kernel)
theorem ws_66 : Cond.selects "KnowledgeRoomModel" ⟨"KnowledgeRoomModel", "both", "(I)I"⟩ ⟨"KnowledgeRoomModel", "both", "(I)I"⟩ ∈ xTG := xmemP 66 (by decide +kernel) (by decide +kernel)
theorem cv_RX12_200 : xCV RX12 200 md_X12_both 12 1 := ⟨_, _, _, cb_12, rfl, cw_X12_both, wd_1307, wd_1309, ws_66⟩
abbrev md_X12_one : xMd := (yX12_one, cX12_one, 7, (some .int))
theorem wd_1314 : (Jvm.Cond.code ({ cls := "KnowledgeRoomModel", name := "one", desc := "(II)I" } : Jvm.MethodName) prog_14_method_34_code (7 : Nat) (Option.some Jvm.ClassFile.FieldType.int)) ∈ xTG := xmem 1314 (by decide +kernel) (by decide +kernel)
theorem cw_X12_one : xcw md_X12_one 2 := ⟨wd_1314, wd_14, by decide +kernel, by decide⟩
theorem wd_1311 : (Jvm.Cond.methodLink "KnowledgeRoomModel" (203 : Nat) ({ cls := "KnowledgeRoomModel", name := "one", desc := "(II)I" } : Jvm.MethodName)) ∈ xTG := xmem 1311 (by decide +kernel) (by decide +kernel)
theorem wd_1313 : (Jvm.Cond.instanceMethod ({ cls := "KnowledgeRoomModel", name := "one", desc := "(II)I" } : Jvm.MethodName)) ∈ xTG := xmem 1313 (by decide +kernel) (by decide +kernel)
theorem ws_67 : Cond.selects "KnowledgeRoomModel" ⟨"KnowledgeRoomModel", "one", "(II)I"⟩ ⟨"KnowledgeRoomModel", "one", "(II)I"⟩ ∈ xTG := xmemP 67 (by decide +kernel) (by decide +kernel)
theorem cv_RX12_203 : xCV RX12 203 md_X12_one 12 2 := ⟨_, _, _, cb_12, rfl, cw_X12_one, wd_1311, wd_1313, ws_67⟩
abbrev md_X12_formulaAt : xMd := (yX12_formulaAt, cX12_formulaAt, 5, (some .int))
theorem wd_1298 : (Jvm.Cond.code ({ cls := "KnowledgeRoomModel", name := "formulaAt", desc := "(II)I" } : Jvm.MethodName) prog_14_method_29_code (5 : Nat) (Option.some Jvm.ClassFile.FieldType.int)) ∈ xTG := xmem 1298 (by decide +kernel) (by decide +kernel)
theorem cw_X12_formulaAt : xcw md_X12_formulaAt 2 := ⟨wd_1298, wd_14, by decide +kernel, by decide⟩
theorem wd_1295 : (Jvm.Cond.methodLink "KnowledgeRoomModel" (206 : Nat) ({ cls := "KnowledgeRoomModel", name := "formulaAt", desc := "(II)I" } : Jvm.MethodName)) ∈ xTG := xmem 1295 (by decide +kernel) (by decide +kernel)
theorem wd_1297 : (Jvm.Cond.instanceMethod ({ cls := "KnowledgeRoomModel", name := "formulaAt", desc := "(II)I" } : Jvm.MethodName)) ∈ xTG := xmem 1297 (by decide +kernel) (by decide +kernel)
theorem ws_63 : Cond.selects "KnowledgeRoomModel" ⟨"KnowledgeRoomModel", "formulaAt", "(II)I"⟩ ⟨"KnowledgeRoomModel", "formulaAt", "(II)I"⟩ ∈ xTG := xmemP 63 (by decide +kernel) (by decide +kernel)
theorem cv_RX12_206 : xCV RX12 206 md_X12_formulaAt 12 2 := ⟨_, _, _, cb_12, rfl, cw_X12_formulaAt, wd_1295, wd_1297, ws_63⟩
theorem wd_1334 : (Jvm.Cond.code ({ cls := "KnowledgeRoomModel", name := "group", desc := "(Z)I" } : Jvm.MethodName) prog_14_method_33_code (5 : Nat) (Option.some Jvm.ClassFile.FieldType.int)) ∈ xTG := xmem 1334 (by decide +kernel) (by decide +kernel)
theorem cw_X12_group : xcw md_X12_group 1 := ⟨wd_1334, wd_14, by decide +kernel, by decide⟩
theorem wd_1331 : (Jvm.Cond.methodLink "KnowledgeRoomModel" (209 : Nat) ({ cls := "KnowledgeRoomModel", name := "group", desc := "(Z)I" } : Jvm.MethodName)) ∈ xTG := xmem 1331 (by decide +kernel) (by decide +kernel)
theorem wd_1333 : (Jvm.Cond.instanceMethod ({ cls := "KnowledgeRoomModel", name := "group", desc := "(Z)I" } : Jvm.MethodName)) ∈ xTG := xmem 1333 (by decide +kernel) (by decide +kernel)
theorem ws_72 : Cond.selects "KnowledgeRoomModel" ⟨"KnowledgeRoomModel", "group", "(Z)I"⟩ ⟨"KnowledgeRoomModel", "group", "(Z)I"⟩ ∈ xTG := xmemP 72 (by decide +kernel) (by decide +kernel)
theorem cv_RX12_209 : xCV RX12 209 md_X12_group 12 1 := ⟨_, _, _, cb_12, rfl, cw_X12_group, wd_1331, wd_1333, ws_72⟩
abbrev md_X12_moved : xMd := (yX12_moved, cX12_moved, 6, (some .int))
theorem wd_1338 : (Jvm.Cond.code ({ cls := "KnowledgeRoomModel", name := "moved", desc := "(III)I" } : Jvm.MethodName) prog_14_method_36_code (6 : Nat) (Option.some Jvm.ClassFile.FieldType.int)) ∈ xTG := xmem 1338 (by decide +kernel) (by decide +kernel)
theorem cw_X12_moved : xcw md_X12_moved 3 := ⟨wd_1338, wd_14, by decide +kernel, by decide⟩
theorem wd_1335 : (Jvm.Cond.methodLink "KnowledgeRoomModel" (213 : Nat) ({ cls := "KnowledgeRoomModel", name := "moved", desc := "(III)I" } : Jvm.MethodName)) ∈ xTG := xmem 1335 (by decide +kernel) (by decide +kernel)
theorem wd_1337 : (Jvm.Cond.instanceMethod ({ cls := "KnowledgeRoomModel", name := "moved", desc := "(III)I" } : Jvm.MethodName)) ∈ xTG := xmem 1337 (by decide +kernel) (by decide +kernel)
theorem ws_73 : Cond.selects "KnowledgeRoomModel" ⟨"KnowledgeRoomModel", "moved", "(III)I"⟩ ⟨"KnowledgeRoomModel", "moved", "(III)I"⟩ ∈ xTG := xmemP 73 (by decide +kernel) (by decide +kernel)
theorem cv_RX12_213 : xCV RX12 213 md_X12_moved 12 3 := ⟨_, _, _, cb_12, rfl, cw_X12_moved, wd_1335, wd_1337, ws_73⟩
theorem wd_1164 : (Jvm.Cond.fieldLink "KnowledgeRoomModel" (160 : Nat) "KnowledgeRoomModel" "hand" "I") ∈ xTG := xmem 1164 (by decide +kernel) (by decide +kernel)
theorem fp_RX12_160 : xFP RX12 160 12 14 .int := ⟨_, _, _, cb_12, by decide, wd_1164, rfl, rfl⟩
abbrev md_X12_formula : xMd := (yX12_formula, cX12_formula, 4, (some .int))
abbrev md_X12_ofAtom : xMd := (yX12_ofAtom, cX12_ofAtom, 5, (some .long))
abbrev md_X12_reached : xMd := (yX12_reached, cX12_reached, 12, (some .long))
theorem wd_1366 : (Jvm.Cond.code ({ cls := "KnowledgeRoomModel", name := "reached", desc := "(IJJ)J" } : Jvm.MethodName) prog_14_method_40_code (12 : Nat) (Option.some Jvm.ClassFile.FieldType.long)) ∈ xTG := xmem 1366 (by decide +kernel) (by decide +kernel)
theorem cw_X12_reached : xcw md_X12_reached 3 := ⟨wd_1366, wd_14, by decide +kernel, by decide⟩
theorem wd_1363 : (Jvm.Cond.methodLink "KnowledgeRoomModel" (229 : Nat) ({ cls := "KnowledgeRoomModel", name := "reached", desc := "(IJJ)J" } : Jvm.MethodName)) ∈ xTG := xmem 1363 (by decide +kernel) (by decide +kernel)
theorem wd_1365 : (Jvm.Cond.instanceMethod ({ cls := "KnowledgeRoomModel", name := "reached", desc := "(IJJ)J" } : Jvm.MethodName)) ∈ xTG := xmem 1365 (by decide +kernel) (by decide +kernel)
theorem ws_79 : Cond.selects "KnowledgeRoomModel" ⟨"KnowledgeRoomModel", "reached", "(IJJ)J"⟩ ⟨"KnowledgeRoomModel", "reached", "(IJJ)J"⟩ ∈ xTG := xmemP 79 (by decide +kernel) (by decide +kernel)
theorem cv_RX12_229 : xCV RX12 229 md_X12_reached 12 3 := ⟨_, _, _, cb_12, rfl, cw_X12_reached, wd_1363, wd_1365, ws_79⟩
abbrev md_X12_known : xMd := (yX12_known, cX12_known, 15, (some .long))
theorem wd_1358 : (Jvm.Cond.code ({ cls := "KnowledgeRoomModel", name := "ofAtom", desc := "(I)J" } : Jvm.MethodName) prog_14_method_38_code (5 : Nat) (Option.some Jvm.ClassFile.FieldType.long)) ∈ xTG := xmem 1358 (by decide +kernel) (by decide +kernel)
theorem cw_X12_ofAtom : xcw md_X12_ofAtom 1 := ⟨wd_1358, wd_14, by decide +kernel, by decide⟩
theorem wd_1355 : (Jvm.Cond.methodLink "KnowledgeRoomModel" (217 : Nat) ({ cls := "KnowledgeRoomModel", name := "ofAtom", desc := "(I)J" } : Jvm.MethodName)) ∈ xTG := xmem 1355 (by decide +kernel) (by decide +kernel)
theorem wd_1357 : (Jvm.Cond.instanceMethod ({ cls := "KnowledgeRoomModel", name := "ofAtom", desc := "(I)J" } : Jvm.MethodName)) ∈ xTG := xmem 1357 (by decide +kernel) (by decide +kernel)
theorem ws_77 : Cond.selects "KnowledgeRoomModel" ⟨"KnowledgeRoomModel", "ofAtom", "(I)J"⟩ ⟨"KnowledgeRoomModel", "ofAtom", "(I)J"⟩ ∈ xTG := xmemP 77 (by decide +kernel) (by decide +kernel)
theorem cv_RX12_217 : xCV RX12 217 md_X12_ofAtom 12 1 := ⟨_, _, _, cb_12, rfl, cw_X12_ofAtom, wd_1355, wd_1357, ws_77⟩
abbrev md_X12_where : xMd := (yX12_where, cX12_where, 8, (some .long))
theorem wd_1354 : (Jvm.Cond.code ({ cls := "KnowledgeRoomModel", name := "where", desc := "(IJ)J" } : Jvm.MethodName) prog_14_method_37_code (8 : Nat) (Option.some Jvm.ClassFile.FieldType.long)) ∈ xTG := xmem 1354 (by decide +kernel) (by decide +kernel)
theorem cw_X12_where : xcw md_X12_where 2 := ⟨wd_1354, wd_14, by decide +kernel, by decide⟩
theorem wd_1351 : (Jvm.Cond.methodLink "KnowledgeRoomModel" (221 : Nat) ({ cls := "KnowledgeRoomModel", name := "where", desc := "(IJ)J" } : Jvm.MethodName)) ∈ xTG := xmem 1351 (by decide +kernel) (by decide +kernel)
theorem wd_1353 : (Jvm.Cond.instanceMethod ({ cls := "KnowledgeRoomModel", name := "where", desc := "(IJ)J" } : Jvm.MethodName)) ∈ xTG := xmem 1353 (by decide +kernel) (by decide +kernel)
theorem ws_76 : Cond.selects "KnowledgeRoomModel" ⟨"KnowledgeRoomModel", "where", "(IJ)J"⟩ ⟨"KnowledgeRoomModel", "where", "(IJ)J"⟩ ∈ xTG := xmemP 76 (by decide +kernel) (by decide +kernel)
theorem cv_RX12_221 : xCV RX12 221 md_X12_where 12 2 := ⟨_, _, _, cb_12, rfl, cw_X12_where, wd_1351, wd_1353, ws_76⟩
theorem wd_1362 : (Jvm.Cond.code ({ cls := "KnowledgeRoomModel", name := "known", desc := "(IIJJ)J" } : Jvm.MethodName) prog_14_method_39_code (15 : Nat) (Option.some Jvm.ClassFile.FieldType.long)) ∈ xTG := xmem 1362 (by decide +kernel) (by decide +kernel)
theorem cw_X12_known : xcw md_X12_known 4 := ⟨wd_1362, wd_14, by decide +kernel, by decide⟩
theorem wd_1359 : (Jvm.Cond.methodLink "KnowledgeRoomModel" (225 : Nat) ({ cls := "KnowledgeRoomModel", name := "known", desc := "(IIJJ)J" } : Jvm.MethodName)) ∈ xTG := xmem 1359 (by decide +kernel) (by decide +kernel)
theorem wd_1361 : (Jvm.Cond.instanceMethod ({ cls := "KnowledgeRoomModel", name := "known", desc := "(IIJJ)J" } : Jvm.MethodName)) ∈ xTG := xmem 1361 (by decide +kernel) (by decide +kernel)
theorem ws_78 : Cond.selects "KnowledgeRoomModel" ⟨"KnowledgeRoomModel", "known", "(IIJJ)J"⟩ ⟨"KnowledgeRoomModel", "known", "(IIJJ)J"⟩ ∈ xTG := xmemP 78 (by decide +kernel) (by decide +kernel)
theorem cv_RX12_225 : xCV RX12 225 md_X12_known 12 4 := ⟨_, _, _, cb_12, rfl, cw_X12_known, wd_1359, wd_1361, ws_78⟩
theorem fl_RX12_160 : xFL RX12 160 12 14 := ⟨_, _, _, cb_12, by decide, wd_1164⟩
theorem wd_1350 : (Jvm.Cond.code ({ cls := "KnowledgeRoomModel", name := "all", desc := "()J" } : Jvm.MethodName) prog_14_method_10_code (1 : Nat) (Option.some Jvm.ClassFile.FieldType.long)) ∈ xTG := xmem 1350 (by decide +kernel) (by decide +kernel)
theorem cw_X12_all : xcw md_X12_all 0 := ⟨wd_1350, wd_14, by decide +kernel, by decide⟩
theorem wd_1347 : (Jvm.Cond.methodLink "KnowledgeRoomModel" (233 : Nat) ({ cls := "KnowledgeRoomModel", name := "all", desc := "()J" } : Jvm.MethodName)) ∈ xTG := xmem 1347 (by decide +kernel) (by decide +kernel)
theorem wd_1349 : (Jvm.Cond.instanceMethod ({ cls := "KnowledgeRoomModel", name := "all", desc := "()J" } : Jvm.MethodName)) ∈ xTG := xmem 1349 (by decide +kernel) (by decide +kernel)
theorem ws_75 : Cond.selects "KnowledgeRoomModel" ⟨"KnowledgeRoomModel", "all", "()J"⟩ ⟨"KnowledgeRoomModel", "all", "()J"⟩ ∈ xTG := xmemP 75 (by decide +kernel) (by decide +kernel)
theorem cv_RX12_233 : xCV RX12 233 md_X12_all 12 0 := ⟨_, _, _, cb_12, rfl, cw_X12_all, wd_1347, wd_1349, ws_75⟩
abbrev md_X12_holds : xMd := (yX12_holds, cX12_holds, 2, (some .int))
abbrev md_X12_worlds : xMd := (yX12_worlds, cX12_worlds, 1, (some .int))
theorem wd_1171 : (Jvm.Cond.fieldLink "KnowledgeRoomModel" (237 : Nat) "KnowledgeRoomModel" "told" "I") ∈ xTG := xmem 1171 (by decide +kernel) (by decide +kernel)
theorem fl_RX12_237 : xFL RX12 237 12 21 := ⟨_, _, _, cb_12, by decide, wd_1171⟩
theorem wd_1170 : (Jvm.Cond.fieldLink "KnowledgeRoomModel" (91 : Nat) "KnowledgeRoomModel" "text" "[B") ∈ xTG := xmem 1170 (by decide +kernel) (by decide +kernel)
theorem fl_RX12_91 : xFL RX12 91 12 20 := ⟨_, _, _, cb_12, by decide, wd_1170⟩
theorem fp_RX12_237 : xFP RX12 237 12 21 .int := ⟨_, _, _, cb_12, by decide, wd_1171, rfl, rfl⟩
abbrev md_X12_put : xMd := (yX12_put, cX12_put, 2, none)
theorem wd_1382 : (Jvm.Cond.code ({ cls := "KnowledgeRoomModel", name := "put", desc := "(I)V" } : Jvm.MethodName) prog_14_method_43_code (2 : Nat) (Option.none : Option Jvm.ClassFile.FieldType)) ∈ xTG := xmem 1382 (by decide +kernel) (by decide +kernel)
theorem cw_X12_put : xcw md_X12_put 1 := ⟨wd_1382, wd_14, by decide +kernel, by decide⟩
theorem wd_1379 : (Jvm.Cond.methodLink "KnowledgeRoomModel" (240 : Nat) ({ cls := "KnowledgeRoomModel", name := "put", desc := "(I)V" } : Jvm.MethodName)) ∈ xTG := xmem 1379 (by decide +kernel) (by decide +kernel)
theorem wd_1381 : (Jvm.Cond.instanceMethod ({ cls := "KnowledgeRoomModel", name := "put", desc := "(I)V" } : Jvm.MethodName)) ∈ xTG := xmem 1381 (by decide +kernel) (by decide +kernel)
theorem ws_81 : Cond.selects "KnowledgeRoomModel" ⟨"KnowledgeRoomModel", "put", "(I)V"⟩ ⟨"KnowledgeRoomModel", "put", "(I)V"⟩ ∈ xTG := xmemP 81 (by decide +kernel) (by decide +kernel)
theorem cv_RX12_240 : xCV RX12 240 md_X12_put 12 1 := ⟨_, _, _, cb_12, rfl, cw_X12_put, wd_1379, wd_1381, ws_81⟩
abbrev md_X12_putGroup : xMd := (yX12_putGroup, cX12_putGroup, 3, none)
abbrev md_J3_checkIndex_8e157 : xMd := (yJ3_checkIndex_8e157, cJ3_checkIndex_8e157, 3, (some .int))
theorem wd_1396 : (Jvm.Cond.code ({ cls := "jdk/internal/util/Preconditions", name := "checkIndex", desc := "(IILjava/util/function/BiFunction;)I" } : Jvm.MethodName) prog_24_method_11_code (3 : Nat) (Option.some Jvm.ClassFile.FieldType.int)) ∈ xTG := xmem 1396 (by decide +kernel) (by decide +kernel)
theorem cw_J3_checkIndex_8e157 : xcw md_J3_checkIndex_8e157 3 := ⟨wd_1396, wd_19, by decide +kernel, by decide⟩
theorem wd_1394 : (Jvm.Cond.methodLink "java/lang/String" (1059 : Nat) ({ cls := "jdk/internal/util/Preconditions", name := "checkIndex", desc := "(IILjava/util/function/BiFunction;)I" } : Jvm.MethodName)) ∈ xTG := xmem 1394 (by decide +kernel) (by decide +kernel)
theorem wd_1395 : (Jvm.Cond.static ({ cls := "jdk/internal/util/Preconditions", name := "checkIndex", desc := "(IILjava/util/function/BiFunction;)I" } : Jvm.MethodName)) ∈ xTG := xmem 1395 (by decide +kernel) (by decide +kernel)
theorem cs_RJ0_1059 : xCS RJ0 1059 md_J3_checkIndex_8e157 3 := ⟨cw_J3_checkIndex_8e157, wd_1394, wd_1395⟩
abbrev md_J0_checkIndex_df160 : xMd := (yJ0_checkIndex_df160, cJ0_checkIndex_df160, 2, none)
theorem wd_1393 : (Jvm.Cond.code ({ cls := "java/lang/String", name := "checkIndex", desc := "(II)V" } : Jvm.MethodName) prog_19_method_155_code (2 : Nat) (Option.none : Option Jvm.ClassFile.FieldType)) ∈ xTG := xmem 1393 (by decide +kernel) (by decide +kernel)
theorem cw_J0_checkIndex_df160 : xcw md_J0_checkIndex_df160 2 := ⟨wd_1393, wd_17, by decide +kernel, by decide⟩
theorem wd_1391 : (Jvm.Cond.methodLink "java/lang/StringLatin1" (9 : Nat) ({ cls := "java/lang/String", name := "checkIndex", desc := "(II)V" } : Jvm.MethodName)) ∈ xTG := xmem 1391 (by decide +kernel) (by decide +kernel)
theorem wd_1392 : (Jvm.Cond.static ({ cls := "java/lang/String", name := "checkIndex", desc := "(II)V" } : Jvm.MethodName)) ∈ xTG := xmem 1392 (by decide +kernel) (by decide +kernel)
theorem cs_RJ1_9 : xCS RJ1 9 md_J0_checkIndex_df160 2 := ⟨cw_J0_checkIndex_df160, wd_1391, wd_1392⟩
abbrev md_J1_charAt_3b067 : xMd := (yJ1_charAt_3b067, cJ1_charAt_3b067, 2, (some .char))
theorem wd_1390 : (Jvm.Cond.code ({ cls := "java/lang/StringLatin1", name := "charAt", desc := "([BI)C" } : Jvm.MethodName) prog_20_method_2_code (2 : Nat) (Option.some Jvm.ClassFile.FieldType.char)) ∈ xTG := xmem 1390 (by decide +kernel) (by decide +kernel)
theorem cw_J1_charAt_3b067 : xcw md_J1_charAt_3b067 2 := ⟨wd_1390, wd_18, by decide +kernel, by decide⟩
theorem wd_1388 : (Jvm.Cond.methodLink "java/lang/String" (495 : Nat) ({ cls := "java/lang/StringLatin1", name := "charAt", desc := "([BI)C" } : Jvm.MethodName)) ∈ xTG := xmem 1388 (by decide +kernel) (by decide +kernel)
theorem wd_1389 : (Jvm.Cond.static ({ cls := "java/lang/StringLatin1", name := "charAt", desc := "([BI)C" } : Jvm.MethodName)) ∈ xTG := xmem 1389 (by decide +kernel) (by decide +kernel)
theorem cs_RJ0_495 : xCS RJ0 495 md_J1_charAt_3b067 2 := ⟨cw_J1_charAt_3b067, wd_1388, wd_1389⟩
abbrev md_J0_charAt_5068e : xMd := (yJ0_charAt_5068e, cJ0_charAt_5068e, 2, (some .char))
abbrev md_X12_write : xMd := (yX12_write, cX12_write, 4, none)
theorem wd_1378 : (Jvm.Cond.code ({ cls := "KnowledgeRoomModel", name := "write", desc := "(IZ)V" } : Jvm.MethodName) prog_14_method_45_code (4 : Nat) (Option.none : Option Jvm.ClassFile.FieldType)) ∈ xTG := xmem 1378 (by decide +kernel) (by decide +kernel)
theorem cw_X12_write : xcw md_X12_write 2 := ⟨wd_1378, wd_14, by decide +kernel, by decide⟩
theorem wd_1375 : (Jvm.Cond.methodLink "KnowledgeRoomModel" (243 : Nat) ({ cls := "KnowledgeRoomModel", name := "write", desc := "(IZ)V" } : Jvm.MethodName)) ∈ xTG := xmem 1375 (by decide +kernel) (by decide +kernel)
theorem wd_1377 : (Jvm.Cond.instanceMethod ({ cls := "KnowledgeRoomModel", name := "write", desc := "(IZ)V" } : Jvm.MethodName)) ∈ xTG := xmem 1377 (by decide +kernel) (by decide +kernel)
theorem ws_80 : Cond.selects "KnowledgeRoomModel" ⟨"KnowledgeRoomModel", "write", "(IZ)V"⟩ ⟨"KnowledgeRoomModel", "write", "(IZ)V"⟩ ∈ xTG := xmemP 80 (by decide +kernel) (by decide +kernel)
theorem cv_RX12_243 : xCV RX12 243 md_X12_write 12 2 := ⟨_, _, _, cb_12, rfl, cw_X12_write, wd_1375, wd_1377, ws_80⟩
theorem wd_1387 : (Jvm.Cond.code ({ cls := "java/lang/String", name := "charAt", desc := "(I)C" } : Jvm.MethodName) prog_19_method_56_code (2 : Nat) (Option.some Jvm.ClassFile.FieldType.char)) ∈ xTG := xmem 1387 (by decide +kernel) (by decide +kernel)
theorem cw_J0_charAt_5068e : xcw md_J0_charAt_5068e 1 := ⟨wd_1387, wd_17, by decide +kernel, by decide⟩
theorem wd_1384 : (Jvm.Cond.methodLink "KnowledgeRoomModel" (249 : Nat) ({ cls := "java/lang/String", name := "charAt", desc := "(I)C" } : Jvm.MethodName)) ∈ xTG := xmem 1384 (by decide +kernel) (by decide +kernel)
theorem wd_1385 : (Jvm.Cond.instanceMethod ({ cls := "java/lang/String", name := "charAt", desc := "(I)C" } : Jvm.MethodName)) ∈ xTG := xmem 1385 (by decide +kernel) (by decide +kernel)
theorem wd_1386 : (Jvm.Cond.selects "java/lang/String" ({ cls := "java/lang/String", name := "charAt", desc := "(I)C" } : Jvm.MethodName) ({ cls := "java/lang/String", name := "charAt", desc := "(I)C" } : Jvm.MethodName)) ∈ xTG := xmem 1386 (by decide +kernel) (by decide +kernel)
theorem ct_RX12_249 : xCT RX12 249 md_J0_charAt_5068e 1 := ⟨rfl, cw_J0_charAt_5068e, wd_1384, wd_1385, wd_1386⟩
theorem wd_1407 : (Jvm.Cond.code ({ cls := "KnowledgeRoomModel", name := "putGroup", desc := "(I)V" } : Jvm.MethodName) prog_14_method_44_code (3 : Nat) (Option.none : Option Jvm.ClassFile.FieldType)) ∈ xTG := xmem 1407 (by decide +kernel) (by decide +kernel)
theorem cw_X12_putGroup : xcw md_X12_putGroup 1 := ⟨wd_1407, wd_14, by decide +kernel, by decide⟩
theorem wd_1404 : (Jvm.Cond.methodLink "KnowledgeRoomModel" (255 : Nat) ({ cls := "KnowledgeRoomModel", name := "putGroup", desc := "(I)V" } : Jvm.MethodName)) ∈ xTG := xmem 1404 (by decide +kernel) (by decide +kernel)
theorem wd_1406 : (Jvm.Cond.instanceMethod ({ cls := "KnowledgeRoomModel", name := "putGroup", desc := "(I)V" } : Jvm.MethodName)) ∈ xTG := xmem 1406 (by decide +kernel) (by decide +kernel)
theorem ws_82 : Cond.selects "KnowledgeRoomModel" ⟨"KnowledgeRoomModel", "putGroup", "(I)V"⟩ ⟨"KnowledgeRoomModel", "putGroup", "(I)V"⟩ ∈ xTG := xmemP 82 (by decide +kernel) (by decide +kernel)
theorem cv_RX12_255 : xCV RX12 255 md_X12_putGroup 12 1 := ⟨_, _, _, cb_12, rfl, cw_X12_putGroup, wd_1404, wd_1406, ws_82⟩
abbrev md_X12_tell : xMd := (yX12_tell, cX12_tell, 1, (some .int))
abbrev md_X12_letter : xMd := (yX12_letter, cX12_letter, 2, (some .int))
theorem wd_1172 : (Jvm.Cond.fieldLink "KnowledgeRoomModel" (94 : Nat) "KnowledgeRoomModel" "numbers" "[I") ∈ xTG := xmem 1172 (by decide +kernel) (by decide +kernel)
theorem fl_RX12_94 : xFL RX12 94 12 22 := ⟨_, _, _, cb_12, by decide, wd_1172⟩
theorem wd_1173 : (Jvm.Cond.fieldLink "KnowledgeRoomModel" (97 : Nat) "KnowledgeRoomModel" "firsts" "[I") ∈ xTG := xmem 1173 (by decide +kernel) (by decide +kernel)
theorem fl_RX12_97 : xFL RX12 97 12 23 := ⟨_, _, _, cb_12, by decide, wd_1173⟩
theorem wd_1174 : (Jvm.Cond.fieldLink "KnowledgeRoomModel" (100 : Nat) "KnowledgeRoomModel" "fresh" "[I") ∈ xTG := xmem 1174 (by decide +kernel) (by decide +kernel)
theorem fl_RX12_100 : xFL RX12 100 12 24 := ⟨_, _, _, cb_12, by decide, wd_1174⟩
abbrev md_X12_shrink : xMd := (yX12_shrink, cX12_shrink, 8, none)
theorem wd_1419 : (Jvm.Cond.code ({ cls := "KnowledgeRoomModel", name := "keep", desc := "()V" } : Jvm.MethodName) prog_14_method_16_code (2 : Nat) (Option.none : Option Jvm.ClassFile.FieldType)) ∈ xTG := xmem 1419 (by decide +kernel) (by decide +kernel)
theorem cw_X12_keep : xcw md_X12_keep 0 := ⟨wd_1419, wd_14, by decide +kernel, by decide⟩
theorem wd_1416 : (Jvm.Cond.methodLink "KnowledgeRoomModel" (258 : Nat) ({ cls := "KnowledgeRoomModel", name := "keep", desc := "()V" } : Jvm.MethodName)) ∈ xTG := xmem 1416 (by decide +kernel) (by decide +kernel)
theorem wd_1418 : (Jvm.Cond.instanceMethod ({ cls := "KnowledgeRoomModel", name := "keep", desc := "()V" } : Jvm.MethodName)) ∈ xTG := xmem 1418 (by decide +kernel) (by decide +kernel)
theorem ws_83 : Cond.selects "KnowledgeRoomModel" ⟨"KnowledgeRoomModel", "keep", "()V"⟩ ⟨"KnowledgeRoomModel", "keep", "()V"⟩ ∈ xTG := xmemP 83 (by decide +kernel) (by decide +kernel)
theorem cv_RX12_258 : xCV RX12 258 md_X12_keep 12 0 := ⟨_, _, _, cb_12, rfl, cw_X12_keep, wd_1416, wd_1418, ws_83⟩
theorem wd_1427 : (Jvm.Cond.code ({ cls := "KnowledgeRoomModel", name := "shrink", desc := "(J)V" } : Jvm.MethodName) prog_14_method_48_code (8 : Nat) (Option.none : Option Jvm.ClassFile.FieldType)) ∈ xTG := xmem 1427 (by decide +kernel) (by decide +kernel)
theorem cw_X12_shrink : xcw md_X12_shrink 1 := ⟨wd_1427, wd_14, by decide +kernel, by decide⟩
theorem wd_1424 : (Jvm.Cond.methodLink "KnowledgeRoomModel" (261 : Nat) ({ cls := "KnowledgeRoomModel", name := "shrink", desc := "(J)V" } : Jvm.MethodName)) ∈ xTG := xmem 1424 (by decide +kernel) (by decide +kernel)
theorem wd_1426 : (Jvm.Cond.instanceMethod ({ cls := "KnowledgeRoomModel", name := "shrink", desc := "(J)V" } : Jvm.MethodName)) ∈ xTG := xmem 1426 (by decide +kernel) (by decide +kernel)
theorem ws_85 : Cond.selects "KnowledgeRoomModel" ⟨"KnowledgeRoomModel", "shrink", "(J)V"⟩ ⟨"KnowledgeRoomModel", "shrink", "(J)V"⟩ ∈ xTG := xmemP 85 (by decide +kernel) (by decide +kernel)
theorem cv_RX12_261 : xCV RX12 261 md_X12_shrink 12 1 := ⟨_, _, _, cb_12, rfl, cw_X12_shrink, wd_1424, wd_1426, ws_85⟩
abbrev md_X12_say : xMd := (yX12_say, cX12_say, 3, (some .int))
theorem wd_1175 : (Jvm.Cond.fieldLink "KnowledgeRoomModel" (265 : Nat) "KnowledgeRoomModel" "events" "I") ∈ xTG := xmem 1175 (by decide +kernel) (by decide +kernel)
theorem fl_RX12_265 : xFL RX12 265 12 25 := ⟨_, _, _, cb_12, by decide, wd_1175⟩
abbrev md_X12_isEvent : xMd := (yX12_isEvent, cX12_isEvent, 2, (some .boolean))
theorem wd_1176 : (Jvm.Cond.fieldLink "KnowledgeRoomModel" (103 : Nat) "KnowledgeRoomModel" "needs" "[I") ∈ xTG := xmem 1176 (by decide +kernel) (by decide +kernel)
theorem fl_RX12_103 : xFL RX12 103 12 26 := ⟨_, _, _, cb_12, by decide, wd_1176⟩
theorem wd_1435 : (Jvm.Cond.code ({ cls := "KnowledgeRoomModel", name := "laid", desc := "(II)I" } : Jvm.MethodName) prog_14_method_22_code (6 : Nat) (Option.some Jvm.ClassFile.FieldType.int)) ∈ xTG := xmem 1435 (by decide +kernel) (by decide +kernel)
theorem cw_X12_laid : xcw md_X12_laid 2 := ⟨wd_1435, wd_14, by decide +kernel, by decide⟩
theorem wd_1432 : (Jvm.Cond.methodLink "KnowledgeRoomModel" (268 : Nat) ({ cls := "KnowledgeRoomModel", name := "laid", desc := "(II)I" } : Jvm.MethodName)) ∈ xTG := xmem 1432 (by decide +kernel) (by decide +kernel)
theorem wd_1434 : (Jvm.Cond.instanceMethod ({ cls := "KnowledgeRoomModel", name := "laid", desc := "(II)I" } : Jvm.MethodName)) ∈ xTG := xmem 1434 (by decide +kernel) (by decide +kernel)
theorem ws_86 : Cond.selects "KnowledgeRoomModel" ⟨"KnowledgeRoomModel", "laid", "(II)I"⟩ ⟨"KnowledgeRoomModel", "laid", "(II)I"⟩ ∈ xTG := xmemP 86 (by decide +kernel) (by decide +kernel)
theorem cv_RX12_268 : xCV RX12 268 md_X12_laid 12 2 := ⟨_, _, _, cb_12, rfl, cw_X12_laid, wd_1432, wd_1434, ws_86⟩
theorem wd_1177 : (Jvm.Cond.fieldLink "KnowledgeRoomModel" (106 : Nat) "KnowledgeRoomModel" "changes" "[I") ∈ xTG := xmem 1177 (by decide +kernel) (by decide +kernel)
theorem fl_RX12_106 : xFL RX12 106 12 27 := ⟨_, _, _, cb_12, by decide, wd_1177⟩
theorem fp_RX12_265 : xFP RX12 265 12 25 .int := ⟨_, _, _, cb_12, by decide, wd_1175, rfl, rfl⟩
theorem wd_1178 : (Jvm.Cond.fieldLink "KnowledgeRoomModel" (109 : Nat) "KnowledgeRoomModel" "eventCells" "[I") ∈ xTG := xmem 1178 (by decide +kernel) (by decide +kernel)
theorem fl_RX12_109 : xFL RX12 109 12 28 := ⟨_, _, _, cb_12, by decide, wd_1178⟩
abbrev md_X12_event : xMd := (yX12_event, cX12_event, 2, (some .int))
theorem wd_1443 : (Jvm.Cond.code ({ cls := "KnowledgeRoomModel", name := "isEvent", desc := "(I)Z" } : Jvm.MethodName) prog_14_method_50_code (2 : Nat) (Option.some Jvm.ClassFile.FieldType.boolean)) ∈ xTG := xmem 1443 (by decide +kernel) (by decide +kernel)
theorem cw_X12_isEvent : xcw md_X12_isEvent 1 := ⟨wd_1443, wd_14, by decide +kernel, by decide⟩
theorem wd_1440 : (Jvm.Cond.methodLink "KnowledgeRoomModel" (271 : Nat) ({ cls := "KnowledgeRoomModel", name := "isEvent", desc := "(I)Z" } : Jvm.MethodName)) ∈ xTG := xmem 1440 (by decide +kernel) (by decide +kernel)
theorem wd_1442 : (Jvm.Cond.instanceMethod ({ cls := "KnowledgeRoomModel", name := "isEvent", desc := "(I)Z" } : Jvm.MethodName)) ∈ xTG := xmem 1442 (by decide +kernel) (by decide +kernel)
theorem ws_87 : Cond.selects "KnowledgeRoomModel" ⟨"KnowledgeRoomModel", "isEvent", "(I)Z"⟩ ⟨"KnowledgeRoomModel", "isEvent", "(I)Z"⟩ ∈ xTG := xmemP 87 (by decide +kernel) (by decide +kernel)
theorem cv_RX12_271 : xCV RX12 271 md_X12_isEvent 12 1 := ⟨_, _, _, cb_12, rfl, cw_X12_isEvent, wd_1440, wd_1442, ws_87⟩
abbrev md_X12_tieEvents : xMd := (yX12_tieEvents, cX12_tieEvents, 9, (some .int))
abbrev md_X12_change : xMd := (yX12_change, cX12_change, 3, (some .int))
abbrev md_X12_noEvents : xMd := (yX12_noEvents, cX12_noEvents, 2, (some .int))
theorem wd_1179 : (Jvm.Cond.fieldLink "KnowledgeRoomModel" (112 : Nat) "KnowledgeRoomModel" "needed" "[J") ∈ xTG := xmem 1179 (by decide +kernel) (by decide +kernel)
theorem fl_RX12_112 : xFL RX12 112 12 29 := ⟨_, _, _, cb_12, by decide, wd_1179⟩
theorem wd_1180 : (Jvm.Cond.fieldLink "KnowledgeRoomModel" (116 : Nat) "KnowledgeRoomModel" "behind" "[J") ∈ xTG := xmem 1180 (by decide +kernel) (by decide +kernel)
theorem fl_RX12_116 : xFL RX12 116 12 30 := ⟨_, _, _, cb_12, by decide, wd_1180⟩
theorem wd_1181 : (Jvm.Cond.fieldLink "KnowledgeRoomModel" (119 : Nat) "KnowledgeRoomModel" "pairWorlds" "[I") ∈ xTG := xmem 1181 (by decide +kernel) (by decide +kernel)
theorem fl_RX12_119 : xFL RX12 119 12 31 := ⟨_, _, _, cb_12, by decide, wd_1181⟩
theorem wd_1182 : (Jvm.Cond.fieldLink "KnowledgeRoomModel" (122 : Nat) "KnowledgeRoomModel" "pairEvents" "[I") ∈ xTG := xmem 1182 (by decide +kernel) (by decide +kernel)
theorem fl_RX12_122 : xFL RX12 122 12 32 := ⟨_, _, _, cb_12, by decide, wd_1182⟩
theorem wd_1183 : (Jvm.Cond.fieldLink "KnowledgeRoomModel" (125 : Nat) "KnowledgeRoomModel" "pairAtoms" "[I") ∈ xTG := xmem 1183 (by decide +kernel) (by decide +kernel)
theorem fl_RX12_125 : xFL RX12 125 12 33 := ⟨_, _, _, cb_12, by decide, wd_1183⟩
abbrev md_X12_happen : xMd := (yX12_happen, cX12_happen, 8, (some .int))
theorem wd_1184 : (Jvm.Cond.fieldLink "KnowledgeRoomModel" (128 : Nat) "KnowledgeRoomModel" "like" "[I") ∈ xTG := xmem 1184 (by decide +kernel) (by decide +kernel)
theorem fl_RX12_128 : xFL RX12 128 12 34 := ⟨_, _, _, cb_12, by decide, wd_1184⟩
abbrev md_X12_sortsIn : xMd := (yX12_sortsIn, cX12_sortsIn, 6, (some .long))
theorem wd_1475 : (Jvm.Cond.code ({ cls := "KnowledgeRoomModel", name := "sortsIn", desc := "(II)J" } : Jvm.MethodName) prog_14_method_57_code (6 : Nat) (Option.some Jvm.ClassFile.FieldType.long)) ∈ xTG := xmem 1475 (by decide +kernel) (by decide +kernel)
theorem cw_X12_sortsIn : xcw md_X12_sortsIn 2 := ⟨wd_1475, wd_14, by decide +kernel, by decide⟩
theorem wd_1472 : (Jvm.Cond.methodLink "KnowledgeRoomModel" (274 : Nat) ({ cls := "KnowledgeRoomModel", name := "sortsIn", desc := "(II)J" } : Jvm.MethodName)) ∈ xTG := xmem 1472 (by decide +kernel) (by decide +kernel)
theorem wd_1474 : (Jvm.Cond.instanceMethod ({ cls := "KnowledgeRoomModel", name := "sortsIn", desc := "(II)J" } : Jvm.MethodName)) ∈ xTG := xmem 1474 (by decide +kernel) (by decide +kernel)
theorem ws_91 : Cond.selects "KnowledgeRoomModel" ⟨"KnowledgeRoomModel", "sortsIn", "(II)J"⟩ ⟨"KnowledgeRoomModel", "sortsIn", "(II)J"⟩ ∈ xTG := xmemP 91 (by decide +kernel) (by decide +kernel)
theorem cv_RX12_274 : xCV RX12 274 md_X12_sortsIn 12 2 := ⟨_, _, _, cb_12, rfl, cw_X12_sortsIn, wd_1472, wd_1474, ws_91⟩
abbrev md_X12_areAsBefore : xMd := (yX12_areAsBefore, cX12_areAsBefore, 5, (some .boolean))
abbrev md_X12_beginLike : xMd := (yX12_beginLike, cX12_beginLike, 4, none)
theorem wd_1185 : (Jvm.Cond.fieldLink "KnowledgeRoomModel" (131 : Nat) "KnowledgeRoomModel" "likeNow" "[I") ∈ xTG := xmem 1185 (by decide +kernel) (by decide +kernel)
theorem fl_RX12_131 : xFL RX12 131 12 35 := ⟨_, _, _, cb_12, by decide, wd_1185⟩
theorem wd_1471 : (Jvm.Cond.code ({ cls := "KnowledgeRoomModel", name := "areAsBefore", desc := "(II)Z" } : Jvm.MethodName) prog_14_method_56_code (5 : Nat) (Option.some Jvm.ClassFile.FieldType.boolean)) ∈ xTG := xmem 1471 (by decide +kernel) (by decide +kernel)
theorem cw_X12_areAsBefore : xcw md_X12_areAsBefore 2 := ⟨wd_1471, wd_14, by decide +kernel, by decide⟩
theorem wd_1468 : (Jvm.Cond.methodLink "KnowledgeRoomModel" (277 : Nat) ({ cls := "KnowledgeRoomModel", name := "areAsBefore", desc := "(II)Z" } : Jvm.MethodName)) ∈ xTG := xmem 1468 (by decide +kernel) (by decide +kernel)
theorem wd_1470 : (Jvm.Cond.instanceMethod ({ cls := "KnowledgeRoomModel", name := "areAsBefore", desc := "(II)Z" } : Jvm.MethodName)) ∈ xTG := xmem 1470 (by decide +kernel) (by decide +kernel)
theorem ws_90 : Cond.selects "KnowledgeRoomModel" ⟨"KnowledgeRoomModel", "areAsBefore", "(II)Z"⟩ ⟨"KnowledgeRoomModel", "areAsBefore", "(II)Z"⟩ ∈ xTG := xmemP 90 (by decide +kernel) (by decide +kernel)
theorem cv_RX12_277 : xCV RX12 277 md_X12_areAsBefore 12 2 := ⟨_, _, _, cb_12, rfl, cw_X12_areAsBefore, wd_1468, wd_1470, ws_90⟩
abbrev md_X12_refine : xMd := (yX12_refine, cX12_refine, 4, (some .boolean))
theorem wd_1463 : (Jvm.Cond.code ({ cls := "KnowledgeRoomModel", name := "beginLike", desc := "()V" } : Jvm.MethodName) prog_14_method_58_code (4 : Nat) (Option.none : Option Jvm.ClassFile.FieldType)) ∈ xTG := xmem 1463 (by decide +kernel) (by decide +kernel)
theorem cw_X12_beginLike : xcw md_X12_beginLike 0 := ⟨wd_1463, wd_14, by decide +kernel, by decide⟩
theorem wd_1460 : (Jvm.Cond.methodLink "KnowledgeRoomModel" (281 : Nat) ({ cls := "KnowledgeRoomModel", name := "beginLike", desc := "()V" } : Jvm.MethodName)) ∈ xTG := xmem 1460 (by decide +kernel) (by decide +kernel)
theorem wd_1462 : (Jvm.Cond.instanceMethod ({ cls := "KnowledgeRoomModel", name := "beginLike", desc := "()V" } : Jvm.MethodName)) ∈ xTG := xmem 1462 (by decide +kernel) (by decide +kernel)
theorem ws_88 : Cond.selects "KnowledgeRoomModel" ⟨"KnowledgeRoomModel", "beginLike", "()V"⟩ ⟨"KnowledgeRoomModel", "beginLike", "()V"⟩ ∈ xTG := xmemP 88 (by decide +kernel) (by decide +kernel)
theorem cv_RX12_281 : xCV RX12 281 md_X12_beginLike 12 0 := ⟨_, _, _, cb_12, rfl, cw_X12_beginLike, wd_1460, wd_1462, ws_88⟩
theorem wd_1467 : (Jvm.Cond.code ({ cls := "KnowledgeRoomModel", name := "refine", desc := "()Z" } : Jvm.MethodName) prog_14_method_59_code (4 : Nat) (Option.some Jvm.ClassFile.FieldType.boolean)) ∈ xTG := xmem 1467 (by decide +kernel) (by decide +kernel)
theorem cw_X12_refine : xcw md_X12_refine 0 := ⟨wd_1467, wd_14, by decide +kernel, by decide⟩
theorem wd_1464 : (Jvm.Cond.methodLink "KnowledgeRoomModel" (284 : Nat) ({ cls := "KnowledgeRoomModel", name := "refine", desc := "()Z" } : Jvm.MethodName)) ∈ xTG := xmem 1464 (by decide +kernel) (by decide +kernel)
theorem wd_1466 : (Jvm.Cond.instanceMethod ({ cls := "KnowledgeRoomModel", name := "refine", desc := "()Z" } : Jvm.MethodName)) ∈ xTG := xmem 1466 (by decide +kernel) (by decide +kernel)
theorem ws_89 : Cond.selects "KnowledgeRoomModel" ⟨"KnowledgeRoomModel", "refine", "()Z"⟩ ⟨"KnowledgeRoomModel", "refine", "()Z"⟩ ∈ xTG := xmemP 89 (by decide +kernel) (by decide +kernel)
theorem cv_RX12_284 : xCV RX12 284 md_X12_refine 12 0 := ⟨_, _, _, cb_12, rfl, cw_X12_refine, wd_1464, wd_1466, ws_89⟩
abbrev md_X12_contract : xMd := (yX12_contract, cX12_contract, 6, (some .int))
abbrev md_X12_differ : xMd := (yX12_differ, cX12_differ, 5, (some .int))
abbrev md_X12_has : xMd := (yX12_has, cX12_has, 3, (some .boolean))
theorem wd_1487 : (Jvm.Cond.code ({ cls := "KnowledgeRoomModel", name := "has", desc := "(II)Z" } : Jvm.MethodName) prog_14_method_62_code (3 : Nat) (Option.some Jvm.ClassFile.FieldType.boolean)) ∈ xTG := xmem 1487 (by decide +kernel) (by decide +kernel)
theorem cw_X12_has : xcw md_X12_has 2 := ⟨wd_1487, wd_14, by decide +kernel, by decide⟩
theorem wd_1484 : (Jvm.Cond.methodLink "KnowledgeRoomModel" (288 : Nat) ({ cls := "KnowledgeRoomModel", name := "has", desc := "(II)Z" } : Jvm.MethodName)) ∈ xTG := xmem 1484 (by decide +kernel) (by decide +kernel)
theorem wd_1486 : (Jvm.Cond.instanceMethod ({ cls := "KnowledgeRoomModel", name := "has", desc := "(II)Z" } : Jvm.MethodName)) ∈ xTG := xmem 1486 (by decide +kernel) (by decide +kernel)
theorem ws_92 : Cond.selects "KnowledgeRoomModel" ⟨"KnowledgeRoomModel", "has", "(II)Z"⟩ ⟨"KnowledgeRoomModel", "has", "(II)Z"⟩ ∈ xTG := xmemP 92 (by decide +kernel) (by decide +kernel)
theorem cv_RX12_288 : xCV RX12 288 md_X12_has 12 2 := ⟨_, _, _, cb_12, rfl, cw_X12_has, wd_1484, wd_1486, ws_92⟩
theorem wd_1186 : (Jvm.Cond.fieldLink "KnowledgeRoomModel" (291 : Nat) "KnowledgeRoomModel" "great" "Z") ∈ xTG := xmem 1186 (by decide +kernel) (by decide +kernel)
theorem fl_RX12_291 : xFL RX12 291 12 36 := ⟨_, _, _, cb_12, by decide, wd_1186⟩
theorem fp_RX12_291 : xFP RX12 291 12 36 .boolean := ⟨_, _, _, cb_12, by decide, wd_1186, rfl, rfl⟩
theorem wd_1145 : (Jvm.Cond.constant "KnowledgeRoomModel" (71 : Nat) (92800 : Int32)) ∈ xTG := xmem 1145 (by decide +kernel) (by decide +kernel)
abbrev md_X12_made : xMd := (yX12_made, cX12_made, 6, (some .int))
abbrev md_X12_reduced : xMd := (yX12_reduced, cX12_reduced, 5, (some .int))
theorem wd_1491 : (Jvm.Cond.code ({ cls := "KnowledgeRoomModel", name := "reduced", desc := "(I)I" } : Jvm.MethodName) prog_14_method_64_code (5 : Nat) (Option.some Jvm.ClassFile.FieldType.int)) ∈ xTG := xmem 1491 (by decide +kernel) (by decide +kernel)
theorem cw_X12_reduced : xcw md_X12_reduced 1 := ⟨wd_1491, wd_14, by decide +kernel, by decide⟩
theorem wd_1488 : (Jvm.Cond.methodLink "KnowledgeRoomModel" (298 : Nat) ({ cls := "KnowledgeRoomModel", name := "reduced", desc := "(I)I" } : Jvm.MethodName)) ∈ xTG := xmem 1488 (by decide +kernel) (by decide +kernel)
theorem wd_1490 : (Jvm.Cond.instanceMethod ({ cls := "KnowledgeRoomModel", name := "reduced", desc := "(I)I" } : Jvm.MethodName)) ∈ xTG := xmem 1490 (by decide +kernel) (by decide +kernel)
theorem ws_93 : Cond.selects "KnowledgeRoomModel" ⟨"KnowledgeRoomModel", "reduced", "(I)I"⟩ ⟨"KnowledgeRoomModel", "reduced", "(I)I"⟩ ∈ xTG := xmemP 93 (by decide +kernel) (by decide +kernel)
theorem cv_RX12_298 : xCV RX12 298 md_X12_reduced 12 1 := ⟨_, _, _, cb_12, rfl, cw_X12_reduced, wd_1488, wd_1490, ws_93⟩
theorem wd_1495 : (Jvm.Cond.code ({ cls := "KnowledgeRoomModel", name := "made", desc := "(IIII)I" } : Jvm.MethodName) prog_14_method_63_code (6 : Nat) (Option.some Jvm.ClassFile.FieldType.int)) ∈ xTG := xmem 1495 (by decide +kernel) (by decide +kernel)
theorem cw_X12_made : xcw md_X12_made 4 := ⟨wd_1495, wd_14, by decide +kernel, by decide⟩
theorem wd_1492 : (Jvm.Cond.methodLink "KnowledgeRoomModel" (295 : Nat) ({ cls := "KnowledgeRoomModel", name := "made", desc := "(IIII)I" } : Jvm.MethodName)) ∈ xTG := xmem 1492 (by decide +kernel) (by decide +kernel)
theorem wd_1494 : (Jvm.Cond.instanceMethod ({ cls := "KnowledgeRoomModel", name := "made", desc := "(IIII)I" } : Jvm.MethodName)) ∈ xTG := xmem 1494 (by decide +kernel) (by decide +kernel)
theorem ws_94 : Cond.selects "KnowledgeRoomModel" ⟨"KnowledgeRoomModel", "made", "(IIII)I"⟩ ⟨"KnowledgeRoomModel", "made", "(IIII)I"⟩ ∈ xTG := xmemP 94 (by decide +kernel) (by decide +kernel)
theorem cv_RX12_295 : xCV RX12 295 md_X12_made 12 4 := ⟨_, _, _, cb_12, rfl, cw_X12_made, wd_1492, wd_1494, ws_94⟩
abbrev md_X12_pushed : xMd := (yX12_pushed, cX12_pushed, 4, (some .int))
theorem wd_1499 : (Jvm.Cond.code ({ cls := "KnowledgeRoomModel", name := "pushed", desc := "(II)I" } : Jvm.MethodName) prog_14_method_65_code (4 : Nat) (Option.some Jvm.ClassFile.FieldType.int)) ∈ xTG := xmem 1499 (by decide +kernel) (by decide +kernel)
theorem cw_X12_pushed : xcw md_X12_pushed 2 := ⟨wd_1499, wd_14, by decide +kernel, by decide⟩
theorem wd_1496 : (Jvm.Cond.methodLink "KnowledgeRoomModel" (301 : Nat) ({ cls := "KnowledgeRoomModel", name := "pushed", desc := "(II)I" } : Jvm.MethodName)) ∈ xTG := xmem 1496 (by decide +kernel) (by decide +kernel)
theorem wd_1498 : (Jvm.Cond.instanceMethod ({ cls := "KnowledgeRoomModel", name := "pushed", desc := "(II)I" } : Jvm.MethodName)) ∈ xTG := xmem 1498 (by decide +kernel) (by decide +kernel)
theorem ws_95 : Cond.selects "KnowledgeRoomModel" ⟨"KnowledgeRoomModel", "pushed", "(II)I"⟩ ⟨"KnowledgeRoomModel", "pushed", "(II)I"⟩ ∈ xTG := xmemP 95 (by decide +kernel) (by decide +kernel)
theorem cv_RX12_301 : xCV RX12 301 md_X12_pushed 12 2 := ⟨_, _, _, cb_12, rfl, cw_X12_pushed, wd_1496, wd_1498, ws_95⟩
abbrev md_X12_reduce : xMd := (yX12_reduce, cX12_reduce, 4, (some .int))
abbrev md_X12_shared : xMd := (yX12_shared, cX12_shared, 6, (some .int))
abbrev md_X12_plain : xMd := (yX12_plain, cX12_plain, 8, (some .int))
theorem wd_1508 : (Jvm.Cond.code ({ cls := "KnowledgeRoomModel", name := "plain", desc := "(I)I" } : Jvm.MethodName) prog_14_method_68_code (8 : Nat) (Option.some Jvm.ClassFile.FieldType.int)) ∈ xTG := xmem 1508 (by decide +kernel) (by decide +kernel)
theorem cw_X12_plain : xcw md_X12_plain 1 := ⟨wd_1508, wd_14, by decide +kernel, by decide⟩
theorem wd_1505 : (Jvm.Cond.methodLink "KnowledgeRoomModel" (304 : Nat) ({ cls := "KnowledgeRoomModel", name := "plain", desc := "(I)I" } : Jvm.MethodName)) ∈ xTG := xmem 1505 (by decide +kernel) (by decide +kernel)
theorem wd_1507 : (Jvm.Cond.instanceMethod ({ cls := "KnowledgeRoomModel", name := "plain", desc := "(I)I" } : Jvm.MethodName)) ∈ xTG := xmem 1507 (by decide +kernel) (by decide +kernel)
theorem ws_96 : Cond.selects "KnowledgeRoomModel" ⟨"KnowledgeRoomModel", "plain", "(I)I"⟩ ⟨"KnowledgeRoomModel", "plain", "(I)I"⟩ ∈ xTG := xmemP 96 (by decide +kernel) (by decide +kernel)
theorem cv_RX12_304 : xCV RX12 304 md_X12_plain 12 1 := ⟨_, _, _, cb_12, rfl, cw_X12_plain, wd_1505, wd_1507, ws_96⟩
theorem wd_1512 : (Jvm.Cond.code ({ cls := "KnowledgeRoomModel", name := "shared", desc := "(IIII)I" } : Jvm.MethodName) prog_14_method_67_code (6 : Nat) (Option.some Jvm.ClassFile.FieldType.int)) ∈ xTG := xmem 1512 (by decide +kernel) (by decide +kernel)
theorem cw_X12_shared : xcw md_X12_shared 4 := ⟨wd_1512, wd_14, by decide +kernel, by decide⟩
theorem wd_1509 : (Jvm.Cond.methodLink "KnowledgeRoomModel" (307 : Nat) ({ cls := "KnowledgeRoomModel", name := "shared", desc := "(IIII)I" } : Jvm.MethodName)) ∈ xTG := xmem 1509 (by decide +kernel) (by decide +kernel)
theorem wd_1511 : (Jvm.Cond.instanceMethod ({ cls := "KnowledgeRoomModel", name := "shared", desc := "(IIII)I" } : Jvm.MethodName)) ∈ xTG := xmem 1511 (by decide +kernel) (by decide +kernel)
theorem ws_97 : Cond.selects "KnowledgeRoomModel" ⟨"KnowledgeRoomModel", "shared", "(IIII)I"⟩ ⟨"KnowledgeRoomModel", "shared", "(IIII)I"⟩ ∈ xTG := xmemP 97 (by decide +kernel) (by decide +kernel)
theorem cv_RX12_307 : xCV RX12 307 md_X12_shared 12 4 := ⟨_, _, _, cb_12, rfl, cw_X12_shared, wd_1509, wd_1511, ws_97⟩
theorem wd_1188 : (Jvm.Cond.fieldLink "KnowledgeRoomModel" (310 : Nat) "KnowledgeRoomModel" "baseCount" "I") ∈ xTG := xmem 1188 (by decide +kernel) (by decide +kernel)
theorem fl_RX12_310 : xFL RX12 310 12 38 := ⟨_, _, _, cb_12, by decide, wd_1188⟩
theorem wd_1187 : (Jvm.Cond.fieldLink "KnowledgeRoomModel" (134 : Nat) "KnowledgeRoomModel" "base" "[I") ∈ xTG := xmem 1187 (by decide +kernel) (by decide +kernel)
theorem fl_RX12_134 : xFL RX12 134 12 37 := ⟨_, _, _, cb_12, by decide, wd_1187⟩
theorem fp_RX12_310 : xFP RX12 310 12 38 .int := ⟨_, _, _, cb_12, by decide, wd_1188, rfl, rfl⟩
abbrev md_X12_inBase : xMd := (yX12_inBase, cX12_inBase, 3, none)
abbrev md_X12_placeInBase : xMd := (yX12_placeInBase, cX12_placeInBase, 4, (some .int))
theorem wd_1193 : (Jvm.Cond.fieldLink "KnowledgeRoomModel" (150 : Nat) "KnowledgeRoomModel" "holdsIn" "[Z") ∈ xTG := xmem 1193 (by decide +kernel) (by decide +kernel)
theorem fl_RX12_150 : xFL RX12 150 12 43 := ⟨_, _, _, cb_12, by decide, wd_1193⟩
theorem wd_1524 : (Jvm.Cond.code ({ cls := "KnowledgeRoomModel", name := "placeInBase", desc := "(I)I" } : Jvm.MethodName) prog_14_method_70_code (4 : Nat) (Option.some Jvm.ClassFile.FieldType.int)) ∈ xTG := xmem 1524 (by decide +kernel) (by decide +kernel)
theorem cw_X12_placeInBase : xcw md_X12_placeInBase 1 := ⟨wd_1524, wd_14, by decide +kernel, by decide⟩
theorem wd_1521 : (Jvm.Cond.methodLink "KnowledgeRoomModel" (313 : Nat) ({ cls := "KnowledgeRoomModel", name := "placeInBase", desc := "(I)I" } : Jvm.MethodName)) ∈ xTG := xmem 1521 (by decide +kernel) (by decide +kernel)
theorem wd_1523 : (Jvm.Cond.instanceMethod ({ cls := "KnowledgeRoomModel", name := "placeInBase", desc := "(I)I" } : Jvm.MethodName)) ∈ xTG := xmem 1523 (by decide +kernel) (by decide +kernel)
theorem ws_100 : Cond.selects "KnowledgeRoomModel" ⟨"KnowledgeRoomModel", "placeInBase", "(I)I"⟩ ⟨"KnowledgeRoomModel", "placeInBase", "(I)I"⟩ ∈ xTG := xmemP 100 (by decide +kernel) (by decide +kernel)
theorem cv_RX12_313 : xCV RX12 313 md_X12_placeInBase 12 1 := ⟨_, _, _, cb_12, rfl, cw_X12_placeInBase, wd_1521, wd_1523, ws_100⟩
abbrev md_X12_reckon : xMd := (yX12_reckon, cX12_reckon, 8, none)
abbrev md_X12_agentsBits : xMd := (yX12_agentsBits, cX12_agentsBits, 4, (some .int))
abbrev md_X12_isType : xMd := (yX12_isType, cX12_isType, 5, (some .boolean))
theorem wd_1191 : (Jvm.Cond.fieldLink "KnowledgeRoomModel" (144 : Nat) "KnowledgeRoomModel" "parent" "[I") ∈ xTG := xmem 1191 (by decide +kernel) (by decide +kernel)
theorem fl_RX12_144 : xFL RX12 144 12 41 := ⟨_, _, _, cb_12, by decide, wd_1191⟩
abbrev md_X12_root : xMd := (yX12_root, cX12_root, 3, (some .int))
theorem wd_1540 : (Jvm.Cond.code ({ cls := "KnowledgeRoomModel", name := "agentsBits", desc := "(I)I" } : Jvm.MethodName) prog_14_method_72_code (4 : Nat) (Option.some Jvm.ClassFile.FieldType.int)) ∈ xTG := xmem 1540 (by decide +kernel) (by decide +kernel)
theorem cw_X12_agentsBits : xcw md_X12_agentsBits 1 := ⟨wd_1540, wd_14, by decide +kernel, by decide⟩
theorem wd_1537 : (Jvm.Cond.methodLink "KnowledgeRoomModel" (316 : Nat) ({ cls := "KnowledgeRoomModel", name := "agentsBits", desc := "(I)I" } : Jvm.MethodName)) ∈ xTG := xmem 1537 (by decide +kernel) (by decide +kernel)
theorem wd_1539 : (Jvm.Cond.instanceMethod ({ cls := "KnowledgeRoomModel", name := "agentsBits", desc := "(I)I" } : Jvm.MethodName)) ∈ xTG := xmem 1539 (by decide +kernel) (by decide +kernel)
theorem ws_104 : Cond.selects "KnowledgeRoomModel" ⟨"KnowledgeRoomModel", "agentsBits", "(I)I"⟩ ⟨"KnowledgeRoomModel", "agentsBits", "(I)I"⟩ ∈ xTG := xmemP 104 (by decide +kernel) (by decide +kernel)
theorem cv_RX12_316 : xCV RX12 316 md_X12_agentsBits 12 1 := ⟨_, _, _, cb_12, rfl, cw_X12_agentsBits, wd_1537, wd_1539, ws_104⟩
theorem wd_1192 : (Jvm.Cond.fieldLink "KnowledgeRoomModel" (147 : Nat) "KnowledgeRoomModel" "firstType" "[I") ∈ xTG := xmem 1192 (by decide +kernel) (by decide +kernel)
theorem fl_RX12_147 : xFL RX12 147 12 42 := ⟨_, _, _, cb_12, by decide, wd_1192⟩
theorem wd_1189 : (Jvm.Cond.fieldLink "KnowledgeRoomModel" (137 : Nat) "KnowledgeRoomModel" "left" "[Z") ∈ xTG := xmem 1189 (by decide +kernel) (by decide +kernel)
theorem fl_RX12_137 : xFL RX12 137 12 39 := ⟨_, _, _, cb_12, by decide, wd_1189⟩
theorem wd_1544 : (Jvm.Cond.code ({ cls := "KnowledgeRoomModel", name := "root", desc := "(I)I" } : Jvm.MethodName) prog_14_method_74_code (3 : Nat) (Option.some Jvm.ClassFile.FieldType.int)) ∈ xTG := xmem 1544 (by decide +kernel) (by decide +kernel)
theorem cw_X12_root : xcw md_X12_root 1 := ⟨wd_1544, wd_14, by decide +kernel, by decide⟩
theorem wd_1541 : (Jvm.Cond.methodLink "KnowledgeRoomModel" (319 : Nat) ({ cls := "KnowledgeRoomModel", name := "root", desc := "(I)I" } : Jvm.MethodName)) ∈ xTG := xmem 1541 (by decide +kernel) (by decide +kernel)
theorem wd_1543 : (Jvm.Cond.instanceMethod ({ cls := "KnowledgeRoomModel", name := "root", desc := "(I)I" } : Jvm.MethodName)) ∈ xTG := xmem 1543 (by decide +kernel) (by decide +kernel)
theorem ws_105 : Cond.selects "KnowledgeRoomModel" ⟨"KnowledgeRoomModel", "root", "(I)I"⟩ ⟨"KnowledgeRoomModel", "root", "(I)I"⟩ ∈ xTG := xmemP 105 (by decide +kernel) (by decide +kernel)
theorem cv_RX12_319 : xCV RX12 319 md_X12_root 12 1 := ⟨_, _, _, cb_12, rfl, cw_X12_root, wd_1541, wd_1543, ws_105⟩
abbrev md_X12_unite : xMd := (yX12_unite, cX12_unite, 6, none)
theorem wd_1536 : (Jvm.Cond.code ({ cls := "KnowledgeRoomModel", name := "unite", desc := "(II)V" } : Jvm.MethodName) prog_14_method_75_code (6 : Nat) (Option.none : Option Jvm.ClassFile.FieldType)) ∈ xTG := xmem 1536 (by decide +kernel) (by decide +kernel)
theorem cw_X12_unite : xcw md_X12_unite 2 := ⟨wd_1536, wd_14, by decide +kernel, by decide⟩
theorem wd_1533 : (Jvm.Cond.methodLink "KnowledgeRoomModel" (322 : Nat) ({ cls := "KnowledgeRoomModel", name := "unite", desc := "(II)V" } : Jvm.MethodName)) ∈ xTG := xmem 1533 (by decide +kernel) (by decide +kernel)
theorem wd_1535 : (Jvm.Cond.instanceMethod ({ cls := "KnowledgeRoomModel", name := "unite", desc := "(II)V" } : Jvm.MethodName)) ∈ xTG := xmem 1535 (by decide +kernel) (by decide +kernel)
theorem ws_103 : Cond.selects "KnowledgeRoomModel" ⟨"KnowledgeRoomModel", "unite", "(II)V"⟩ ⟨"KnowledgeRoomModel", "unite", "(II)V"⟩ ∈ xTG := xmemP 103 (by decide +kernel) (by decide +kernel)
theorem cv_RX12_322 : xCV RX12 322 md_X12_unite 12 2 := ⟨_, _, _, cb_12, rfl, cw_X12_unite, wd_1533, wd_1535, ws_103⟩
theorem wd_1190 : (Jvm.Cond.fieldLink "KnowledgeRoomModel" (141 : Nat) "KnowledgeRoomModel" "inner" "[I") ∈ xTG := xmem 1190 (by decide +kernel) (by decide +kernel)
theorem fl_RX12_141 : xFL RX12 141 12 40 := ⟨_, _, _, cb_12, by decide, wd_1190⟩
abbrev md_X12_sift : xMd := (yX12_sift, cX12_sift, 6, (some .boolean))
theorem wd_1504 : (Jvm.Cond.constant "KnowledgeRoomModel" (325 : Nat) (49664 : Int32)) ∈ xTG := xmem 1504 (by decide +kernel) (by decide +kernel)
theorem wd_1516 : (Jvm.Cond.code ({ cls := "KnowledgeRoomModel", name := "inBase", desc := "(I)V" } : Jvm.MethodName) prog_14_method_69_code (3 : Nat) (Option.none : Option Jvm.ClassFile.FieldType)) ∈ xTG := xmem 1516 (by decide +kernel) (by decide +kernel)
theorem cw_X12_inBase : xcw md_X12_inBase 1 := ⟨wd_1516, wd_14, by decide +kernel, by decide⟩
theorem wd_1513 : (Jvm.Cond.methodLink "KnowledgeRoomModel" (326 : Nat) ({ cls := "KnowledgeRoomModel", name := "inBase", desc := "(I)V" } : Jvm.MethodName)) ∈ xTG := xmem 1513 (by decide +kernel) (by decide +kernel)
theorem wd_1515 : (Jvm.Cond.instanceMethod ({ cls := "KnowledgeRoomModel", name := "inBase", desc := "(I)V" } : Jvm.MethodName)) ∈ xTG := xmem 1515 (by decide +kernel) (by decide +kernel)
theorem ws_98 : Cond.selects "KnowledgeRoomModel" ⟨"KnowledgeRoomModel", "inBase", "(I)V"⟩ ⟨"KnowledgeRoomModel", "inBase", "(I)V"⟩ ∈ xTG := xmemP 98 (by decide +kernel) (by decide +kernel)
theorem cv_RX12_326 : xCV RX12 326 md_X12_inBase 12 1 := ⟨_, _, _, cb_12, rfl, cw_X12_inBase, wd_1513, wd_1515, ws_98⟩
theorem wd_1520 : (Jvm.Cond.code ({ cls := "KnowledgeRoomModel", name := "reckon", desc := "(II)V" } : Jvm.MethodName) prog_14_method_71_code (8 : Nat) (Option.none : Option Jvm.ClassFile.FieldType)) ∈ xTG := xmem 1520 (by decide +kernel) (by decide +kernel)
theorem cw_X12_reckon : xcw md_X12_reckon 2 := ⟨wd_1520, wd_14, by decide +kernel, by decide⟩
theorem wd_1517 : (Jvm.Cond.methodLink "KnowledgeRoomModel" (329 : Nat) ({ cls := "KnowledgeRoomModel", name := "reckon", desc := "(II)V" } : Jvm.MethodName)) ∈ xTG := xmem 1517 (by decide +kernel) (by decide +kernel)
theorem wd_1519 : (Jvm.Cond.instanceMethod ({ cls := "KnowledgeRoomModel", name := "reckon", desc := "(II)V" } : Jvm.MethodName)) ∈ xTG := xmem 1519 (by decide +kernel) (by decide +kernel)
theorem ws_99 : Cond.selects "KnowledgeRoomModel" ⟨"KnowledgeRoomModel", "reckon", "(II)V"⟩ ⟨"KnowledgeRoomModel", "reckon", "(II)V"⟩ ∈ xTG := xmemP 99 (by decide +kernel) (by decide +kernel)
theorem cv_RX12_329 : xCV RX12 329 md_X12_reckon 12 2 := ⟨_, _, _, cb_12, rfl, cw_X12_reckon, wd_1517, wd_1519, ws_99⟩
theorem wd_1528 : (Jvm.Cond.code ({ cls := "KnowledgeRoomModel", name := "isType", desc := "(I)Z" } : Jvm.MethodName) prog_14_method_73_code (5 : Nat) (Option.some Jvm.ClassFile.FieldType.boolean)) ∈ xTG := xmem 1528 (by decide +kernel) (by decide +kernel)
theorem cw_X12_isType : xcw md_X12_isType 1 := ⟨wd_1528, wd_14, by decide +kernel, by decide⟩
theorem wd_1525 : (Jvm.Cond.methodLink "KnowledgeRoomModel" (332 : Nat) ({ cls := "KnowledgeRoomModel", name := "isType", desc := "(I)Z" } : Jvm.MethodName)) ∈ xTG := xmem 1525 (by decide +kernel) (by decide +kernel)
theorem wd_1527 : (Jvm.Cond.instanceMethod ({ cls := "KnowledgeRoomModel", name := "isType", desc := "(I)Z" } : Jvm.MethodName)) ∈ xTG := xmem 1527 (by decide +kernel) (by decide +kernel)
theorem ws_101 : Cond.selects "KnowledgeRoomModel" ⟨"KnowledgeRoomModel", "isType", "(I)Z"⟩ ⟨"KnowledgeRoomModel", "isType", "(I)Z"⟩ ∈ xTG := xmemP 101 (by decide +kernel) (by decide +kernel)
theorem cv_RX12_332 : xCV RX12 332 md_X12_isType 12 1 := ⟨_, _, _, cb_12, rfl, cw_X12_isType, wd_1525, wd_1527, ws_101⟩
theorem wd_1532 : (Jvm.Cond.code ({ cls := "KnowledgeRoomModel", name := "sift", desc := "(II)Z" } : Jvm.MethodName) prog_14_method_76_code (6 : Nat) (Option.some Jvm.ClassFile.FieldType.boolean)) ∈ xTG := xmem 1532 (by decide +kernel) (by decide +kernel)
theorem cw_X12_sift : xcw md_X12_sift 2 := ⟨wd_1532, wd_14, by decide +kernel, by decide⟩
theorem wd_1529 : (Jvm.Cond.methodLink "KnowledgeRoomModel" (335 : Nat) ({ cls := "KnowledgeRoomModel", name := "sift", desc := "(II)Z" } : Jvm.MethodName)) ∈ xTG := xmem 1529 (by decide +kernel) (by decide +kernel)
theorem wd_1531 : (Jvm.Cond.instanceMethod ({ cls := "KnowledgeRoomModel", name := "sift", desc := "(II)Z" } : Jvm.MethodName)) ∈ xTG := xmem 1531 (by decide +kernel) (by decide +kernel)
theorem ws_102 : Cond.selects "KnowledgeRoomModel" ⟨"KnowledgeRoomModel", "sift", "(II)Z"⟩ ⟨"KnowledgeRoomModel", "sift", "(II)Z"⟩ ∈ xTG := xmemP 102 (by decide +kernel) (by decide +kernel)
theorem cv_RX12_335 : xCV RX12 335 md_X12_sift 12 2 := ⟨_, _, _, cb_12, rfl, cw_X12_sift, wd_1529, wd_1531, ws_102⟩
abbrev md_X12_decide : xMd := (yX12_decide, cX12_decide, 10, (some .int))
abbrev md_X12_depth : xMd := (yX12_depth, cX12_depth, 5, (some .int))
theorem wd_1552 : (Jvm.Cond.code ({ cls := "KnowledgeRoomModel", name := "depth", desc := "(I)I" } : Jvm.MethodName) prog_14_method_78_code (5 : Nat) (Option.some Jvm.ClassFile.FieldType.int)) ∈ xTG := xmem 1552 (by decide +kernel) (by decide +kernel)
theorem cw_X12_depth : xcw md_X12_depth 1 := ⟨wd_1552, wd_14, by decide +kernel, by decide⟩
theorem wd_1549 : (Jvm.Cond.methodLink "KnowledgeRoomModel" (338 : Nat) ({ cls := "KnowledgeRoomModel", name := "depth", desc := "(I)I" } : Jvm.MethodName)) ∈ xTG := xmem 1549 (by decide +kernel) (by decide +kernel)
theorem wd_1551 : (Jvm.Cond.instanceMethod ({ cls := "KnowledgeRoomModel", name := "depth", desc := "(I)I" } : Jvm.MethodName)) ∈ xTG := xmem 1551 (by decide +kernel) (by decide +kernel)
theorem ws_106 : Cond.selects "KnowledgeRoomModel" ⟨"KnowledgeRoomModel", "depth", "(I)I"⟩ ⟨"KnowledgeRoomModel", "depth", "(I)I"⟩ ∈ xTG := xmemP 106 (by decide +kernel) (by decide +kernel)
theorem cv_RX12_338 : xCV RX12 338 md_X12_depth 12 1 := ⟨_, _, _, cb_12, rfl, cw_X12_depth, wd_1549, wd_1551, ws_106⟩
abbrev md_X12_count : xMd := (yX12_count, cX12_count, 2, (some .int))
