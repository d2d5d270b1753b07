/-! printed by wip/whole/genl.py -/
theorem wd_412 : (Jvm.Cond.code ({ cls := "KnowledgeRoom", name := "world", desc := "(I)I" } : Jvm.MethodName) prog_1_method_2_code (2 : Nat) (Option.some Jvm.ClassFile.FieldType.int)) ∈ xTG := xmem 412 (by decide +kernel) (by decide +kernel)
theorem cw_X11_world : xcw md_X11_world 1 := ⟨wd_412, wd_1, by decide +kernel, by decide⟩
theorem wd_409 : (Jvm.Cond.methodLink "KnowledgeRoomLaw" (13 : Nat) ({ cls := "KnowledgeRoom", name := "world", desc := "(I)I" } : Jvm.MethodName)) ∈ xTG := xmem 409 (by decide +kernel) (by decide +kernel)
theorem wd_410 : (Jvm.Cond.instanceMethod ({ cls := "KnowledgeRoom", name := "world", desc := "(I)I" } : Jvm.MethodName)) ∈ xTG := xmem 410 (by decide +kernel) (by decide +kernel)
theorem wd_411 : (Jvm.Cond.selects "KnowledgeRoom" ({ cls := "KnowledgeRoom", name := "world", desc := "(I)I" } : Jvm.MethodName) ({ cls := "KnowledgeRoom", name := "world", desc := "(I)I" } : Jvm.MethodName)) ∈ xTG := xmem 411 (by decide +kernel) (by decide +kernel)
theorem cv_RL_13 : xCV RL 13 md_X11_world 11 1 := ⟨_, _, _, cb_11, rfl, cw_X11_world, wd_409, wd_410, wd_411⟩
theorem wd_1089 : (Jvm.Cond.code ({ cls := "KnowledgeRoomModel", name := "world", desc := "(I)I" } : Jvm.MethodName) prog_14_method_11_code (3 : Nat) (Option.some Jvm.ClassFile.FieldType.int)) ∈ xTG := xmem 1089 (by decide +kernel) (by decide +kernel)
theorem cw_X12_world : xcw md_X12_world 1 := ⟨wd_1089, wd_14, by decide +kernel, by decide⟩
theorem wd_1086 : (Jvm.Cond.methodLink "KnowledgeRoomLaw" (17 : Nat) ({ cls := "KnowledgeRoomModel", name := "world", desc := "(I)I" } : Jvm.MethodName)) ∈ xTG := xmem 1086 (by decide +kernel) (by decide +kernel)
theorem wd_1087 : (Jvm.Cond.instanceMethod ({ cls := "KnowledgeRoomModel", name := "world", desc := "(I)I" } : Jvm.MethodName)) ∈ xTG := xmem 1087 (by decide +kernel) (by decide +kernel)
theorem wd_1088 : (Jvm.Cond.selects "KnowledgeRoomModel" ({ cls := "KnowledgeRoomModel", name := "world", desc := "(I)I" } : Jvm.MethodName) ({ cls := "KnowledgeRoomModel", name := "world", desc := "(I)I" } : Jvm.MethodName)) ∈ xTG := xmem 1088 (by decide +kernel) (by decide +kernel)
theorem cv_RL_17 : xCV RL 17 md_X12_world 12 1 := ⟨_, _, _, cb_12, rfl, cw_X12_world, wd_1086, wd_1087, wd_1088⟩
theorem wd_429 : (Jvm.Cond.code ({ cls := "KnowledgeRoom", name := "tie", desc := "(III)I" } : Jvm.MethodName) prog_1_method_3_code (4 : Nat) (Option.some Jvm.ClassFile.FieldType.int)) ∈ xTG := xmem 429 (by decide +kernel) (by decide +kernel)
theorem cw_X11_tie : xcw md_X11_tie 3 := ⟨wd_429, wd_1, by decide +kernel, by decide⟩
theorem wd_426 : (Jvm.Cond.methodLink "KnowledgeRoomLaw" (18 : Nat) ({ cls := "KnowledgeRoom", name := "tie", desc := "(III)I" } : Jvm.MethodName)) ∈ xTG := xmem 426 (by decide +kernel) (by decide +kernel)
theorem wd_427 : (Jvm.Cond.instanceMethod ({ cls := "KnowledgeRoom", name := "tie", desc := "(III)I" } : Jvm.MethodName)) ∈ xTG := xmem 427 (by decide +kernel) (by decide +kernel)
theorem wd_428 : (Jvm.Cond.selects "KnowledgeRoom" ({ cls := "KnowledgeRoom", name := "tie", desc := "(III)I" } : Jvm.MethodName) ({ cls := "KnowledgeRoom", name := "tie", desc := "(III)I" } : Jvm.MethodName)) ∈ xTG := xmem 428 (by decide +kernel) (by decide +kernel)
theorem cv_RL_18 : xCV RL 18 md_X11_tie 11 3 := ⟨_, _, _, cb_11, rfl, cw_X11_tie, wd_426, wd_427, wd_428⟩
theorem wd_1096 : (Jvm.Cond.code ({ cls := "KnowledgeRoomModel", name := "tie", desc := "(III)I" } : Jvm.MethodName) prog_14_method_12_code (6 : Nat) (Option.some Jvm.ClassFile.FieldType.int)) ∈ xTG := xmem 1096 (by decide +kernel) (by decide +kernel)
theorem cw_X12_tie : xcw md_X12_tie 3 := ⟨wd_1096, wd_14, by decide +kernel, by decide⟩
theorem wd_1093 : (Jvm.Cond.methodLink "KnowledgeRoomLaw" (22 : Nat) ({ cls := "KnowledgeRoomModel", name := "tie", desc := "(III)I" } : Jvm.MethodName)) ∈ xTG := xmem 1093 (by decide +kernel) (by decide +kernel)
theorem wd_1094 : (Jvm.Cond.instanceMethod ({ cls := "KnowledgeRoomModel", name := "tie", desc := "(III)I" } : Jvm.MethodName)) ∈ xTG := xmem 1094 (by decide +kernel) (by decide +kernel)
theorem wd_1095 : (Jvm.Cond.selects "KnowledgeRoomModel" ({ cls := "KnowledgeRoomModel", name := "tie", desc := "(III)I" } : Jvm.MethodName) ({ cls := "KnowledgeRoomModel", name := "tie", desc := "(III)I" } : Jvm.MethodName)) ∈ xTG := xmem 1095 (by decide +kernel) (by decide +kernel)
theorem cv_RL_22 : xCV RL 22 md_X12_tie 12 3 := ⟨_, _, _, cb_12, rfl, cw_X12_tie, wd_1093, wd_1094, wd_1095⟩
theorem wd_458 : (Jvm.Cond.code ({ cls := "KnowledgeRoom", name := "alone", desc := "(II)I" } : Jvm.MethodName) prog_1_method_4_code (3 : Nat) (Option.some Jvm.ClassFile.FieldType.int)) ∈ xTG := xmem 458 (by decide +kernel) (by decide +kernel)
theorem cw_X11_alone : xcw md_X11_alone 2 := ⟨wd_458, wd_1, by decide +kernel, by decide⟩
theorem wd_455 : (Jvm.Cond.methodLink "KnowledgeRoomLaw" (23 : Nat) ({ cls := "KnowledgeRoom", name := "alone", desc := "(II)I" } : Jvm.MethodName)) ∈ xTG := xmem 455 (by decide +kernel) (by decide +kernel)
theorem wd_456 : (Jvm.Cond.instanceMethod ({ cls := "KnowledgeRoom", name := "alone", desc := "(II)I" } : Jvm.MethodName)) ∈ xTG := xmem 456 (by decide +kernel) (by decide +kernel)
theorem wd_457 : (Jvm.Cond.selects "KnowledgeRoom" ({ cls := "KnowledgeRoom", name := "alone", desc := "(II)I" } : Jvm.MethodName) ({ cls := "KnowledgeRoom", name := "alone", desc := "(II)I" } : Jvm.MethodName)) ∈ xTG := xmem 457 (by decide +kernel) (by decide +kernel)
theorem cv_RL_23 : xCV RL 23 md_X11_alone 11 2 := ⟨_, _, _, cb_11, rfl, cw_X11_alone, wd_455, wd_456, wd_457⟩
theorem wd_1126 : (Jvm.Cond.code ({ cls := "KnowledgeRoomModel", name := "alone", desc := "(II)I" } : Jvm.MethodName) prog_14_method_13_code (5 : Nat) (Option.some Jvm.ClassFile.FieldType.int)) ∈ xTG := xmem 1126 (by decide +kernel) (by decide +kernel)
theorem cw_X12_alone : xcw md_X12_alone 2 := ⟨wd_1126, wd_14, by decide +kernel, by decide⟩
theorem wd_1123 : (Jvm.Cond.methodLink "KnowledgeRoomLaw" (27 : Nat) ({ cls := "KnowledgeRoomModel", name := "alone", desc := "(II)I" } : Jvm.MethodName)) ∈ xTG := xmem 1123 (by decide +kernel) (by decide +kernel)
theorem wd_1124 : (Jvm.Cond.instanceMethod ({ cls := "KnowledgeRoomModel", name := "alone", desc := "(II)I" } : Jvm.MethodName)) ∈ xTG := xmem 1124 (by decide +kernel) (by decide +kernel)
theorem wd_1125 : (Jvm.Cond.selects "KnowledgeRoomModel" ({ cls := "KnowledgeRoomModel", name := "alone", desc := "(II)I" } : Jvm.MethodName) ({ cls := "KnowledgeRoomModel", name := "alone", desc := "(II)I" } : Jvm.MethodName)) ∈ xTG := xmem 1125 (by decide +kernel) (by decide +kernel)
theorem cv_RL_27 : xCV RL 27 md_X12_alone 12 2 := ⟨_, _, _, cb_12, rfl, cw_X12_alone, wd_1123, wd_1124, wd_1125⟩
theorem wd_466 : (Jvm.Cond.code ({ cls := "KnowledgeRoom", name := "atom", desc := "(IIZ)I" } : Jvm.MethodName) prog_1_method_5_code (5 : Nat) (Option.some Jvm.ClassFile.FieldType.int)) ∈ xTG := xmem 466 (by decide +kernel) (by decide +kernel)
theorem cw_X11_atom : xcw md_X11_atom 3 := ⟨wd_466, wd_1, by decide +kernel, by decide⟩
theorem wd_463 : (Jvm.Cond.methodLink "KnowledgeRoomLaw" (28 : Nat) ({ cls := "KnowledgeRoom", name := "atom", desc := "(IIZ)I" } : Jvm.MethodName)) ∈ xTG := xmem 463 (by decide +kernel) (by decide +kernel)
theorem wd_464 : (Jvm.Cond.instanceMethod ({ cls := "KnowledgeRoom", name := "atom", desc := "(IIZ)I" } : Jvm.MethodName)) ∈ xTG := xmem 464 (by decide +kernel) (by decide +kernel)
theorem wd_465 : (Jvm.Cond.selects "KnowledgeRoom" ({ cls := "KnowledgeRoom", name := "atom", desc := "(IIZ)I" } : Jvm.MethodName) ({ cls := "KnowledgeRoom", name := "atom", desc := "(IIZ)I" } : Jvm.MethodName)) ∈ xTG := xmem 465 (by decide +kernel) (by decide +kernel)
theorem cv_RL_28 : xCV RL 28 md_X11_atom 11 3 := ⟨_, _, _, cb_11, rfl, cw_X11_atom, wd_463, wd_464, wd_465⟩
theorem wd_1131 : (Jvm.Cond.code ({ cls := "KnowledgeRoomModel", name := "atom", desc := "(IIZ)I" } : Jvm.MethodName) prog_14_method_14_code (5 : Nat) (Option.some Jvm.ClassFile.FieldType.int)) ∈ xTG := xmem 1131 (by decide +kernel) (by decide +kernel)
theorem cw_X12_atom : xcw md_X12_atom 3 := ⟨wd_1131, wd_14, by decide +kernel, by decide⟩
theorem wd_1128 : (Jvm.Cond.methodLink "KnowledgeRoomLaw" (32 : Nat) ({ cls := "KnowledgeRoomModel", name := "atom", desc := "(IIZ)I" } : Jvm.MethodName)) ∈ xTG := xmem 1128 (by decide +kernel) (by decide +kernel)
theorem wd_1129 : (Jvm.Cond.instanceMethod ({ cls := "KnowledgeRoomModel", name := "atom", desc := "(IIZ)I" } : Jvm.MethodName)) ∈ xTG := xmem 1129 (by decide +kernel) (by decide +kernel)
theorem wd_1130 : (Jvm.Cond.selects "KnowledgeRoomModel" ({ cls := "KnowledgeRoomModel", name := "atom", desc := "(IIZ)I" } : Jvm.MethodName) ({ cls := "KnowledgeRoomModel", name := "atom", desc := "(IIZ)I" } : Jvm.MethodName)) ∈ xTG := xmem 1130 (by decide +kernel) (by decide +kernel)
theorem cv_RL_32 : xCV RL 32 md_X12_atom 12 3 := ⟨_, _, _, cb_12, rfl, cw_X12_atom, wd_1128, wd_1129, wd_1130⟩
theorem wd_474 : (Jvm.Cond.code ({ cls := "KnowledgeRoom", name := "told", desc := "(II)I" } : Jvm.MethodName) prog_1_method_6_code (3 : Nat) (Option.some Jvm.ClassFile.FieldType.int)) ∈ xTG := xmem 474 (by decide +kernel) (by decide +kernel)
theorem cw_X11_told : xcw md_X11_told 2 := ⟨wd_474, wd_1, by decide +kernel, by decide⟩
theorem wd_471 : (Jvm.Cond.methodLink "KnowledgeRoomLaw" (33 : Nat) ({ cls := "KnowledgeRoom", name := "told", desc := "(II)I" } : Jvm.MethodName)) ∈ xTG := xmem 471 (by decide +kernel) (by decide +kernel)
theorem wd_472 : (Jvm.Cond.instanceMethod ({ cls := "KnowledgeRoom", name := "told", desc := "(II)I" } : Jvm.MethodName)) ∈ xTG := xmem 472 (by decide +kernel) (by decide +kernel)
theorem wd_473 : (Jvm.Cond.selects "KnowledgeRoom" ({ cls := "KnowledgeRoom", name := "told", desc := "(II)I" } : Jvm.MethodName) ({ cls := "KnowledgeRoom", name := "told", desc := "(II)I" } : Jvm.MethodName)) ∈ xTG := xmem 473 (by decide +kernel) (by decide +kernel)
theorem cv_RL_33 : xCV RL 33 md_X11_told 11 2 := ⟨_, _, _, cb_11, rfl, cw_X11_told, wd_471, wd_472, wd_473⟩
theorem wd_1135 : (Jvm.Cond.code ({ cls := "KnowledgeRoomModel", name := "told", desc := "(II)I" } : Jvm.MethodName) prog_14_method_15_code (3 : Nat) (Option.some Jvm.ClassFile.FieldType.int)) ∈ xTG := xmem 1135 (by decide +kernel) (by decide +kernel)
theorem cw_X12_told : xcw md_X12_told 2 := ⟨wd_1135, wd_14, by decide +kernel, by decide⟩
theorem wd_1132 : (Jvm.Cond.methodLink "KnowledgeRoomLaw" (36 : Nat) ({ cls := "KnowledgeRoomModel", name := "told", desc := "(II)I" } : Jvm.MethodName)) ∈ xTG := xmem 1132 (by decide +kernel) (by decide +kernel)
theorem wd_1133 : (Jvm.Cond.instanceMethod ({ cls := "KnowledgeRoomModel", name := "told", desc := "(II)I" } : Jvm.MethodName)) ∈ xTG := xmem 1133 (by decide +kernel) (by decide +kernel)
theorem wd_1134 : (Jvm.Cond.selects "KnowledgeRoomModel" ({ cls := "KnowledgeRoomModel", name := "told", desc := "(II)I" } : Jvm.MethodName) ({ cls := "KnowledgeRoomModel", name := "told", desc := "(II)I" } : Jvm.MethodName)) ∈ xTG := xmem 1134 (by decide +kernel) (by decide +kernel)
theorem cv_RL_36 : xCV RL 36 md_X12_told 12 2 := ⟨_, _, _, cb_12, rfl, cw_X12_told, wd_1132, wd_1133, wd_1134⟩
theorem wd_487 : (Jvm.Cond.code ({ cls := "KnowledgeRoom", name := "type", desc := "(I)I" } : Jvm.MethodName) prog_1_method_7_code (2 : Nat) (Option.some Jvm.ClassFile.FieldType.int)) ∈ xTG := xmem 487 (by decide +kernel) (by decide +kernel)
theorem cw_X11_type : xcw md_X11_type 1 := ⟨wd_487, wd_1, by decide +kernel, by decide⟩
theorem wd_484 : (Jvm.Cond.methodLink "KnowledgeRoomLaw" (37 : Nat) ({ cls := "KnowledgeRoom", name := "type", desc := "(I)I" } : Jvm.MethodName)) ∈ xTG := xmem 484 (by decide +kernel) (by decide +kernel)
theorem wd_485 : (Jvm.Cond.instanceMethod ({ cls := "KnowledgeRoom", name := "type", desc := "(I)I" } : Jvm.MethodName)) ∈ xTG := xmem 485 (by decide +kernel) (by decide +kernel)
theorem wd_486 : (Jvm.Cond.selects "KnowledgeRoom" ({ cls := "KnowledgeRoom", name := "type", desc := "(I)I" } : Jvm.MethodName) ({ cls := "KnowledgeRoom", name := "type", desc := "(I)I" } : Jvm.MethodName)) ∈ xTG := xmem 486 (by decide +kernel) (by decide +kernel)
theorem cv_RL_37 : xCV RL 37 md_X11_type 11 1 := ⟨_, _, _, cb_11, rfl, cw_X11_type, wd_484, wd_485, wd_486⟩
theorem wd_1286 : (Jvm.Cond.code ({ cls := "KnowledgeRoomModel", name := "type", desc := "(I)I" } : Jvm.MethodName) prog_14_method_23_code (2 : Nat) (Option.some Jvm.ClassFile.FieldType.int)) ∈ xTG := xmem 1286 (by decide +kernel) (by decide +kernel)
theorem cw_X12_type : xcw md_X12_type 1 := ⟨wd_1286, wd_14, by decide +kernel, by decide⟩
theorem wd_1283 : (Jvm.Cond.methodLink "KnowledgeRoomLaw" (40 : Nat) ({ cls := "KnowledgeRoomModel", name := "type", desc := "(I)I" } : Jvm.MethodName)) ∈ xTG := xmem 1283 (by decide +kernel) (by decide +kernel)
theorem wd_1284 : (Jvm.Cond.instanceMethod ({ cls := "KnowledgeRoomModel", name := "type", desc := "(I)I" } : Jvm.MethodName)) ∈ xTG := xmem 1284 (by decide +kernel) (by decide +kernel)
theorem wd_1285 : (Jvm.Cond.selects "KnowledgeRoomModel" ({ cls := "KnowledgeRoomModel", name := "type", desc := "(I)I" } : Jvm.MethodName) ({ cls := "KnowledgeRoomModel", name := "type", desc := "(I)I" } : Jvm.MethodName)) ∈ xTG := xmem 1285 (by decide +kernel) (by decide +kernel)
theorem cv_RL_40 : xCV RL 40 md_X12_type 12 1 := ⟨_, _, _, cb_12, rfl, cw_X12_type, wd_1283, wd_1284, wd_1285⟩
theorem wd_498 : (Jvm.Cond.code ({ cls := "KnowledgeRoom", name := "four", desc := "(I)I" } : Jvm.MethodName) prog_1_method_8_code (2 : Nat) (Option.some Jvm.ClassFile.FieldType.int)) ∈ xTG := xmem 498 (by decide +kernel) (by decide +kernel)
theorem cw_X11_four : xcw md_X11_four 1 := ⟨wd_498, wd_1, by decide +kernel, by decide⟩
theorem wd_495 : (Jvm.Cond.methodLink "KnowledgeRoomLaw" (41 : Nat) ({ cls := "KnowledgeRoom", name := "four", desc := "(I)I" } : Jvm.MethodName)) ∈ xTG := xmem 495 (by decide +kernel) (by decide +kernel)
theorem wd_496 : (Jvm.Cond.instanceMethod ({ cls := "KnowledgeRoom", name := "four", desc := "(I)I" } : Jvm.MethodName)) ∈ xTG := xmem 496 (by decide +kernel) (by decide +kernel)
theorem wd_497 : (Jvm.Cond.selects "KnowledgeRoom" ({ cls := "KnowledgeRoom", name := "four", desc := "(I)I" } : Jvm.MethodName) ({ cls := "KnowledgeRoom", name := "four", desc := "(I)I" } : Jvm.MethodName)) ∈ xTG := xmem 497 (by decide +kernel) (by decide +kernel)
theorem cv_RL_41 : xCV RL 41 md_X11_four 11 1 := ⟨_, _, _, cb_11, rfl, cw_X11_four, wd_495, wd_496, wd_497⟩
theorem wd_1290 : (Jvm.Cond.code ({ cls := "KnowledgeRoomModel", name := "four", desc := "(I)I" } : Jvm.MethodName) prog_14_method_24_code (5 : Nat) (Option.some Jvm.ClassFile.FieldType.int)) ∈ xTG := xmem 1290 (by decide +kernel) (by decide +kernel)
theorem cw_X12_four : xcw md_X12_four 1 := ⟨wd_1290, wd_14, by decide +kernel, by decide⟩
theorem wd_1287 : (Jvm.Cond.methodLink "KnowledgeRoomLaw" (44 : Nat) ({ cls := "KnowledgeRoomModel", name := "four", desc := "(I)I" } : Jvm.MethodName)) ∈ xTG := xmem 1287 (by decide +kernel) (by decide +kernel)
theorem wd_1288 : (Jvm.Cond.instanceMethod ({ cls := "KnowledgeRoomModel", name := "four", desc := "(I)I" } : Jvm.MethodName)) ∈ xTG := xmem 1288 (by decide +kernel) (by decide +kernel)
theorem wd_1289 : (Jvm.Cond.selects "KnowledgeRoomModel" ({ cls := "KnowledgeRoomModel", name := "four", desc := "(I)I" } : Jvm.MethodName) ({ cls := "KnowledgeRoomModel", name := "four", desc := "(I)I" } : Jvm.MethodName)) ∈ xTG := xmem 1289 (by decide +kernel) (by decide +kernel)
theorem cv_RL_44 : xCV RL 44 md_X12_four 12 1 := ⟨_, _, _, cb_12, rfl, cw_X12_four, wd_1287, wd_1288, wd_1289⟩
theorem wd_507 : (Jvm.Cond.code ({ cls := "KnowledgeRoom", name := "formula", desc := "()I" } : Jvm.MethodName) prog_1_method_9_code (2 : Nat) (Option.some Jvm.ClassFile.FieldType.int)) ∈ xTG := xmem 507 (by decide +kernel) (by decide +kernel)
theorem cw_X11_formula : xcw md_X11_formula 0 := ⟨wd_507, wd_1, by decide +kernel, by decide⟩
theorem wd_504 : (Jvm.Cond.methodLink "KnowledgeRoomLaw" (45 : Nat) ({ cls := "KnowledgeRoom", name := "formula", desc := "()I" } : Jvm.MethodName)) ∈ xTG := xmem 504 (by decide +kernel) (by decide +kernel)
theorem wd_505 : (Jvm.Cond.instanceMethod ({ cls := "KnowledgeRoom", name := "formula", desc := "()I" } : Jvm.MethodName)) ∈ xTG := xmem 505 (by decide +kernel) (by decide +kernel)
theorem wd_506 : (Jvm.Cond.selects "KnowledgeRoom" ({ cls := "KnowledgeRoom", name := "formula", desc := "()I" } : Jvm.MethodName) ({ cls := "KnowledgeRoom", name := "formula", desc := "()I" } : Jvm.MethodName)) ∈ xTG := xmem 506 (by decide +kernel) (by decide +kernel)
theorem cv_RL_45 : xCV RL 45 md_X11_formula 11 0 := ⟨_, _, _, cb_11, rfl, cw_X11_formula, wd_504, wd_505, wd_506⟩
theorem wd_1294 : (Jvm.Cond.code ({ cls := "KnowledgeRoomModel", name := "formula", desc := "()I" } : Jvm.MethodName) prog_14_method_35_code (4 : Nat) (Option.some Jvm.ClassFile.FieldType.int)) ∈ xTG := xmem 1294 (by decide +kernel) (by decide +kernel)
theorem cw_X12_formula : xcw md_X12_formula 0 := ⟨wd_1294, wd_14, by decide +kernel, by decide⟩
theorem wd_1291 : (Jvm.Cond.methodLink "KnowledgeRoomLaw" (49 : Nat) ({ cls := "KnowledgeRoomModel", name := "formula", desc := "()I" } : Jvm.MethodName)) ∈ xTG := xmem 1291 (by decide +kernel) (by decide +kernel)
theorem wd_1292 : (Jvm.Cond.instanceMethod ({ cls := "KnowledgeRoomModel", name := "formula", desc := "()I" } : Jvm.MethodName)) ∈ xTG := xmem 1292 (by decide +kernel) (by decide +kernel)
theorem wd_1293 : (Jvm.Cond.selects "KnowledgeRoomModel" ({ cls := "KnowledgeRoomModel", name := "formula", desc := "()I" } : Jvm.MethodName) ({ cls := "KnowledgeRoomModel", name := "formula", desc := "()I" } : Jvm.MethodName)) ∈ xTG := xmem 1293 (by decide +kernel) (by decide +kernel)
theorem cv_RL_49 : xCV RL 49 md_X12_formula 12 0 := ⟨_, _, _, cb_12, rfl, cw_X12_formula, wd_1291, wd_1292, wd_1293⟩
theorem wd_594 : (Jvm.Cond.code ({ cls := "KnowledgeRoom", name := "holds", desc := "(I)I" } : Jvm.MethodName) prog_1_method_10_code (2 : Nat) (Option.some Jvm.ClassFile.FieldType.int)) ∈ xTG := xmem 594 (by decide +kernel) (by decide +kernel)
theorem cw_X11_holds : xcw md_X11_holds 1 := ⟨wd_594, wd_1, by decide +kernel, by decide⟩
theorem wd_591 : (Jvm.Cond.methodLink "KnowledgeRoomLaw" (50 : Nat) ({ cls := "KnowledgeRoom", name := "holds", desc := "(I)I" } : Jvm.MethodName)) ∈ xTG := xmem 591 (by decide +kernel) (by decide +kernel)
theorem wd_592 : (Jvm.Cond.instanceMethod ({ cls := "KnowledgeRoom", name := "holds", desc := "(I)I" } : Jvm.MethodName)) ∈ xTG := xmem 592 (by decide +kernel) (by decide +kernel)
theorem wd_593 : (Jvm.Cond.selects "KnowledgeRoom" ({ cls := "KnowledgeRoom", name := "holds", desc := "(I)I" } : Jvm.MethodName) ({ cls := "KnowledgeRoom", name := "holds", desc := "(I)I" } : Jvm.MethodName)) ∈ xTG := xmem 593 (by decide +kernel) (by decide +kernel)
theorem cv_RL_50 : xCV RL 50 md_X11_holds 11 1 := ⟨_, _, _, cb_11, rfl, cw_X11_holds, wd_591, wd_592, wd_593⟩
theorem wd_1346 : (Jvm.Cond.code ({ cls := "KnowledgeRoomModel", name := "holds", desc := "(I)I" } : Jvm.MethodName) prog_14_method_41_code (2 : Nat) (Option.some Jvm.ClassFile.FieldType.int)) ∈ xTG := xmem 1346 (by decide +kernel) (by decide +kernel)
theorem cw_X12_holds : xcw md_X12_holds 1 := ⟨wd_1346, wd_14, by decide +kernel, by decide⟩
theorem wd_1343 : (Jvm.Cond.methodLink "KnowledgeRoomLaw" (53 : Nat) ({ cls := "KnowledgeRoomModel", name := "holds", desc := "(I)I" } : Jvm.MethodName)) ∈ xTG := xmem 1343 (by decide +kernel) (by decide +kernel)
theorem wd_1344 : (Jvm.Cond.instanceMethod ({ cls := "KnowledgeRoomModel", name := "holds", desc := "(I)I" } : Jvm.MethodName)) ∈ xTG := xmem 1344 (by decide +kernel) (by decide +kernel)
theorem wd_1345 : (Jvm.Cond.selects "KnowledgeRoomModel" ({ cls := "KnowledgeRoomModel", name := "holds", desc := "(I)I" } : Jvm.MethodName) ({ cls := "KnowledgeRoomModel", name := "holds", desc := "(I)I" } : Jvm.MethodName)) ∈ xTG := xmem 1345 (by decide +kernel) (by decide +kernel)
theorem cv_RL_53 : xCV RL 53 md_X12_holds 12 1 := ⟨_, _, _, cb_12, rfl, cw_X12_holds, wd_1343, wd_1344, wd_1345⟩
theorem wd_657 : (Jvm.Cond.code ({ cls := "KnowledgeRoom", name := "worlds", desc := "()I" } : Jvm.MethodName) prog_1_method_11_code (1 : Nat) (Option.some Jvm.ClassFile.FieldType.int)) ∈ xTG := xmem 657 (by decide +kernel) (by decide +kernel)
theorem cw_X11_worlds : xcw md_X11_worlds 0 := ⟨wd_657, wd_1, by decide +kernel, by decide⟩
theorem wd_654 : (Jvm.Cond.methodLink "KnowledgeRoomLaw" (54 : Nat) ({ cls := "KnowledgeRoom", name := "worlds", desc := "()I" } : Jvm.MethodName)) ∈ xTG := xmem 654 (by decide +kernel) (by decide +kernel)
theorem wd_655 : (Jvm.Cond.instanceMethod ({ cls := "KnowledgeRoom", name := "worlds", desc := "()I" } : Jvm.MethodName)) ∈ xTG := xmem 655 (by decide +kernel) (by decide +kernel)
theorem wd_656 : (Jvm.Cond.selects "KnowledgeRoom" ({ cls := "KnowledgeRoom", name := "worlds", desc := "()I" } : Jvm.MethodName) ({ cls := "KnowledgeRoom", name := "worlds", desc := "()I" } : Jvm.MethodName)) ∈ xTG := xmem 656 (by decide +kernel) (by decide +kernel)
theorem cv_RL_54 : xCV RL 54 md_X11_worlds 11 0 := ⟨_, _, _, cb_11, rfl, cw_X11_worlds, wd_654, wd_655, wd_656⟩
theorem wd_1370 : (Jvm.Cond.code ({ cls := "KnowledgeRoomModel", name := "worlds", desc := "()I" } : Jvm.MethodName) prog_14_method_42_code (1 : Nat) (Option.some Jvm.ClassFile.FieldType.int)) ∈ xTG := xmem 1370 (by decide +kernel) (by decide +kernel)
theorem cw_X12_worlds : xcw md_X12_worlds 0 := ⟨wd_1370, wd_14, by decide +kernel, by decide⟩
theorem wd_1367 : (Jvm.Cond.methodLink "KnowledgeRoomLaw" (57 : Nat) ({ cls := "KnowledgeRoomModel", name := "worlds", desc := "()I" } : Jvm.MethodName)) ∈ xTG := xmem 1367 (by decide +kernel) (by decide +kernel)
theorem wd_1368 : (Jvm.Cond.instanceMethod ({ cls := "KnowledgeRoomModel", name := "worlds", desc := "()I" } : Jvm.MethodName)) ∈ xTG := xmem 1368 (by decide +kernel) (by decide +kernel)
theorem wd_1369 : (Jvm.Cond.selects "KnowledgeRoomModel" ({ cls := "KnowledgeRoomModel", name := "worlds", desc := "()I" } : Jvm.MethodName) ({ cls := "KnowledgeRoomModel", name := "worlds", desc := "()I" } : Jvm.MethodName)) ∈ xTG := xmem 1369 (by decide +kernel) (by decide +kernel)
theorem cv_RL_57 : xCV RL 57 md_X12_worlds 12 0 := ⟨_, _, _, cb_12, rfl, cw_X12_worlds, wd_1367, wd_1368, wd_1369⟩
theorem wd_661 : (Jvm.Cond.code ({ cls := "KnowledgeRoom", name := "tell", desc := "()I" } : Jvm.MethodName) prog_1_method_12_code (1 : Nat) (Option.some Jvm.ClassFile.FieldType.int)) ∈ xTG := xmem 661 (by decide +kernel) (by decide +kernel)
theorem cw_X11_tell : xcw md_X11_tell 0 := ⟨wd_661, wd_1, by decide +kernel, by decide⟩
theorem wd_658 : (Jvm.Cond.methodLink "KnowledgeRoomLaw" (58 : Nat) ({ cls := "KnowledgeRoom", name := "tell", desc := "()I" } : Jvm.MethodName)) ∈ xTG := xmem 658 (by decide +kernel) (by decide +kernel)
theorem wd_659 : (Jvm.Cond.instanceMethod ({ cls := "KnowledgeRoom", name := "tell", desc := "()I" } : Jvm.MethodName)) ∈ xTG := xmem 659 (by decide +kernel) (by decide +kernel)
theorem wd_660 : (Jvm.Cond.selects "KnowledgeRoom" ({ cls := "KnowledgeRoom", name := "tell", desc := "()I" } : Jvm.MethodName) ({ cls := "KnowledgeRoom", name := "tell", desc := "()I" } : Jvm.MethodName)) ∈ xTG := xmem 660 (by decide +kernel) (by decide +kernel)
theorem cv_RL_58 : xCV RL 58 md_X11_tell 11 0 := ⟨_, _, _, cb_11, rfl, cw_X11_tell, wd_658, wd_659, wd_660⟩
theorem wd_1374 : (Jvm.Cond.code ({ cls := "KnowledgeRoomModel", name := "tell", desc := "()I" } : Jvm.MethodName) prog_14_method_46_code (1 : Nat) (Option.some Jvm.ClassFile.FieldType.int)) ∈ xTG := xmem 1374 (by decide +kernel) (by decide +kernel)
theorem cw_X12_tell : xcw md_X12_tell 0 := ⟨wd_1374, wd_14, by decide +kernel, by decide⟩
theorem wd_1371 : (Jvm.Cond.methodLink "KnowledgeRoomLaw" (61 : Nat) ({ cls := "KnowledgeRoomModel", name := "tell", desc := "()I" } : Jvm.MethodName)) ∈ xTG := xmem 1371 (by decide +kernel) (by decide +kernel)
theorem wd_1372 : (Jvm.Cond.instanceMethod ({ cls := "KnowledgeRoomModel", name := "tell", desc := "()I" } : Jvm.MethodName)) ∈ xTG := xmem 1372 (by decide +kernel) (by decide +kernel)
theorem wd_1373 : (Jvm.Cond.selects "KnowledgeRoomModel" ({ cls := "KnowledgeRoomModel", name := "tell", desc := "()I" } : Jvm.MethodName) ({ cls := "KnowledgeRoomModel", name := "tell", desc := "()I" } : Jvm.MethodName)) ∈ xTG := xmem 1373 (by decide +kernel) (by decide +kernel)
theorem cv_RL_61 : xCV RL 61 md_X12_tell 12 0 := ⟨_, _, _, cb_12, rfl, cw_X12_tell, wd_1371, wd_1372, wd_1373⟩
theorem wd_697 : (Jvm.Cond.code ({ cls := "KnowledgeRoom", name := "letter", desc := "(I)I" } : Jvm.MethodName) prog_1_method_13_code (2 : Nat) (Option.some Jvm.ClassFile.FieldType.int)) ∈ xTG := xmem 697 (by decide +kernel) (by decide +kernel)
theorem cw_X11_letter : xcw md_X11_letter 1 := ⟨wd_697, wd_1, by decide +kernel, by decide⟩
theorem wd_694 : (Jvm.Cond.methodLink "KnowledgeRoomLaw" (62 : Nat) ({ cls := "KnowledgeRoom", name := "letter", desc := "(I)I" } : Jvm.MethodName)) ∈ xTG := xmem 694 (by decide +kernel) (by decide +kernel)
theorem wd_695 : (Jvm.Cond.instanceMethod ({ cls := "KnowledgeRoom", name := "letter", desc := "(I)I" } : Jvm.MethodName)) ∈ xTG := xmem 695 (by decide +kernel) (by decide +kernel)
theorem wd_696 : (Jvm.Cond.selects "KnowledgeRoom" ({ cls := "KnowledgeRoom", name := "letter", desc := "(I)I" } : Jvm.MethodName) ({ cls := "KnowledgeRoom", name := "letter", desc := "(I)I" } : Jvm.MethodName)) ∈ xTG := xmem 696 (by decide +kernel) (by decide +kernel)
theorem cv_RL_62 : xCV RL 62 md_X11_letter 11 1 := ⟨_, _, _, cb_11, rfl, cw_X11_letter, wd_694, wd_695, wd_696⟩
theorem wd_1411 : (Jvm.Cond.code ({ cls := "KnowledgeRoomModel", name := "letter", desc := "(I)I" } : Jvm.MethodName) prog_14_method_47_code (2 : Nat) (Option.some Jvm.ClassFile.FieldType.int)) ∈ xTG := xmem 1411 (by decide +kernel) (by decide +kernel)
theorem cw_X12_letter : xcw md_X12_letter 1 := ⟨wd_1411, wd_14, by decide +kernel, by decide⟩
theorem wd_1408 : (Jvm.Cond.methodLink "KnowledgeRoomLaw" (65 : Nat) ({ cls := "KnowledgeRoomModel", name := "letter", desc := "(I)I" } : Jvm.MethodName)) ∈ xTG := xmem 1408 (by decide +kernel) (by decide +kernel)
theorem wd_1409 : (Jvm.Cond.instanceMethod ({ cls := "KnowledgeRoomModel", name := "letter", desc := "(I)I" } : Jvm.MethodName)) ∈ xTG := xmem 1409 (by decide +kernel) (by decide +kernel)
theorem wd_1410 : (Jvm.Cond.selects "KnowledgeRoomModel" ({ cls := "KnowledgeRoomModel", name := "letter", desc := "(I)I" } : Jvm.MethodName) ({ cls := "KnowledgeRoomModel", name := "letter", desc := "(I)I" } : Jvm.MethodName)) ∈ xTG := xmem 1410 (by decide +kernel) (by decide +kernel)
theorem cv_RL_65 : xCV RL 65 md_X12_letter 12 1 := ⟨_, _, _, cb_12, rfl, cw_X12_letter, wd_1408, wd_1409, wd_1410⟩
theorem wd_701 : (Jvm.Cond.code ({ cls := "KnowledgeRoom", name := "say", desc := "()I" } : Jvm.MethodName) prog_1_method_14_code (3 : Nat) (Option.some Jvm.ClassFile.FieldType.int)) ∈ xTG := xmem 701 (by decide +kernel) (by decide +kernel)
theorem cw_X11_say : xcw md_X11_say 0 := ⟨wd_701, wd_1, by decide +kernel, by decide⟩
theorem wd_698 : (Jvm.Cond.methodLink "KnowledgeRoomLaw" (66 : Nat) ({ cls := "KnowledgeRoom", name := "say", desc := "()I" } : Jvm.MethodName)) ∈ xTG := xmem 698 (by decide +kernel) (by decide +kernel)
theorem wd_699 : (Jvm.Cond.instanceMethod ({ cls := "KnowledgeRoom", name := "say", desc := "()I" } : Jvm.MethodName)) ∈ xTG := xmem 699 (by decide +kernel) (by decide +kernel)
theorem wd_700 : (Jvm.Cond.selects "KnowledgeRoom" ({ cls := "KnowledgeRoom", name := "say", desc := "()I" } : Jvm.MethodName) ({ cls := "KnowledgeRoom", name := "say", desc := "()I" } : Jvm.MethodName)) ∈ xTG := xmem 700 (by decide +kernel) (by decide +kernel)
theorem cv_RL_66 : xCV RL 66 md_X11_say 11 0 := ⟨_, _, _, cb_11, rfl, cw_X11_say, wd_698, wd_699, wd_700⟩
theorem wd_1415 : (Jvm.Cond.code ({ cls := "KnowledgeRoomModel", name := "say", desc := "()I" } : Jvm.MethodName) prog_14_method_49_code (3 : Nat) (Option.some Jvm.ClassFile.FieldType.int)) ∈ xTG := xmem 1415 (by decide +kernel) (by decide +kernel)
theorem cw_X12_say : xcw md_X12_say 0 := ⟨wd_1415, wd_14, by decide +kernel, by decide⟩
theorem wd_1412 : (Jvm.Cond.methodLink "KnowledgeRoomLaw" (69 : Nat) ({ cls := "KnowledgeRoomModel", name := "say", desc := "()I" } : Jvm.MethodName)) ∈ xTG := xmem 1412 (by decide +kernel) (by decide +kernel)
theorem wd_1413 : (Jvm.Cond.instanceMethod ({ cls := "KnowledgeRoomModel", name := "say", desc := "()I" } : Jvm.MethodName)) ∈ xTG := xmem 1413 (by decide +kernel) (by decide +kernel)
theorem wd_1414 : (Jvm.Cond.selects "KnowledgeRoomModel" ({ cls := "KnowledgeRoomModel", name := "say", desc := "()I" } : Jvm.MethodName) ({ cls := "KnowledgeRoomModel", name := "say", desc := "()I" } : Jvm.MethodName)) ∈ xTG := xmem 1414 (by decide +kernel) (by decide +kernel)
theorem cv_RL_69 : xCV RL 69 md_X12_say 12 0 := ⟨_, _, _, cb_12, rfl, cw_X12_say, wd_1412, wd_1413, wd_1414⟩
theorem wd_734 : (Jvm.Cond.code ({ cls := "KnowledgeRoom", name := "event", desc := "()I" } : Jvm.MethodName) prog_1_method_15_code (1 : Nat) (Option.some Jvm.ClassFile.FieldType.int)) ∈ xTG := xmem 734 (by decide +kernel) (by decide +kernel)
theorem cw_X11_event : xcw md_X11_event 0 := ⟨wd_734, wd_1, by decide +kernel, by decide⟩
theorem wd_731 : (Jvm.Cond.methodLink "KnowledgeRoomLaw" (70 : Nat) ({ cls := "KnowledgeRoom", name := "event", desc := "()I" } : Jvm.MethodName)) ∈ xTG := xmem 731 (by decide +kernel) (by decide +kernel)
theorem wd_732 : (Jvm.Cond.instanceMethod ({ cls := "KnowledgeRoom", name := "event", desc := "()I" } : Jvm.MethodName)) ∈ xTG := xmem 732 (by decide +kernel) (by decide +kernel)
theorem wd_733 : (Jvm.Cond.selects "KnowledgeRoom" ({ cls := "KnowledgeRoom", name := "event", desc := "()I" } : Jvm.MethodName) ({ cls := "KnowledgeRoom", name := "event", desc := "()I" } : Jvm.MethodName)) ∈ xTG := xmem 733 (by decide +kernel) (by decide +kernel)
theorem cv_RL_70 : xCV RL 70 md_X11_event 11 0 := ⟨_, _, _, cb_11, rfl, cw_X11_event, wd_731, wd_732, wd_733⟩
theorem wd_1431 : (Jvm.Cond.code ({ cls := "KnowledgeRoomModel", name := "event", desc := "()I" } : Jvm.MethodName) prog_14_method_51_code (2 : Nat) (Option.some Jvm.ClassFile.FieldType.int)) ∈ xTG := xmem 1431 (by decide +kernel) (by decide +kernel)
theorem cw_X12_event : xcw md_X12_event 0 := ⟨wd_1431, wd_14, by decide +kernel, by decide⟩
theorem wd_1428 : (Jvm.Cond.methodLink "KnowledgeRoomLaw" (73 : Nat) ({ cls := "KnowledgeRoomModel", name := "event", desc := "()I" } : Jvm.MethodName)) ∈ xTG := xmem 1428 (by decide +kernel) (by decide +kernel)
theorem wd_1429 : (Jvm.Cond.instanceMethod ({ cls := "KnowledgeRoomModel", name := "event", desc := "()I" } : Jvm.MethodName)) ∈ xTG := xmem 1429 (by decide +kernel) (by decide +kernel)
theorem wd_1430 : (Jvm.Cond.selects "KnowledgeRoomModel" ({ cls := "KnowledgeRoomModel", name := "event", desc := "()I" } : Jvm.MethodName) ({ cls := "KnowledgeRoomModel", name := "event", desc := "()I" } : Jvm.MethodName)) ∈ xTG := xmem 1430 (by decide +kernel) (by decide +kernel)
theorem cv_RL_73 : xCV RL 73 md_X12_event 12 0 := ⟨_, _, _, cb_12, rfl, cw_X12_event, wd_1428, wd_1429, wd_1430⟩
theorem wd_743 : (Jvm.Cond.code ({ cls := "KnowledgeRoom", name := "tieEvents", desc := "(III)I" } : Jvm.MethodName) prog_1_method_16_code (4 : Nat) (Option.some Jvm.ClassFile.FieldType.int)) ∈ xTG := xmem 743 (by decide +kernel) (by decide +kernel)
theorem cw_X11_tieEvents : xcw md_X11_tieEvents 3 := ⟨wd_743, wd_1, by decide +kernel, by decide⟩
theorem wd_740 : (Jvm.Cond.methodLink "KnowledgeRoomLaw" (74 : Nat) ({ cls := "KnowledgeRoom", name := "tieEvents", desc := "(III)I" } : Jvm.MethodName)) ∈ xTG := xmem 740 (by decide +kernel) (by decide +kernel)
theorem wd_741 : (Jvm.Cond.instanceMethod ({ cls := "KnowledgeRoom", name := "tieEvents", desc := "(III)I" } : Jvm.MethodName)) ∈ xTG := xmem 741 (by decide +kernel) (by decide +kernel)
theorem wd_742 : (Jvm.Cond.selects "KnowledgeRoom" ({ cls := "KnowledgeRoom", name := "tieEvents", desc := "(III)I" } : Jvm.MethodName) ({ cls := "KnowledgeRoom", name := "tieEvents", desc := "(III)I" } : Jvm.MethodName)) ∈ xTG := xmem 742 (by decide +kernel) (by decide +kernel)
theorem cv_RL_74 : xCV RL 74 md_X11_tieEvents 11 3 := ⟨_, _, _, cb_11, rfl, cw_X11_tieEvents, wd_740, wd_741, wd_742⟩
theorem wd_1439 : (Jvm.Cond.code ({ cls := "KnowledgeRoomModel", name := "tieEvents", desc := "(III)I" } : Jvm.MethodName) prog_14_method_52_code (9 : Nat) (Option.some Jvm.ClassFile.FieldType.int)) ∈ xTG := xmem 1439 (by decide +kernel) (by decide +kernel)
theorem cw_X12_tieEvents : xcw md_X12_tieEvents 3 := ⟨wd_1439, wd_14, by decide +kernel, by decide⟩
theorem wd_1436 : (Jvm.Cond.methodLink "KnowledgeRoomLaw" (77 : Nat) ({ cls := "KnowledgeRoomModel", name := "tieEvents", desc := "(III)I" } : Jvm.MethodName)) ∈ xTG := xmem 1436 (by decide +kernel) (by decide +kernel)
theorem wd_1437 : (Jvm.Cond.instanceMethod ({ cls := "KnowledgeRoomModel", name := "tieEvents", desc := "(III)I" } : Jvm.MethodName)) ∈ xTG := xmem 1437 (by decide +kernel) (by decide +kernel)
theorem wd_1438 : (Jvm.Cond.selects "KnowledgeRoomModel" ({ cls := "KnowledgeRoomModel", name := "tieEvents", desc := "(III)I" } : Jvm.MethodName) ({ cls := "KnowledgeRoomModel", name := "tieEvents", desc := "(III)I" } : Jvm.MethodName)) ∈ xTG := xmem 1438 (by decide +kernel) (by decide +kernel)
theorem cv_RL_77 : xCV RL 77 md_X12_tieEvents 12 3 := ⟨_, _, _, cb_12, rfl, cw_X12_tieEvents, wd_1436, wd_1437, wd_1438⟩
theorem wd_761 : (Jvm.Cond.code ({ cls := "KnowledgeRoom", name := "change", desc := "(II)I" } : Jvm.MethodName) prog_1_method_17_code (3 : Nat) (Option.some Jvm.ClassFile.FieldType.int)) ∈ xTG := xmem 761 (by decide +kernel) (by decide +kernel)
theorem cw_X11_change : xcw md_X11_change 2 := ⟨wd_761, wd_1, by decide +kernel, by decide⟩
theorem wd_758 : (Jvm.Cond.methodLink "KnowledgeRoomLaw" (78 : Nat) ({ cls := "KnowledgeRoom", name := "change", desc := "(II)I" } : Jvm.MethodName)) ∈ xTG := xmem 758 (by decide +kernel) (by decide +kernel)
theorem wd_759 : (Jvm.Cond.instanceMethod ({ cls := "KnowledgeRoom", name := "change", desc := "(II)I" } : Jvm.MethodName)) ∈ xTG := xmem 759 (by decide +kernel) (by decide +kernel)
theorem wd_760 : (Jvm.Cond.selects "KnowledgeRoom" ({ cls := "KnowledgeRoom", name := "change", desc := "(II)I" } : Jvm.MethodName) ({ cls := "KnowledgeRoom", name := "change", desc := "(II)I" } : Jvm.MethodName)) ∈ xTG := xmem 760 (by decide +kernel) (by decide +kernel)
theorem cv_RL_78 : xCV RL 78 md_X11_change 11 2 := ⟨_, _, _, cb_11, rfl, cw_X11_change, wd_758, wd_759, wd_760⟩
theorem wd_1447 : (Jvm.Cond.code ({ cls := "KnowledgeRoomModel", name := "change", desc := "(II)I" } : Jvm.MethodName) prog_14_method_53_code (3 : Nat) (Option.some Jvm.ClassFile.FieldType.int)) ∈ xTG := xmem 1447 (by decide +kernel) (by decide +kernel)
theorem cw_X12_change : xcw md_X12_change 2 := ⟨wd_1447, wd_14, by decide +kernel, by decide⟩
theorem wd_1444 : (Jvm.Cond.methodLink "KnowledgeRoomLaw" (81 : Nat) ({ cls := "KnowledgeRoomModel", name := "change", desc := "(II)I" } : Jvm.MethodName)) ∈ xTG := xmem 1444 (by decide +kernel) (by decide +kernel)
theorem wd_1445 : (Jvm.Cond.instanceMethod ({ cls := "KnowledgeRoomModel", name := "change", desc := "(II)I" } : Jvm.MethodName)) ∈ xTG := xmem 1445 (by decide +kernel) (by decide +kernel)
theorem wd_1446 : (Jvm.Cond.selects "KnowledgeRoomModel" ({ cls := "KnowledgeRoomModel", name := "change", desc := "(II)I" } : Jvm.MethodName) ({ cls := "KnowledgeRoomModel", name := "change", desc := "(II)I" } : Jvm.MethodName)) ∈ xTG := xmem 1446 (by decide +kernel) (by decide +kernel)
theorem cv_RL_81 : xCV RL 81 md_X12_change 12 2 := ⟨_, _, _, cb_12, rfl, cw_X12_change, wd_1444, wd_1445, wd_1446⟩
theorem wd_769 : (Jvm.Cond.code ({ cls := "KnowledgeRoom", name := "noEvents", desc := "()I" } : Jvm.MethodName) prog_1_method_18_code (2 : Nat) (Option.some Jvm.ClassFile.FieldType.int)) ∈ xTG := xmem 769 (by decide +kernel) (by decide +kernel)
theorem cw_X11_noEvents : xcw md_X11_noEvents 0 := ⟨wd_769, wd_1, by decide +kernel, by decide⟩
theorem wd_766 : (Jvm.Cond.methodLink "KnowledgeRoomLaw" (82 : Nat) ({ cls := "KnowledgeRoom", name := "noEvents", desc := "()I" } : Jvm.MethodName)) ∈ xTG := xmem 766 (by decide +kernel) (by decide +kernel)
theorem wd_767 : (Jvm.Cond.instanceMethod ({ cls := "KnowledgeRoom", name := "noEvents", desc := "()I" } : Jvm.MethodName)) ∈ xTG := xmem 767 (by decide +kernel) (by decide +kernel)
theorem wd_768 : (Jvm.Cond.selects "KnowledgeRoom" ({ cls := "KnowledgeRoom", name := "noEvents", desc := "()I" } : Jvm.MethodName) ({ cls := "KnowledgeRoom", name := "noEvents", desc := "()I" } : Jvm.MethodName)) ∈ xTG := xmem 768 (by decide +kernel) (by decide +kernel)
theorem cv_RL_82 : xCV RL 82 md_X11_noEvents 11 0 := ⟨_, _, _, cb_11, rfl, cw_X11_noEvents, wd_766, wd_767, wd_768⟩
theorem wd_1451 : (Jvm.Cond.code ({ cls := "KnowledgeRoomModel", name := "noEvents", desc := "()I" } : Jvm.MethodName) prog_14_method_54_code (2 : Nat) (Option.some Jvm.ClassFile.FieldType.int)) ∈ xTG := xmem 1451 (by decide +kernel) (by decide +kernel)
theorem cw_X12_noEvents : xcw md_X12_noEvents 0 := ⟨wd_1451, wd_14, by decide +kernel, by decide⟩
theorem wd_1448 : (Jvm.Cond.methodLink "KnowledgeRoomLaw" (85 : Nat) ({ cls := "KnowledgeRoomModel", name := "noEvents", desc := "()I" } : Jvm.MethodName)) ∈ xTG := xmem 1448 (by decide +kernel) (by decide +kernel)
theorem wd_1449 : (Jvm.Cond.instanceMethod ({ cls := "KnowledgeRoomModel", name := "noEvents", desc := "()I" } : Jvm.MethodName)) ∈ xTG := xmem 1449 (by decide +kernel) (by decide +kernel)
theorem wd_1450 : (Jvm.Cond.selects "KnowledgeRoomModel" ({ cls := "KnowledgeRoomModel", name := "noEvents", desc := "()I" } : Jvm.MethodName) ({ cls := "KnowledgeRoomModel", name := "noEvents", desc := "()I" } : Jvm.MethodName)) ∈ xTG := xmem 1450 (by decide +kernel) (by decide +kernel)
theorem cv_RL_85 : xCV RL 85 md_X12_noEvents 12 0 := ⟨_, _, _, cb_12, rfl, cw_X12_noEvents, wd_1448, wd_1449, wd_1450⟩
theorem wd_773 : (Jvm.Cond.code ({ cls := "KnowledgeRoom", name := "happen", desc := "()I" } : Jvm.MethodName) prog_1_method_19_code (3 : Nat) (Option.some Jvm.ClassFile.FieldType.int)) ∈ xTG := xmem 773 (by decide +kernel) (by decide +kernel)
theorem cw_X11_happen : xcw md_X11_happen 0 := ⟨wd_773, wd_1, by decide +kernel, by decide⟩
theorem wd_770 : (Jvm.Cond.methodLink "KnowledgeRoomLaw" (86 : Nat) ({ cls := "KnowledgeRoom", name := "happen", desc := "()I" } : Jvm.MethodName)) ∈ xTG := xmem 770 (by decide +kernel) (by decide +kernel)
theorem wd_771 : (Jvm.Cond.instanceMethod ({ cls := "KnowledgeRoom", name := "happen", desc := "()I" } : Jvm.MethodName)) ∈ xTG := xmem 771 (by decide +kernel) (by decide +kernel)
theorem wd_772 : (Jvm.Cond.selects "KnowledgeRoom" ({ cls := "KnowledgeRoom", name := "happen", desc := "()I" } : Jvm.MethodName) ({ cls := "KnowledgeRoom", name := "happen", desc := "()I" } : Jvm.MethodName)) ∈ xTG := xmem 772 (by decide +kernel) (by decide +kernel)
theorem cv_RL_86 : xCV RL 86 md_X11_happen 11 0 := ⟨_, _, _, cb_11, rfl, cw_X11_happen, wd_770, wd_771, wd_772⟩
theorem wd_1455 : (Jvm.Cond.code ({ cls := "KnowledgeRoomModel", name := "happen", desc := "()I" } : Jvm.MethodName) prog_14_method_55_code (8 : Nat) (Option.some Jvm.ClassFile.FieldType.int)) ∈ xTG := xmem 1455 (by decide +kernel) (by decide +kernel)
theorem cw_X12_happen : xcw md_X12_happen 0 := ⟨wd_1455, wd_14, by decide +kernel, by decide⟩
theorem wd_1452 : (Jvm.Cond.methodLink "KnowledgeRoomLaw" (89 : Nat) ({ cls := "KnowledgeRoomModel", name := "happen", desc := "()I" } : Jvm.MethodName)) ∈ xTG := xmem 1452 (by decide +kernel) (by decide +kernel)
theorem wd_1453 : (Jvm.Cond.instanceMethod ({ cls := "KnowledgeRoomModel", name := "happen", desc := "()I" } : Jvm.MethodName)) ∈ xTG := xmem 1453 (by decide +kernel) (by decide +kernel)
theorem wd_1454 : (Jvm.Cond.selects "KnowledgeRoomModel" ({ cls := "KnowledgeRoomModel", name := "happen", desc := "()I" } : Jvm.MethodName) ({ cls := "KnowledgeRoomModel", name := "happen", desc := "()I" } : Jvm.MethodName)) ∈ xTG := xmem 1454 (by decide +kernel) (by decide +kernel)
theorem cv_RL_89 : xCV RL 89 md_X12_happen 12 0 := ⟨_, _, _, cb_12, rfl, cw_X12_happen, wd_1452, wd_1453, wd_1454⟩
theorem wd_799 : (Jvm.Cond.code ({ cls := "KnowledgeRoom", name := "back", desc := "()I" } : Jvm.MethodName) prog_1_method_20_code (1 : Nat) (Option.some Jvm.ClassFile.FieldType.int)) ∈ xTG := xmem 799 (by decide +kernel) (by decide +kernel)
theorem cw_X11_back : xcw md_X11_back 0 := ⟨wd_799, wd_1, by decide +kernel, by decide⟩
theorem wd_796 : (Jvm.Cond.methodLink "KnowledgeRoomLaw" (90 : Nat) ({ cls := "KnowledgeRoom", name := "back", desc := "()I" } : Jvm.MethodName)) ∈ xTG := xmem 796 (by decide +kernel) (by decide +kernel)
theorem wd_797 : (Jvm.Cond.instanceMethod ({ cls := "KnowledgeRoom", name := "back", desc := "()I" } : Jvm.MethodName)) ∈ xTG := xmem 797 (by decide +kernel) (by decide +kernel)
theorem wd_798 : (Jvm.Cond.selects "KnowledgeRoom" ({ cls := "KnowledgeRoom", name := "back", desc := "()I" } : Jvm.MethodName) ({ cls := "KnowledgeRoom", name := "back", desc := "()I" } : Jvm.MethodName)) ∈ xTG := xmem 798 (by decide +kernel) (by decide +kernel)
theorem cv_RL_90 : xCV RL 90 md_X11_back 11 0 := ⟨_, _, _, cb_11, rfl, cw_X11_back, wd_796, wd_797, wd_798⟩
theorem wd_1139 : (Jvm.Cond.code ({ cls := "KnowledgeRoomModel", name := "back", desc := "()I" } : Jvm.MethodName) prog_14_method_18_code (2 : Nat) (Option.some Jvm.ClassFile.FieldType.int)) ∈ xTG := xmem 1139 (by decide +kernel) (by decide +kernel)
theorem cw_X12_back : xcw md_X12_back 0 := ⟨wd_1139, wd_14, by decide +kernel, by decide⟩
theorem wd_1136 : (Jvm.Cond.methodLink "KnowledgeRoomLaw" (93 : Nat) ({ cls := "KnowledgeRoomModel", name := "back", desc := "()I" } : Jvm.MethodName)) ∈ xTG := xmem 1136 (by decide +kernel) (by decide +kernel)
theorem wd_1137 : (Jvm.Cond.instanceMethod ({ cls := "KnowledgeRoomModel", name := "back", desc := "()I" } : Jvm.MethodName)) ∈ xTG := xmem 1137 (by decide +kernel) (by decide +kernel)
theorem wd_1138 : (Jvm.Cond.selects "KnowledgeRoomModel" ({ cls := "KnowledgeRoomModel", name := "back", desc := "()I" } : Jvm.MethodName) ({ cls := "KnowledgeRoomModel", name := "back", desc := "()I" } : Jvm.MethodName)) ∈ xTG := xmem 1138 (by decide +kernel) (by decide +kernel)
theorem cv_RL_93 : xCV RL 93 md_X12_back 12 0 := ⟨_, _, _, cb_12, rfl, cw_X12_back, wd_1136, wd_1137, wd_1138⟩
theorem wd_807 : (Jvm.Cond.code ({ cls := "KnowledgeRoom", name := "contract", desc := "()I" } : Jvm.MethodName) prog_1_method_21_code (3 : Nat) (Option.some Jvm.ClassFile.FieldType.int)) ∈ xTG := xmem 807 (by decide +kernel) (by decide +kernel)
theorem cw_X11_contract : xcw md_X11_contract 0 := ⟨wd_807, wd_1, by decide +kernel, by decide⟩
theorem wd_804 : (Jvm.Cond.methodLink "KnowledgeRoomLaw" (94 : Nat) ({ cls := "KnowledgeRoom", name := "contract", desc := "()I" } : Jvm.MethodName)) ∈ xTG := xmem 804 (by decide +kernel) (by decide +kernel)
theorem wd_805 : (Jvm.Cond.instanceMethod ({ cls := "KnowledgeRoom", name := "contract", desc := "()I" } : Jvm.MethodName)) ∈ xTG := xmem 805 (by decide +kernel) (by decide +kernel)
theorem wd_806 : (Jvm.Cond.selects "KnowledgeRoom" ({ cls := "KnowledgeRoom", name := "contract", desc := "()I" } : Jvm.MethodName) ({ cls := "KnowledgeRoom", name := "contract", desc := "()I" } : Jvm.MethodName)) ∈ xTG := xmem 806 (by decide +kernel) (by decide +kernel)
theorem cv_RL_94 : xCV RL 94 md_X11_contract 11 0 := ⟨_, _, _, cb_11, rfl, cw_X11_contract, wd_804, wd_805, wd_806⟩
theorem wd_1459 : (Jvm.Cond.code ({ cls := "KnowledgeRoomModel", name := "contract", desc := "()I" } : Jvm.MethodName) prog_14_method_60_code (6 : Nat) (Option.some Jvm.ClassFile.FieldType.int)) ∈ xTG := xmem 1459 (by decide +kernel) (by decide +kernel)
theorem cw_X12_contract : xcw md_X12_contract 0 := ⟨wd_1459, wd_14, by decide +kernel, by decide⟩
theorem wd_1456 : (Jvm.Cond.methodLink "KnowledgeRoomLaw" (97 : Nat) ({ cls := "KnowledgeRoomModel", name := "contract", desc := "()I" } : Jvm.MethodName)) ∈ xTG := xmem 1456 (by decide +kernel) (by decide +kernel)
theorem wd_1457 : (Jvm.Cond.instanceMethod ({ cls := "KnowledgeRoomModel", name := "contract", desc := "()I" } : Jvm.MethodName)) ∈ xTG := xmem 1457 (by decide +kernel) (by decide +kernel)
theorem wd_1458 : (Jvm.Cond.selects "KnowledgeRoomModel" ({ cls := "KnowledgeRoomModel", name := "contract", desc := "()I" } : Jvm.MethodName) ({ cls := "KnowledgeRoomModel", name := "contract", desc := "()I" } : Jvm.MethodName)) ∈ xTG := xmem 1458 (by decide +kernel) (by decide +kernel)
theorem cv_RL_97 : xCV RL 97 md_X12_contract 12 0 := ⟨_, _, _, cb_12, rfl, cw_X12_contract, wd_1456, wd_1457, wd_1458⟩
theorem wd_843 : (Jvm.Cond.code ({ cls := "KnowledgeRoom", name := "differ", desc := "(II)I" } : Jvm.MethodName) prog_1_method_22_code (3 : Nat) (Option.some Jvm.ClassFile.FieldType.int)) ∈ xTG := xmem 843 (by decide +kernel) (by decide +kernel)
theorem cw_X11_differ : xcw md_X11_differ 2 := ⟨wd_843, wd_1, by decide +kernel, by decide⟩
theorem wd_840 : (Jvm.Cond.methodLink "KnowledgeRoomLaw" (98 : Nat) ({ cls := "KnowledgeRoom", name := "differ", desc := "(II)I" } : Jvm.MethodName)) ∈ xTG := xmem 840 (by decide +kernel) (by decide +kernel)
theorem wd_841 : (Jvm.Cond.instanceMethod ({ cls := "KnowledgeRoom", name := "differ", desc := "(II)I" } : Jvm.MethodName)) ∈ xTG := xmem 841 (by decide +kernel) (by decide +kernel)
theorem wd_842 : (Jvm.Cond.selects "KnowledgeRoom" ({ cls := "KnowledgeRoom", name := "differ", desc := "(II)I" } : Jvm.MethodName) ({ cls := "KnowledgeRoom", name := "differ", desc := "(II)I" } : Jvm.MethodName)) ∈ xTG := xmem 842 (by decide +kernel) (by decide +kernel)
theorem cv_RL_98 : xCV RL 98 md_X11_differ 11 2 := ⟨_, _, _, cb_11, rfl, cw_X11_differ, wd_840, wd_841, wd_842⟩
theorem wd_1479 : (Jvm.Cond.code ({ cls := "KnowledgeRoomModel", name := "differ", desc := "(II)I" } : Jvm.MethodName) prog_14_method_61_code (5 : Nat) (Option.some Jvm.ClassFile.FieldType.int)) ∈ xTG := xmem 1479 (by decide +kernel) (by decide +kernel)
theorem cw_X12_differ : xcw md_X12_differ 2 := ⟨wd_1479, wd_14, by decide +kernel, by decide⟩
theorem wd_1476 : (Jvm.Cond.methodLink "KnowledgeRoomLaw" (101 : Nat) ({ cls := "KnowledgeRoomModel", name := "differ", desc := "(II)I" } : Jvm.MethodName)) ∈ xTG := xmem 1476 (by decide +kernel) (by decide +kernel)
theorem wd_1477 : (Jvm.Cond.instanceMethod ({ cls := "KnowledgeRoomModel", name := "differ", desc := "(II)I" } : Jvm.MethodName)) ∈ xTG := xmem 1477 (by decide +kernel) (by decide +kernel)
theorem wd_1478 : (Jvm.Cond.selects "KnowledgeRoomModel" ({ cls := "KnowledgeRoomModel", name := "differ", desc := "(II)I" } : Jvm.MethodName) ({ cls := "KnowledgeRoomModel", name := "differ", desc := "(II)I" } : Jvm.MethodName)) ∈ xTG := xmem 1478 (by decide +kernel) (by decide +kernel)
theorem cv_RL_101 : xCV RL 101 md_X12_differ 12 2 := ⟨_, _, _, cb_12, rfl, cw_X12_differ, wd_1476, wd_1477, wd_1478⟩
theorem wd_851 : (Jvm.Cond.code ({ cls := "KnowledgeRoom", name := "reduce", desc := "()I" } : Jvm.MethodName) prog_1_method_23_code (2 : Nat) (Option.some Jvm.ClassFile.FieldType.int)) ∈ xTG := xmem 851 (by decide +kernel) (by decide +kernel)
theorem cw_X11_reduce : xcw md_X11_reduce 0 := ⟨wd_851, wd_1, by decide +kernel, by decide⟩
theorem wd_848 : (Jvm.Cond.methodLink "KnowledgeRoomLaw" (102 : Nat) ({ cls := "KnowledgeRoom", name := "reduce", desc := "()I" } : Jvm.MethodName)) ∈ xTG := xmem 848 (by decide +kernel) (by decide +kernel)
theorem wd_849 : (Jvm.Cond.instanceMethod ({ cls := "KnowledgeRoom", name := "reduce", desc := "()I" } : Jvm.MethodName)) ∈ xTG := xmem 849 (by decide +kernel) (by decide +kernel)
theorem wd_850 : (Jvm.Cond.selects "KnowledgeRoom" ({ cls := "KnowledgeRoom", name := "reduce", desc := "()I" } : Jvm.MethodName) ({ cls := "KnowledgeRoom", name := "reduce", desc := "()I" } : Jvm.MethodName)) ∈ xTG := xmem 850 (by decide +kernel) (by decide +kernel)
theorem cv_RL_102 : xCV RL 102 md_X11_reduce 11 0 := ⟨_, _, _, cb_11, rfl, cw_X11_reduce, wd_848, wd_849, wd_850⟩
theorem wd_1483 : (Jvm.Cond.code ({ cls := "KnowledgeRoomModel", name := "reduce", desc := "()I" } : Jvm.MethodName) prog_14_method_66_code (4 : Nat) (Option.some Jvm.ClassFile.FieldType.int)) ∈ xTG := xmem 1483 (by decide +kernel) (by decide +kernel)
theorem cw_X12_reduce : xcw md_X12_reduce 0 := ⟨wd_1483, wd_14, by decide +kernel, by decide⟩
theorem wd_1480 : (Jvm.Cond.methodLink "KnowledgeRoomLaw" (105 : Nat) ({ cls := "KnowledgeRoomModel", name := "reduce", desc := "()I" } : Jvm.MethodName)) ∈ xTG := xmem 1480 (by decide +kernel) (by decide +kernel)
theorem wd_1481 : (Jvm.Cond.instanceMethod ({ cls := "KnowledgeRoomModel", name := "reduce", desc := "()I" } : Jvm.MethodName)) ∈ xTG := xmem 1481 (by decide +kernel) (by decide +kernel)
theorem wd_1482 : (Jvm.Cond.selects "KnowledgeRoomModel" ({ cls := "KnowledgeRoomModel", name := "reduce", desc := "()I" } : Jvm.MethodName) ({ cls := "KnowledgeRoomModel", name := "reduce", desc := "()I" } : Jvm.MethodName)) ∈ xTG := xmem 1482 (by decide +kernel) (by decide +kernel)
theorem cv_RL_105 : xCV RL 105 md_X12_reduce 12 0 := ⟨_, _, _, cb_12, rfl, cw_X12_reduce, wd_1480, wd_1481, wd_1482⟩
theorem wd_968 : (Jvm.Cond.code ({ cls := "KnowledgeRoom", name := "decide", desc := "(I)I" } : Jvm.MethodName) prog_1_method_24_code (2 : Nat) (Option.some Jvm.ClassFile.FieldType.int)) ∈ xTG := xmem 968 (by decide +kernel) (by decide +kernel)
theorem cw_X11_decide : xcw md_X11_decide 1 := ⟨wd_968, wd_1, by decide +kernel, by decide⟩
theorem wd_965 : (Jvm.Cond.methodLink "KnowledgeRoomLaw" (106 : Nat) ({ cls := "KnowledgeRoom", name := "decide", desc := "(I)I" } : Jvm.MethodName)) ∈ xTG := xmem 965 (by decide +kernel) (by decide +kernel)
theorem wd_966 : (Jvm.Cond.instanceMethod ({ cls := "KnowledgeRoom", name := "decide", desc := "(I)I" } : Jvm.MethodName)) ∈ xTG := xmem 966 (by decide +kernel) (by decide +kernel)
theorem wd_967 : (Jvm.Cond.selects "KnowledgeRoom" ({ cls := "KnowledgeRoom", name := "decide", desc := "(I)I" } : Jvm.MethodName) ({ cls := "KnowledgeRoom", name := "decide", desc := "(I)I" } : Jvm.MethodName)) ∈ xTG := xmem 967 (by decide +kernel) (by decide +kernel)
theorem cv_RL_106 : xCV RL 106 md_X11_decide 11 1 := ⟨_, _, _, cb_11, rfl, cw_X11_decide, wd_965, wd_966, wd_967⟩
theorem wd_1503 : (Jvm.Cond.code ({ cls := "KnowledgeRoomModel", name := "decide", desc := "(I)I" } : Jvm.MethodName) prog_14_method_77_code (10 : Nat) (Option.some Jvm.ClassFile.FieldType.int)) ∈ xTG := xmem 1503 (by decide +kernel) (by decide +kernel)
theorem cw_X12_decide : xcw md_X12_decide 1 := ⟨wd_1503, wd_14, by decide +kernel, by decide⟩
theorem wd_1500 : (Jvm.Cond.methodLink "KnowledgeRoomLaw" (109 : Nat) ({ cls := "KnowledgeRoomModel", name := "decide", desc := "(I)I" } : Jvm.MethodName)) ∈ xTG := xmem 1500 (by decide +kernel) (by decide +kernel)
theorem wd_1501 : (Jvm.Cond.instanceMethod ({ cls := "KnowledgeRoomModel", name := "decide", desc := "(I)I" } : Jvm.MethodName)) ∈ xTG := xmem 1501 (by decide +kernel) (by decide +kernel)
theorem wd_1502 : (Jvm.Cond.selects "KnowledgeRoomModel" ({ cls := "KnowledgeRoomModel", name := "decide", desc := "(I)I" } : Jvm.MethodName) ({ cls := "KnowledgeRoomModel", name := "decide", desc := "(I)I" } : Jvm.MethodName)) ∈ xTG := xmem 1502 (by decide +kernel) (by decide +kernel)
theorem cv_RL_109 : xCV RL 109 md_X12_decide 12 1 := ⟨_, _, _, cb_12, rfl, cw_X12_decide, wd_1500, wd_1501, wd_1502⟩
theorem wd_1078 : (Jvm.Cond.code ({ cls := "KnowledgeRoom", name := "count", desc := "(I)I" } : Jvm.MethodName) prog_1_method_25_code (2 : Nat) (Option.some Jvm.ClassFile.FieldType.int)) ∈ xTG := xmem 1078 (by decide +kernel) (by decide +kernel)
theorem cw_X11_count : xcw md_X11_count 1 := ⟨wd_1078, wd_1, by decide +kernel, by decide⟩
theorem wd_1075 : (Jvm.Cond.methodLink "KnowledgeRoomLaw" (110 : Nat) ({ cls := "KnowledgeRoom", name := "count", desc := "(I)I" } : Jvm.MethodName)) ∈ xTG := xmem 1075 (by decide +kernel) (by decide +kernel)
theorem wd_1076 : (Jvm.Cond.instanceMethod ({ cls := "KnowledgeRoom", name := "count", desc := "(I)I" } : Jvm.MethodName)) ∈ xTG := xmem 1076 (by decide +kernel) (by decide +kernel)
theorem wd_1077 : (Jvm.Cond.selects "KnowledgeRoom" ({ cls := "KnowledgeRoom", name := "count", desc := "(I)I" } : Jvm.MethodName) ({ cls := "KnowledgeRoom", name := "count", desc := "(I)I" } : Jvm.MethodName)) ∈ xTG := xmem 1077 (by decide +kernel) (by decide +kernel)
theorem cv_RL_110 : xCV RL 110 md_X11_count 11 1 := ⟨_, _, _, cb_11, rfl, cw_X11_count, wd_1075, wd_1076, wd_1077⟩
theorem wd_1548 : (Jvm.Cond.code ({ cls := "KnowledgeRoomModel", name := "count", desc := "(I)I" } : Jvm.MethodName) prog_14_method_79_code (2 : Nat) (Option.some Jvm.ClassFile.FieldType.int)) ∈ xTG := xmem 1548 (by decide +kernel) (by decide +kernel)
theorem cw_X12_count : xcw md_X12_count 1 := ⟨wd_1548, wd_14, by decide +kernel, by decide⟩
theorem wd_1545 : (Jvm.Cond.methodLink "KnowledgeRoomLaw" (113 : Nat) ({ cls := "KnowledgeRoomModel", name := "count", desc := "(I)I" } : Jvm.MethodName)) ∈ xTG := xmem 1545 (by decide +kernel) (by decide +kernel)
theorem wd_1546 : (Jvm.Cond.instanceMethod ({ cls := "KnowledgeRoomModel", name := "count", desc := "(I)I" } : Jvm.MethodName)) ∈ xTG := xmem 1546 (by decide +kernel) (by decide +kernel)
theorem wd_1547 : (Jvm.Cond.selects "KnowledgeRoomModel" ({ cls := "KnowledgeRoomModel", name := "count", desc := "(I)I" } : Jvm.MethodName) ({ cls := "KnowledgeRoomModel", name := "count", desc := "(I)I" } : Jvm.MethodName)) ∈ xTG := xmem 1547 (by decide +kernel) (by decide +kernel)
theorem cv_RL_113 : xCV RL 113 md_X12_count 12 1 := ⟨_, _, _, cb_12, rfl, cw_X12_count, wd_1545, wd_1546, wd_1547⟩
theorem dL_law_0 : decode cL_law 0 = .ok (.new 7, 3) := by decide +kernel
theorem dL_law_3 : decode cL_law 3 = .ok (.dup, 1) := by decide +kernel
theorem dL_law_4 : decode cL_law 4 = .ok (.invokespecial 9, 3) := by decide +kernel
theorem dL_law_7 : decode cL_law 7 = .ok (.astore_n 1, 1) := by decide +kernel
theorem dL_law_8 : decode cL_law 8 = .ok (.new 10, 3) := by decide +kernel
theorem dL_law_11 : decode cL_law 11 = .ok (.dup, 1) := by decide +kernel
theorem dL_law_12 : decode cL_law 12 = .ok (.invokespecial 12, 3) := by decide +kernel
theorem dL_law_15 : decode cL_law 15 = .ok (.astore_n 2, 1) := by decide +kernel
theorem dL_law_16 : decode cL_law 16 = .ok (.iconst 0, 1) := by decide +kernel
theorem dL_law_17 : decode cL_law 17 = .ok (.istore_n 3, 1) := by decide +kernel
theorem dL_law_18 : decode cL_law 18 = .ok (.iload_n 3, 1) := by decide +kernel
theorem dL_law_19 : decode cL_law 19 = .ok (.aload_n 0, 1) := by decide +kernel
theorem dL_law_20 : decode cL_law 20 = .ok (.arraylength, 1) := by decide +kernel
theorem dL_law_21 : decode cL_law 21 = .ok (.iconst 4, 1) := by decide +kernel
theorem dL_law_22 : decode cL_law 22 = .ok (.isub, 1) := by decide +kernel
theorem dL_law_23 : decode cL_law 23 = .ok (.if_icmp .gt 695, 3) := by decide +kernel
theorem dL_law_26 : decode cL_law 26 = .ok (.aload_n 0, 1) := by decide +kernel
theorem dL_law_27 : decode cL_law 27 = .ok (.iload_n 3, 1) := by decide +kernel
theorem dL_law_28 : decode cL_law 28 = .ok (.iaload, 1) := by decide +kernel
theorem dL_law_29 : decode cL_law 29 = .ok (.bipush 31, 2) := by decide +kernel
theorem dL_law_31 : decode cL_law 31 = .ok (.iand, 1) := by decide +kernel
theorem dL_law_32 : decode cL_law 32 = .ok (.tableswitch 680 0 23 #[112, 135, 178, 211, 270, 303, 326, 349, 362, 385, 398, 411, 434, 447, 460, 503, 536, 549, 562, 575, 588, 621, 634, 657], 112) := by decide +kernel
theorem dL_law_144 : decode cL_law 144 = .ok (.aload_n 1, 1) := by decide +kernel
theorem dL_law_145 : decode cL_law 145 = .ok (.aload_n 0, 1) := by decide +kernel
theorem dL_law_146 : decode cL_law 146 = .ok (.iload_n 3, 1) := by decide +kernel
theorem dL_law_147 : decode cL_law 147 = .ok (.iconst 1, 1) := by decide +kernel
theorem dL_law_148 : decode cL_law 148 = .ok (.iadd, 1) := by decide +kernel
theorem dL_law_149 : decode cL_law 149 = .ok (.iaload, 1) := by decide +kernel
theorem dL_law_150 : decode cL_law 150 = .ok (.invokevirtual 13, 3) := by decide +kernel
theorem dL_law_153 : decode cL_law 153 = .ok (.aload_n 2, 1) := by decide +kernel
theorem dL_law_154 : decode cL_law 154 = .ok (.aload_n 0, 1) := by decide +kernel
theorem dL_law_155 : decode cL_law 155 = .ok (.iload_n 3, 1) := by decide +kernel
theorem dL_law_156 : decode cL_law 156 = .ok (.iconst 1, 1) := by decide +kernel
theorem dL_law_157 : decode cL_law 157 = .ok (.iadd, 1) := by decide +kernel
theorem dL_law_158 : decode cL_law 158 = .ok (.iaload, 1) := by decide +kernel
theorem dL_law_159 : decode cL_law 159 = .ok (.invokevirtual 17, 3) := by decide +kernel
theorem dL_law_162 : decode cL_law 162 = .ok (.if_icmp .eq 550, 3) := by decide +kernel
theorem dL_law_165 : decode cL_law 165 = .ok (.iconst 0, 1) := by decide +kernel
theorem dL_law_166 : decode cL_law 166 = .ok (.ireturn, 1) := by decide +kernel
theorem dL_law_167 : decode cL_law 167 = .ok (.aload_n 1, 1) := by decide +kernel
theorem dL_law_168 : decode cL_law 168 = .ok (.aload_n 0, 1) := by decide +kernel
theorem dL_law_169 : decode cL_law 169 = .ok (.iload_n 3, 1) := by decide +kernel
theorem dL_law_170 : decode cL_law 170 = .ok (.iconst 1, 1) := by decide +kernel
theorem dL_law_171 : decode cL_law 171 = .ok (.iadd, 1) := by decide +kernel
theorem dL_law_172 : decode cL_law 172 = .ok (.iaload, 1) := by decide +kernel
theorem dL_law_173 : decode cL_law 173 = .ok (.aload_n 0, 1) := by decide +kernel
theorem dL_law_174 : decode cL_law 174 = .ok (.iload_n 3, 1) := by decide +kernel
theorem dL_law_175 : decode cL_law 175 = .ok (.iconst 2, 1) := by decide +kernel
theorem dL_law_176 : decode cL_law 176 = .ok (.iadd, 1) := by decide +kernel
theorem dL_law_177 : decode cL_law 177 = .ok (.iaload, 1) := by decide +kernel
theorem dL_law_178 : decode cL_law 178 = .ok (.aload_n 0, 1) := by decide +kernel
theorem dL_law_179 : decode cL_law 179 = .ok (.iload_n 3, 1) := by decide +kernel
theorem dL_law_180 : decode cL_law 180 = .ok (.iconst 3, 1) := by decide +kernel
theorem dL_law_181 : decode cL_law 181 = .ok (.iadd, 1) := by decide +kernel
theorem dL_law_182 : decode cL_law 182 = .ok (.iaload, 1) := by decide +kernel
theorem dL_law_183 : decode cL_law 183 = .ok (.invokevirtual 18, 3) := by decide +kernel
theorem dL_law_186 : decode cL_law 186 = .ok (.aload_n 2, 1) := by decide +kernel
theorem dL_law_187 : decode cL_law 187 = .ok (.aload_n 0, 1) := by decide +kernel
theorem dL_law_188 : decode cL_law 188 = .ok (.iload_n 3, 1) := by decide +kernel
theorem dL_law_189 : decode cL_law 189 = .ok (.iconst 1, 1) := by decide +kernel
theorem dL_law_190 : decode cL_law 190 = .ok (.iadd, 1) := by decide +kernel
theorem dL_law_191 : decode cL_law 191 = .ok (.iaload, 1) := by decide +kernel
theorem dL_law_192 : decode cL_law 192 = .ok (.aload_n 0, 1) := by decide +kernel
theorem dL_law_193 : decode cL_law 193 = .ok (.iload_n 3, 1) := by decide +kernel
theorem dL_law_194 : decode cL_law 194 = .ok (.iconst 2, 1) := by decide +kernel
theorem dL_law_195 : decode cL_law 195 = .ok (.iadd, 1) := by decide +kernel
theorem dL_law_196 : decode cL_law 196 = .ok (.iaload, 1) := by decide +kernel
theorem dL_law_197 : decode cL_law 197 = .ok (.aload_n 0, 1) := by decide +kernel
theorem dL_law_198 : decode cL_law 198 = .ok (.iload_n 3, 1) := by decide +kernel
theorem dL_law_199 : decode cL_law 199 = .ok (.iconst 3, 1) := by decide +kernel
theorem dL_law_200 : decode cL_law 200 = .ok (.iadd, 1) := by decide +kernel
theorem dL_law_201 : decode cL_law 201 = .ok (.iaload, 1) := by decide +kernel
theorem dL_law_202 : decode cL_law 202 = .ok (.invokevirtual 22, 3) := by decide +kernel
theorem dL_law_205 : decode cL_law 205 = .ok (.if_icmp .eq 507, 3) := by decide +kernel
theorem dL_law_208 : decode cL_law 208 = .ok (.iconst 0, 1) := by decide +kernel
theorem dL_law_209 : decode cL_law 209 = .ok (.ireturn, 1) := by decide +kernel
theorem dL_law_210 : decode cL_law 210 = .ok (.aload_n 1, 1) := by decide +kernel
theorem dL_law_211 : decode cL_law 211 = .ok (.aload_n 0, 1) := by decide +kernel
theorem dL_law_212 : decode cL_law 212 = .ok (.iload_n 3, 1) := by decide +kernel
theorem dL_law_213 : decode cL_law 213 = .ok (.iconst 1, 1) := by decide +kernel
theorem dL_law_214 : decode cL_law 214 = .ok (.iadd, 1) := by decide +kernel
theorem dL_law_215 : decode cL_law 215 = .ok (.iaload, 1) := by decide +kernel
theorem dL_law_216 : decode cL_law 216 = .ok (.aload_n 0, 1) := by decide +kernel
theorem dL_law_217 : decode cL_law 217 = .ok (.iload_n 3, 1) := by decide +kernel
theorem dL_law_218 : decode cL_law 218 = .ok (.iconst 2, 1) := by decide +kernel
theorem dL_law_219 : decode cL_law 219 = .ok (.iadd, 1) := by decide +kernel
theorem dL_law_220 : decode cL_law 220 = .ok (.iaload, 1) := by decide +kernel
theorem dL_law_221 : decode cL_law 221 = .ok (.invokevirtual 23, 3) := by decide +kernel
theorem dL_law_224 : decode cL_law 224 = .ok (.aload_n 2, 1) := by decide +kernel
theorem dL_law_225 : decode cL_law 225 = .ok (.aload_n 0, 1) := by decide +kernel
theorem dL_law_226 : decode cL_law 226 = .ok (.iload_n 3, 1) := by decide +kernel
theorem dL_law_227 : decode cL_law 227 = .ok (.iconst 1, 1) := by decide +kernel
theorem dL_law_228 : decode cL_law 228 = .ok (.iadd, 1) := by decide +kernel
theorem dL_law_229 : decode cL_law 229 = .ok (.iaload, 1) := by decide +kernel
theorem dL_law_230 : decode cL_law 230 = .ok (.aload_n 0, 1) := by decide +kernel
theorem dL_law_231 : decode cL_law 231 = .ok (.iload_n 3, 1) := by decide +kernel
theorem dL_law_232 : decode cL_law 232 = .ok (.iconst 2, 1) := by decide +kernel
theorem dL_law_233 : decode cL_law 233 = .ok (.iadd, 1) := by decide +kernel
theorem dL_law_234 : decode cL_law 234 = .ok (.iaload, 1) := by decide +kernel
theorem dL_law_235 : decode cL_law 235 = .ok (.invokevirtual 27, 3) := by decide +kernel
theorem dL_law_238 : decode cL_law 238 = .ok (.if_icmp .eq 474, 3) := by decide +kernel
theorem dL_law_241 : decode cL_law 241 = .ok (.iconst 0, 1) := by decide +kernel
theorem dL_law_242 : decode cL_law 242 = .ok (.ireturn, 1) := by decide +kernel
theorem dL_law_243 : decode cL_law 243 = .ok (.aload_n 1, 1) := by decide +kernel
theorem dL_law_244 : decode cL_law 244 = .ok (.aload_n 0, 1) := by decide +kernel
theorem dL_law_245 : decode cL_law 245 = .ok (.iload_n 3, 1) := by decide +kernel
theorem dL_law_246 : decode cL_law 246 = .ok (.iconst 1, 1) := by decide +kernel
theorem dL_law_247 : decode cL_law 247 = .ok (.iadd, 1) := by decide +kernel
theorem dL_law_248 : decode cL_law 248 = .ok (.iaload, 1) := by decide +kernel
theorem dL_law_249 : decode cL_law 249 = .ok (.aload_n 0, 1) := by decide +kernel
theorem dL_law_250 : decode cL_law 250 = .ok (.iload_n 3, 1) := by decide +kernel
theorem dL_law_251 : decode cL_law 251 = .ok (.iconst 2, 1) := by decide +kernel
theorem dL_law_252 : decode cL_law 252 = .ok (.iadd, 1) := by decide +kernel
theorem dL_law_253 : decode cL_law 253 = .ok (.iaload, 1) := by decide +kernel
theorem dL_law_254 : decode cL_law 254 = .ok (.aload_n 0, 1) := by decide +kernel
theorem dL_law_255 : decode cL_law 255 = .ok (.iload_n 3, 1) := by decide +kernel
theorem dL_law_256 : decode cL_law 256 = .ok (.iconst 3, 1) := by decide +kernel
theorem dL_law_257 : decode cL_law 257 = .ok (.iadd, 1) := by decide +kernel
theorem dL_law_258 : decode cL_law 258 = .ok (.iaload, 1) := by decide +kernel
theorem dL_law_259 : decode cL_law 259 = .ok (.ifCond .eq 7, 3) := by decide +kernel
theorem dL_law_262 : decode cL_law 262 = .ok (.iconst 1, 1) := by decide +kernel
theorem dL_law_263 : decode cL_law 263 = .ok (.goto 4, 3) := by decide +kernel
theorem dL_law_266 : decode cL_law 266 = .ok (.iconst 0, 1) := by decide +kernel
theorem dL_law_267 : decode cL_law 267 = .ok (.invokevirtual 28, 3) := by decide +kernel
theorem dL_law_270 : decode cL_law 270 = .ok (.aload_n 2, 1) := by decide +kernel
theorem dL_law_271 : decode cL_law 271 = .ok (.aload_n 0, 1) := by decide +kernel
theorem dL_law_272 : decode cL_law 272 = .ok (.iload_n 3, 1) := by decide +kernel
theorem dL_law_273 : decode cL_law 273 = .ok (.iconst 1, 1) := by decide +kernel
theorem dL_law_274 : decode cL_law 274 = .ok (.iadd, 1) := by decide +kernel
theorem dL_law_275 : decode cL_law 275 = .ok (.iaload, 1) := by decide +kernel
theorem dL_law_276 : decode cL_law 276 = .ok (.aload_n 0, 1) := by decide +kernel
theorem dL_law_277 : decode cL_law 277 = .ok (.iload_n 3, 1) := by decide +kernel
theorem dL_law_278 : decode cL_law 278 = .ok (.iconst 2, 1) := by decide +kernel
theorem dL_law_279 : decode cL_law 279 = .ok (.iadd, 1) := by decide +kernel
theorem dL_law_280 : decode cL_law 280 = .ok (.iaload, 1) := by decide +kernel
theorem dL_law_281 : decode cL_law 281 = .ok (.aload_n 0, 1) := by decide +kernel
theorem dL_law_282 : decode cL_law 282 = .ok (.iload_n 3, 1) := by decide +kernel
theorem dL_law_283 : decode cL_law 283 = .ok (.iconst 3, 1) := by decide +kernel
theorem dL_law_284 : decode cL_law 284 = .ok (.iadd, 1) := by decide +kernel
theorem dL_law_285 : decode cL_law 285 = .ok (.iaload, 1) := by decide +kernel
theorem dL_law_286 : decode cL_law 286 = .ok (.ifCond .eq 7, 3) := by decide +kernel
theorem dL_law_289 : decode cL_law 289 = .ok (.iconst 1, 1) := by decide +kernel
theorem dL_law_290 : decode cL_law 290 = .ok (.goto 4, 3) := by decide +kernel
theorem dL_law_293 : decode cL_law 293 = .ok (.iconst 0, 1) := by decide +kernel
theorem dL_law_294 : decode cL_law 294 = .ok (.invokevirtual 32, 3) := by decide +kernel
theorem dL_law_297 : decode cL_law 297 = .ok (.if_icmp .eq 415, 3) := by decide +kernel
theorem dL_law_300 : decode cL_law 300 = .ok (.iconst 0, 1) := by decide +kernel
theorem dL_law_301 : decode cL_law 301 = .ok (.ireturn, 1) := by decide +kernel
theorem dL_law_302 : decode cL_law 302 = .ok (.aload_n 1, 1) := by decide +kernel
theorem dL_law_303 : decode cL_law 303 = .ok (.aload_n 0, 1) := by decide +kernel
theorem dL_law_304 : decode cL_law 304 = .ok (.iload_n 3, 1) := by decide +kernel
theorem dL_law_305 : decode cL_law 305 = .ok (.iconst 1, 1) := by decide +kernel
theorem dL_law_306 : decode cL_law 306 = .ok (.iadd, 1) := by decide +kernel
theorem dL_law_307 : decode cL_law 307 = .ok (.iaload, 1) := by decide +kernel
theorem dL_law_308 : decode cL_law 308 = .ok (.aload_n 0, 1) := by decide +kernel
theorem dL_law_309 : decode cL_law 309 = .ok (.iload_n 3, 1) := by decide +kernel
theorem dL_law_310 : decode cL_law 310 = .ok (.iconst 2, 1) := by decide +kernel
theorem dL_law_311 : decode cL_law 311 = .ok (.iadd, 1) := by decide +kernel
theorem dL_law_312 : decode cL_law 312 = .ok (.iaload, 1) := by decide +kernel
theorem dL_law_313 : decode cL_law 313 = .ok (.invokevirtual 33, 3) := by decide +kernel
theorem dL_law_316 : decode cL_law 316 = .ok (.aload_n 2, 1) := by decide +kernel
theorem dL_law_317 : decode cL_law 317 = .ok (.aload_n 0, 1) := by decide +kernel
theorem dL_law_318 : decode cL_law 318 = .ok (.iload_n 3, 1) := by decide +kernel
theorem dL_law_319 : decode cL_law 319 = .ok (.iconst 1, 1) := by decide +kernel
theorem dL_law_320 : decode cL_law 320 = .ok (.iadd, 1) := by decide +kernel
theorem dL_law_321 : decode cL_law 321 = .ok (.iaload, 1) := by decide +kernel
theorem dL_law_322 : decode cL_law 322 = .ok (.aload_n 0, 1) := by decide +kernel
theorem dL_law_323 : decode cL_law 323 = .ok (.iload_n 3, 1) := by decide +kernel
theorem dL_law_324 : decode cL_law 324 = .ok (.iconst 2, 1) := by decide +kernel
theorem dL_law_325 : decode cL_law 325 = .ok (.iadd, 1) := by decide +kernel
theorem dL_law_326 : decode cL_law 326 = .ok (.iaload, 1) := by decide +kernel
theorem dL_law_327 : decode cL_law 327 = .ok (.invokevirtual 36, 3) := by decide +kernel
theorem dL_law_330 : decode cL_law 330 = .ok (.if_icmp .eq 382, 3) := by decide +kernel
theorem dL_law_333 : decode cL_law 333 = .ok (.iconst 0, 1) := by decide +kernel
theorem dL_law_334 : decode cL_law 334 = .ok (.ireturn, 1) := by decide +kernel
theorem dL_law_335 : decode cL_law 335 = .ok (.aload_n 1, 1) := by decide +kernel
theorem dL_law_336 : decode cL_law 336 = .ok (.aload_n 0, 1) := by decide +kernel
theorem dL_law_337 : decode cL_law 337 = .ok (.iload_n 3, 1) := by decide +kernel
theorem dL_law_338 : decode cL_law 338 = .ok (.iconst 1, 1) := by decide +kernel
theorem dL_law_339 : decode cL_law 339 = .ok (.iadd, 1) := by decide +kernel
theorem dL_law_340 : decode cL_law 340 = .ok (.iaload, 1) := by decide +kernel
theorem dL_law_341 : decode cL_law 341 = .ok (.invokevirtual 37, 3) := by decide +kernel
theorem dL_law_344 : decode cL_law 344 = .ok (.aload_n 2, 1) := by decide +kernel
theorem dL_law_345 : decode cL_law 345 = .ok (.aload_n 0, 1) := by decide +kernel
theorem dL_law_346 : decode cL_law 346 = .ok (.iload_n 3, 1) := by decide +kernel
theorem dL_law_347 : decode cL_law 347 = .ok (.iconst 1, 1) := by decide +kernel
theorem dL_law_348 : decode cL_law 348 = .ok (.iadd, 1) := by decide +kernel
theorem dL_law_349 : decode cL_law 349 = .ok (.iaload, 1) := by decide +kernel
theorem dL_law_350 : decode cL_law 350 = .ok (.invokevirtual 40, 3) := by decide +kernel
theorem dL_law_353 : decode cL_law 353 = .ok (.if_icmp .eq 359, 3) := by decide +kernel
theorem dL_law_356 : decode cL_law 356 = .ok (.iconst 0, 1) := by decide +kernel
theorem dL_law_357 : decode cL_law 357 = .ok (.ireturn, 1) := by decide +kernel
theorem dL_law_358 : decode cL_law 358 = .ok (.aload_n 1, 1) := by decide +kernel
theorem dL_law_359 : decode cL_law 359 = .ok (.aload_n 0, 1) := by decide +kernel
theorem dL_law_360 : decode cL_law 360 = .ok (.iload_n 3, 1) := by decide +kernel
theorem dL_law_361 : decode cL_law 361 = .ok (.iconst 1, 1) := by decide +kernel
theorem dL_law_362 : decode cL_law 362 = .ok (.iadd, 1) := by decide +kernel
theorem dL_law_363 : decode cL_law 363 = .ok (.iaload, 1) := by decide +kernel
theorem dL_law_364 : decode cL_law 364 = .ok (.invokevirtual 41, 3) := by decide +kernel
theorem dL_law_367 : decode cL_law 367 = .ok (.aload_n 2, 1) := by decide +kernel
theorem dL_law_368 : decode cL_law 368 = .ok (.aload_n 0, 1) := by decide +kernel
theorem dL_law_369 : decode cL_law 369 = .ok (.iload_n 3, 1) := by decide +kernel
theorem dL_law_370 : decode cL_law 370 = .ok (.iconst 1, 1) := by decide +kernel
theorem dL_law_371 : decode cL_law 371 = .ok (.iadd, 1) := by decide +kernel
theorem dL_law_372 : decode cL_law 372 = .ok (.iaload, 1) := by decide +kernel
theorem dL_law_373 : decode cL_law 373 = .ok (.invokevirtual 44, 3) := by decide +kernel
theorem dL_law_376 : decode cL_law 376 = .ok (.if_icmp .eq 336, 3) := by decide +kernel
theorem dL_law_379 : decode cL_law 379 = .ok (.iconst 0, 1) := by decide +kernel
theorem dL_law_380 : decode cL_law 380 = .ok (.ireturn, 1) := by decide +kernel
theorem dL_law_381 : decode cL_law 381 = .ok (.aload_n 1, 1) := by decide +kernel
theorem dL_law_382 : decode cL_law 382 = .ok (.invokevirtual 45, 3) := by decide +kernel
theorem dL_law_385 : decode cL_law 385 = .ok (.aload_n 2, 1) := by decide +kernel
theorem dL_law_386 : decode cL_law 386 = .ok (.invokevirtual 49, 3) := by decide +kernel
theorem dL_law_389 : decode cL_law 389 = .ok (.if_icmp .eq 323, 3) := by decide +kernel
theorem dL_law_392 : decode cL_law 392 = .ok (.iconst 0, 1) := by decide +kernel
theorem dL_law_393 : decode cL_law 393 = .ok (.ireturn, 1) := by decide +kernel
theorem dL_law_394 : decode cL_law 394 = .ok (.aload_n 1, 1) := by decide +kernel
theorem dL_law_395 : decode cL_law 395 = .ok (.aload_n 0, 1) := by decide +kernel
theorem dL_law_396 : decode cL_law 396 = .ok (.iload_n 3, 1) := by decide +kernel
theorem dL_law_397 : decode cL_law 397 = .ok (.iconst 1, 1) := by decide +kernel
theorem dL_law_398 : decode cL_law 398 = .ok (.iadd, 1) := by decide +kernel
theorem dL_law_399 : decode cL_law 399 = .ok (.iaload, 1) := by decide +kernel
theorem dL_law_400 : decode cL_law 400 = .ok (.invokevirtual 50, 3) := by decide +kernel
theorem dL_law_403 : decode cL_law 403 = .ok (.aload_n 2, 1) := by decide +kernel
theorem dL_law_404 : decode cL_law 404 = .ok (.aload_n 0, 1) := by decide +kernel
theorem dL_law_405 : decode cL_law 405 = .ok (.iload_n 3, 1) := by decide +kernel
theorem dL_law_406 : decode cL_law 406 = .ok (.iconst 1, 1) := by decide +kernel
theorem dL_law_407 : decode cL_law 407 = .ok (.iadd, 1) := by decide +kernel
theorem dL_law_408 : decode cL_law 408 = .ok (.iaload, 1) := by decide +kernel
theorem dL_law_409 : decode cL_law 409 = .ok (.invokevirtual 53, 3) := by decide +kernel
theorem dL_law_412 : decode cL_law 412 = .ok (.if_icmp .eq 300, 3) := by decide +kernel
theorem dL_law_415 : decode cL_law 415 = .ok (.iconst 0, 1) := by decide +kernel
theorem dL_law_416 : decode cL_law 416 = .ok (.ireturn, 1) := by decide +kernel
theorem dL_law_417 : decode cL_law 417 = .ok (.aload_n 1, 1) := by decide +kernel
theorem dL_law_418 : decode cL_law 418 = .ok (.invokevirtual 54, 3) := by decide +kernel
theorem dL_law_421 : decode cL_law 421 = .ok (.aload_n 2, 1) := by decide +kernel
theorem dL_law_422 : decode cL_law 422 = .ok (.invokevirtual 57, 3) := by decide +kernel
theorem dL_law_425 : decode cL_law 425 = .ok (.if_icmp .eq 287, 3) := by decide +kernel
theorem dL_law_428 : decode cL_law 428 = .ok (.iconst 0, 1) := by decide +kernel
theorem dL_law_429 : decode cL_law 429 = .ok (.ireturn, 1) := by decide +kernel
theorem dL_law_430 : decode cL_law 430 = .ok (.aload_n 1, 1) := by decide +kernel
theorem dL_law_431 : decode cL_law 431 = .ok (.invokevirtual 58, 3) := by decide +kernel
theorem dL_law_434 : decode cL_law 434 = .ok (.aload_n 2, 1) := by decide +kernel
theorem dL_law_435 : decode cL_law 435 = .ok (.invokevirtual 61, 3) := by decide +kernel
theorem dL_law_438 : decode cL_law 438 = .ok (.if_icmp .eq 274, 3) := by decide +kernel
theorem dL_law_441 : decode cL_law 441 = .ok (.iconst 0, 1) := by decide +kernel
theorem dL_law_442 : decode cL_law 442 = .ok (.ireturn, 1) := by decide +kernel
theorem dL_law_443 : decode cL_law 443 = .ok (.aload_n 1, 1) := by decide +kernel
theorem dL_law_444 : decode cL_law 444 = .ok (.aload_n 0, 1) := by decide +kernel
theorem dL_law_445 : decode cL_law 445 = .ok (.iload_n 3, 1) := by decide +kernel
theorem dL_law_446 : decode cL_law 446 = .ok (.iconst 1, 1) := by decide +kernel
theorem dL_law_447 : decode cL_law 447 = .ok (.iadd, 1) := by decide +kernel
theorem dL_law_448 : decode cL_law 448 = .ok (.iaload, 1) := by decide +kernel
theorem dL_law_449 : decode cL_law 449 = .ok (.invokevirtual 62, 3) := by decide +kernel
theorem dL_law_452 : decode cL_law 452 = .ok (.aload_n 2, 1) := by decide +kernel
theorem dL_law_453 : decode cL_law 453 = .ok (.aload_n 0, 1) := by decide +kernel
theorem dL_law_454 : decode cL_law 454 = .ok (.iload_n 3, 1) := by decide +kernel
theorem dL_law_455 : decode cL_law 455 = .ok (.iconst 1, 1) := by decide +kernel
theorem dL_law_456 : decode cL_law 456 = .ok (.iadd, 1) := by decide +kernel
theorem dL_law_457 : decode cL_law 457 = .ok (.iaload, 1) := by decide +kernel
theorem dL_law_458 : decode cL_law 458 = .ok (.invokevirtual 65, 3) := by decide +kernel
theorem dL_law_461 : decode cL_law 461 = .ok (.if_icmp .eq 251, 3) := by decide +kernel
theorem dL_law_464 : decode cL_law 464 = .ok (.iconst 0, 1) := by decide +kernel
theorem dL_law_465 : decode cL_law 465 = .ok (.ireturn, 1) := by decide +kernel
theorem dL_law_466 : decode cL_law 466 = .ok (.aload_n 1, 1) := by decide +kernel
theorem dL_law_467 : decode cL_law 467 = .ok (.invokevirtual 66, 3) := by decide +kernel
theorem dL_law_470 : decode cL_law 470 = .ok (.aload_n 2, 1) := by decide +kernel
theorem dL_law_471 : decode cL_law 471 = .ok (.invokevirtual 69, 3) := by decide +kernel
theorem dL_law_474 : decode cL_law 474 = .ok (.if_icmp .eq 238, 3) := by decide +kernel
theorem dL_law_477 : decode cL_law 477 = .ok (.iconst 0, 1) := by decide +kernel
theorem dL_law_478 : decode cL_law 478 = .ok (.ireturn, 1) := by decide +kernel
theorem dL_law_479 : decode cL_law 479 = .ok (.aload_n 1, 1) := by decide +kernel
theorem dL_law_480 : decode cL_law 480 = .ok (.invokevirtual 70, 3) := by decide +kernel
theorem dL_law_483 : decode cL_law 483 = .ok (.aload_n 2, 1) := by decide +kernel
theorem dL_law_484 : decode cL_law 484 = .ok (.invokevirtual 73, 3) := by decide +kernel
theorem dL_law_487 : decode cL_law 487 = .ok (.if_icmp .eq 225, 3) := by decide +kernel
theorem dL_law_490 : decode cL_law 490 = .ok (.iconst 0, 1) := by decide +kernel
theorem dL_law_491 : decode cL_law 491 = .ok (.ireturn, 1) := by decide +kernel
theorem dL_law_492 : decode cL_law 492 = .ok (.aload_n 1, 1) := by decide +kernel
theorem dL_law_493 : decode cL_law 493 = .ok (.aload_n 0, 1) := by decide +kernel
theorem dL_law_494 : decode cL_law 494 = .ok (.iload_n 3, 1) := by decide +kernel
theorem dL_law_495 : decode cL_law 495 = .ok (.iconst 1, 1) := by decide +kernel
theorem dL_law_496 : decode cL_law 496 = .ok (.iadd, 1) := by decide +kernel
theorem dL_law_497 : decode cL_law 497 = .ok (.iaload, 1) := by decide +kernel
theorem dL_law_498 : decode cL_law 498 = .ok (.aload_n 0, 1) := by decide +kernel
theorem dL_law_499 : decode cL_law 499 = .ok (.iload_n 3, 1) := by decide +kernel
theorem dL_law_500 : decode cL_law 500 = .ok (.iconst 2, 1) := by decide +kernel
theorem dL_law_501 : decode cL_law 501 = .ok (.iadd, 1) := by decide +kernel
theorem dL_law_502 : decode cL_law 502 = .ok (.iaload, 1) := by decide +kernel
theorem dL_law_503 : decode cL_law 503 = .ok (.aload_n 0, 1) := by decide +kernel
theorem dL_law_504 : decode cL_law 504 = .ok (.iload_n 3, 1) := by decide +kernel
theorem dL_law_505 : decode cL_law 505 = .ok (.iconst 3, 1) := by decide +kernel
theorem dL_law_506 : decode cL_law 506 = .ok (.iadd, 1) := by decide +kernel
theorem dL_law_507 : decode cL_law 507 = .ok (.iaload, 1) := by decide +kernel
theorem dL_law_508 : decode cL_law 508 = .ok (.invokevirtual 74, 3) := by decide +kernel
theorem dL_law_511 : decode cL_law 511 = .ok (.aload_n 2, 1) := by decide +kernel
theorem dL_law_512 : decode cL_law 512 = .ok (.aload_n 0, 1) := by decide +kernel
theorem dL_law_513 : decode cL_law 513 = .ok (.iload_n 3, 1) := by decide +kernel
theorem dL_law_514 : decode cL_law 514 = .ok (.iconst 1, 1) := by decide +kernel
theorem dL_law_515 : decode cL_law 515 = .ok (.iadd, 1) := by decide +kernel
theorem dL_law_516 : decode cL_law 516 = .ok (.iaload, 1) := by decide +kernel
theorem dL_law_517 : decode cL_law 517 = .ok (.aload_n 0, 1) := by decide +kernel
theorem dL_law_518 : decode cL_law 518 = .ok (.iload_n 3, 1) := by decide +kernel
theorem dL_law_519 : decode cL_law 519 = .ok (.iconst 2, 1) := by decide +kernel
theorem dL_law_520 : decode cL_law 520 = .ok (.iadd, 1) := by decide +kernel
theorem dL_law_521 : decode cL_law 521 = .ok (.iaload, 1) := by decide +kernel
theorem dL_law_522 : decode cL_law 522 = .ok (.aload_n 0, 1) := by decide +kernel
theorem dL_law_523 : decode cL_law 523 = .ok (.iload_n 3, 1) := by decide +kernel
theorem dL_law_524 : decode cL_law 524 = .ok (.iconst 3, 1) := by decide +kernel
theorem dL_law_525 : decode cL_law 525 = .ok (.iadd, 1) := by decide +kernel
theorem dL_law_526 : decode cL_law 526 = .ok (.iaload, 1) := by decide +kernel
theorem dL_law_527 : decode cL_law 527 = .ok (.invokevirtual 77, 3) := by decide +kernel
theorem dL_law_530 : decode cL_law 530 = .ok (.if_icmp .eq 182, 3) := by decide +kernel
theorem dL_law_533 : decode cL_law 533 = .ok (.iconst 0, 1) := by decide +kernel
theorem dL_law_534 : decode cL_law 534 = .ok (.ireturn, 1) := by decide +kernel
theorem dL_law_535 : decode cL_law 535 = .ok (.aload_n 1, 1) := by decide +kernel
theorem dL_law_536 : decode cL_law 536 = .ok (.aload_n 0, 1) := by decide +kernel
theorem dL_law_537 : decode cL_law 537 = .ok (.iload_n 3, 1) := by decide +kernel
theorem dL_law_538 : decode cL_law 538 = .ok (.iconst 1, 1) := by decide +kernel
theorem dL_law_539 : decode cL_law 539 = .ok (.iadd, 1) := by decide +kernel
theorem dL_law_540 : decode cL_law 540 = .ok (.iaload, 1) := by decide +kernel
theorem dL_law_541 : decode cL_law 541 = .ok (.aload_n 0, 1) := by decide +kernel
theorem dL_law_542 : decode cL_law 542 = .ok (.iload_n 3, 1) := by decide +kernel
theorem dL_law_543 : decode cL_law 543 = .ok (.iconst 2, 1) := by decide +kernel
theorem dL_law_544 : decode cL_law 544 = .ok (.iadd, 1) := by decide +kernel
theorem dL_law_545 : decode cL_law 545 = .ok (.iaload, 1) := by decide +kernel
theorem dL_law_546 : decode cL_law 546 = .ok (.invokevirtual 78, 3) := by decide +kernel
theorem dL_law_549 : decode cL_law 549 = .ok (.aload_n 2, 1) := by decide +kernel
theorem dL_law_550 : decode cL_law 550 = .ok (.aload_n 0, 1) := by decide +kernel
theorem dL_law_551 : decode cL_law 551 = .ok (.iload_n 3, 1) := by decide +kernel
theorem dL_law_552 : decode cL_law 552 = .ok (.iconst 1, 1) := by decide +kernel
theorem dL_law_553 : decode cL_law 553 = .ok (.iadd, 1) := by decide +kernel
theorem dL_law_554 : decode cL_law 554 = .ok (.iaload, 1) := by decide +kernel
theorem dL_law_555 : decode cL_law 555 = .ok (.aload_n 0, 1) := by decide +kernel
theorem dL_law_556 : decode cL_law 556 = .ok (.iload_n 3, 1) := by decide +kernel
theorem dL_law_557 : decode cL_law 557 = .ok (.iconst 2, 1) := by decide +kernel
theorem dL_law_558 : decode cL_law 558 = .ok (.iadd, 1) := by decide +kernel
theorem dL_law_559 : decode cL_law 559 = .ok (.iaload, 1) := by decide +kernel
theorem dL_law_560 : decode cL_law 560 = .ok (.invokevirtual 81, 3) := by decide +kernel
theorem dL_law_563 : decode cL_law 563 = .ok (.if_icmp .eq 149, 3) := by decide +kernel
theorem dL_law_566 : decode cL_law 566 = .ok (.iconst 0, 1) := by decide +kernel
theorem dL_law_567 : decode cL_law 567 = .ok (.ireturn, 1) := by decide +kernel
theorem dL_law_568 : decode cL_law 568 = .ok (.aload_n 1, 1) := by decide +kernel
theorem dL_law_569 : decode cL_law 569 = .ok (.invokevirtual 82, 3) := by decide +kernel
theorem dL_law_572 : decode cL_law 572 = .ok (.aload_n 2, 1) := by decide +kernel
theorem dL_law_573 : decode cL_law 573 = .ok (.invokevirtual 85, 3) := by decide +kernel
theorem dL_law_576 : decode cL_law 576 = .ok (.if_icmp .eq 136, 3) := by decide +kernel
theorem dL_law_579 : decode cL_law 579 = .ok (.iconst 0, 1) := by decide +kernel
theorem dL_law_580 : decode cL_law 580 = .ok (.ireturn, 1) := by decide +kernel
theorem dL_law_581 : decode cL_law 581 = .ok (.aload_n 1, 1) := by decide +kernel
theorem dL_law_582 : decode cL_law 582 = .ok (.invokevirtual 86, 3) := by decide +kernel
theorem dL_law_585 : decode cL_law 585 = .ok (.aload_n 2, 1) := by decide +kernel
theorem dL_law_586 : decode cL_law 586 = .ok (.invokevirtual 89, 3) := by decide +kernel
theorem dL_law_589 : decode cL_law 589 = .ok (.if_icmp .eq 123, 3) := by decide +kernel
theorem dL_law_592 : decode cL_law 592 = .ok (.iconst 0, 1) := by decide +kernel
theorem dL_law_593 : decode cL_law 593 = .ok (.ireturn, 1) := by decide +kernel
theorem dL_law_594 : decode cL_law 594 = .ok (.aload_n 1, 1) := by decide +kernel
theorem dL_law_595 : decode cL_law 595 = .ok (.invokevirtual 90, 3) := by decide +kernel
theorem dL_law_598 : decode cL_law 598 = .ok (.aload_n 2, 1) := by decide +kernel
theorem dL_law_599 : decode cL_law 599 = .ok (.invokevirtual 93, 3) := by decide +kernel
theorem dL_law_602 : decode cL_law 602 = .ok (.if_icmp .eq 110, 3) := by decide +kernel
theorem dL_law_605 : decode cL_law 605 = .ok (.iconst 0, 1) := by decide +kernel
theorem dL_law_606 : decode cL_law 606 = .ok (.ireturn, 1) := by decide +kernel
theorem dL_law_607 : decode cL_law 607 = .ok (.aload_n 1, 1) := by decide +kernel
theorem dL_law_608 : decode cL_law 608 = .ok (.invokevirtual 94, 3) := by decide +kernel
theorem dL_law_611 : decode cL_law 611 = .ok (.aload_n 2, 1) := by decide +kernel
theorem dL_law_612 : decode cL_law 612 = .ok (.invokevirtual 97, 3) := by decide +kernel
theorem dL_law_615 : decode cL_law 615 = .ok (.if_icmp .eq 97, 3) := by decide +kernel
theorem dL_law_618 : decode cL_law 618 = .ok (.iconst 0, 1) := by decide +kernel
theorem dL_law_619 : decode cL_law 619 = .ok (.ireturn, 1) := by decide +kernel
theorem dL_law_620 : decode cL_law 620 = .ok (.aload_n 1, 1) := by decide +kernel
theorem dL_law_621 : decode cL_law 621 = .ok (.aload_n 0, 1) := by decide +kernel
theorem dL_law_622 : decode cL_law 622 = .ok (.iload_n 3, 1) := by decide +kernel
theorem dL_law_623 : decode cL_law 623 = .ok (.iconst 1, 1) := by decide +kernel
theorem dL_law_624 : decode cL_law 624 = .ok (.iadd, 1) := by decide +kernel
theorem dL_law_625 : decode cL_law 625 = .ok (.iaload, 1) := by decide +kernel
theorem dL_law_626 : decode cL_law 626 = .ok (.aload_n 0, 1) := by decide +kernel
theorem dL_law_627 : decode cL_law 627 = .ok (.iload_n 3, 1) := by decide +kernel
theorem dL_law_628 : decode cL_law 628 = .ok (.iconst 2, 1) := by decide +kernel
theorem dL_law_629 : decode cL_law 629 = .ok (.iadd, 1) := by decide +kernel
theorem dL_law_630 : decode cL_law 630 = .ok (.iaload, 1) := by decide +kernel
theorem dL_law_631 : decode cL_law 631 = .ok (.invokevirtual 98, 3) := by decide +kernel
theorem dL_law_634 : decode cL_law 634 = .ok (.aload_n 2, 1) := by decide +kernel
theorem dL_law_635 : decode cL_law 635 = .ok (.aload_n 0, 1) := by decide +kernel
theorem dL_law_636 : decode cL_law 636 = .ok (.iload_n 3, 1) := by decide +kernel
theorem dL_law_637 : decode cL_law 637 = .ok (.iconst 1, 1) := by decide +kernel
theorem dL_law_638 : decode cL_law 638 = .ok (.iadd, 1) := by decide +kernel
theorem dL_law_639 : decode cL_law 639 = .ok (.iaload, 1) := by decide +kernel
theorem dL_law_640 : decode cL_law 640 = .ok (.aload_n 0, 1) := by decide +kernel
theorem dL_law_641 : decode cL_law 641 = .ok (.iload_n 3, 1) := by decide +kernel
theorem dL_law_642 : decode cL_law 642 = .ok (.iconst 2, 1) := by decide +kernel
theorem dL_law_643 : decode cL_law 643 = .ok (.iadd, 1) := by decide +kernel
theorem dL_law_644 : decode cL_law 644 = .ok (.iaload, 1) := by decide +kernel
theorem dL_law_645 : decode cL_law 645 = .ok (.invokevirtual 101, 3) := by decide +kernel
theorem dL_law_648 : decode cL_law 648 = .ok (.if_icmp .eq 64, 3) := by decide +kernel
theorem dL_law_651 : decode cL_law 651 = .ok (.iconst 0, 1) := by decide +kernel
theorem dL_law_652 : decode cL_law 652 = .ok (.ireturn, 1) := by decide +kernel
theorem dL_law_653 : decode cL_law 653 = .ok (.aload_n 1, 1) := by decide +kernel
theorem dL_law_654 : decode cL_law 654 = .ok (.invokevirtual 102, 3) := by decide +kernel
theorem dL_law_657 : decode cL_law 657 = .ok (.aload_n 2, 1) := by decide +kernel
theorem dL_law_658 : decode cL_law 658 = .ok (.invokevirtual 105, 3) := by decide +kernel
theorem dL_law_661 : decode cL_law 661 = .ok (.if_icmp .eq 51, 3) := by decide +kernel
theorem dL_law_664 : decode cL_law 664 = .ok (.iconst 0, 1) := by decide +kernel
theorem dL_law_665 : decode cL_law 665 = .ok (.ireturn, 1) := by decide +kernel
theorem dL_law_666 : decode cL_law 666 = .ok (.aload_n 1, 1) := by decide +kernel
theorem dL_law_667 : decode cL_law 667 = .ok (.aload_n 0, 1) := by decide +kernel
theorem dL_law_668 : decode cL_law 668 = .ok (.iload_n 3, 1) := by decide +kernel
theorem dL_law_669 : decode cL_law 669 = .ok (.iconst 1, 1) := by decide +kernel
theorem dL_law_670 : decode cL_law 670 = .ok (.iadd, 1) := by decide +kernel
theorem dL_law_671 : decode cL_law 671 = .ok (.iaload, 1) := by decide +kernel
theorem dL_law_672 : decode cL_law 672 = .ok (.invokevirtual 106, 3) := by decide +kernel
theorem dL_law_675 : decode cL_law 675 = .ok (.aload_n 2, 1) := by decide +kernel
theorem dL_law_676 : decode cL_law 676 = .ok (.aload_n 0, 1) := by decide +kernel
theorem dL_law_677 : decode cL_law 677 = .ok (.iload_n 3, 1) := by decide +kernel
theorem dL_law_678 : decode cL_law 678 = .ok (.iconst 1, 1) := by decide +kernel
theorem dL_law_679 : decode cL_law 679 = .ok (.iadd, 1) := by decide +kernel
theorem dL_law_680 : decode cL_law 680 = .ok (.iaload, 1) := by decide +kernel
theorem dL_law_681 : decode cL_law 681 = .ok (.invokevirtual 109, 3) := by decide +kernel
theorem dL_law_684 : decode cL_law 684 = .ok (.if_icmp .eq 28, 3) := by decide +kernel
theorem dL_law_687 : decode cL_law 687 = .ok (.iconst 0, 1) := by decide +kernel
theorem dL_law_688 : decode cL_law 688 = .ok (.ireturn, 1) := by decide +kernel
theorem dL_law_689 : decode cL_law 689 = .ok (.aload_n 1, 1) := by decide +kernel
theorem dL_law_690 : decode cL_law 690 = .ok (.aload_n 0, 1) := by decide +kernel
theorem dL_law_691 : decode cL_law 691 = .ok (.iload_n 3, 1) := by decide +kernel
theorem dL_law_692 : decode cL_law 692 = .ok (.iconst 1, 1) := by decide +kernel
theorem dL_law_693 : decode cL_law 693 = .ok (.iadd, 1) := by decide +kernel
theorem dL_law_694 : decode cL_law 694 = .ok (.iaload, 1) := by decide +kernel
theorem dL_law_695 : decode cL_law 695 = .ok (.invokevirtual 110, 3) := by decide +kernel
theorem dL_law_698 : decode cL_law 698 = .ok (.aload_n 2, 1) := by decide +kernel
theorem dL_law_699 : decode cL_law 699 = .ok (.aload_n 0, 1) := by decide +kernel
theorem dL_law_700 : decode cL_law 700 = .ok (.iload_n 3, 1) := by decide +kernel
theorem dL_law_701 : decode cL_law 701 = .ok (.iconst 1, 1) := by decide +kernel
theorem dL_law_702 : decode cL_law 702 = .ok (.iadd, 1) := by decide +kernel
theorem dL_law_703 : decode cL_law 703 = .ok (.iaload, 1) := by decide +kernel
theorem dL_law_704 : decode cL_law 704 = .ok (.invokevirtual 113, 3) := by decide +kernel
theorem dL_law_707 : decode cL_law 707 = .ok (.if_icmp .eq 5, 3) := by decide +kernel
theorem dL_law_710 : decode cL_law 710 = .ok (.iconst 0, 1) := by decide +kernel
theorem dL_law_711 : decode cL_law 711 = .ok (.ireturn, 1) := by decide +kernel
theorem dL_law_712 : decode cL_law 712 = .ok (.iinc 3 4, 3) := by decide +kernel
theorem dL_law_715 : decode cL_law 715 = .ok (.goto (-697), 3) := by decide +kernel
theorem dL_law_718 : decode cL_law 718 = .ok (.iconst 1, 1) := by decide +kernel
theorem dL_law_719 : decode cL_law 719 = .ok (.ireturn, 1) := by decide +kernel
/-! rules at the law's own frame -/
def lCx (p : Program) (s : State) (m : MethodId) (meth : Method) (c : Code) (b L : Nat) (xs : Nat → Int32) (G : xG) : Prop := lw_At p s m meth c b L xs ∧ va_K G.2.2.1 vwCl (xT G) s ∧ (∀ w ∈ xNW, va_Nw w s) ∧ xX G (fun q : Nat => s.heap.size ≤ q) s s.heap ∧ G.1 = s.heap.size ∧ G.2.1 9 = b
def wEx (p : Program) (l : Launch) (e : Env) (s : State) (m : MethodId) (below : List Frame) (meth : Method) (c : Code) (b : Nat) (G : xG) (K : Nat × Nat) (pc : Nat) (lv : List (Nat × Value)) (st : List Value) (M : xMem) : Prop :=
  ∀ (H : Heap) (locs : List Loc) (ls : Array Slot), xInv s G (fun q : Nat => s.heap.size ≤ q) K.1 M H locs → lv_has ls 4 (xlv G lv) → W p l e room_1 s m #[Value.ref b] below meth c H locs K.1 K.2 (lw_Z below #[Value.ref b] s) (F0 m pc ls (st.map (xtr G)))
theorem lts {p : Program} {s : State} {m : MethodId} {meth : Method} {c : Code} {b L : Nat} {xs : Nat → Int32} {G : xG} (X : lCx p s m meth c b L xs G) : ∀ w ∈ xTG, w.before #[Value.ref b] s = true := fun w hw => X.1.2.2.2.2.2.1 w (List.mem_filter.mp hw).1
section lRules
variable {p : Program} {l : Launch} {e : Env} {s : State} {m : MethodId} {below : List Frame} {meth : Method} {c : Code} {b L : Nat} {xs : Nat → Int32} {G : xG} {K : Nat × Nat} {pc : Nat} {lv : List (Nat × Value)} {st : List Value} {M : xMem}

theorem w_iadd {x y : Int32} (hd : decode code pc = .ok (.iadd, 1)) (X : lCx p s m meth c b L xs G) (k : wEx p l e s m below meth c b G K (pc + 1) lv (.int (x + y) :: st) M) : wEx p l e s m below meth c b G K pc lv (.int y :: .int x :: st) M := fun H locs ls I hl => lv_iadd X.1.1 X.1.2.1 hd (k H locs ls I hl)
theorem w_isub {x y : Int32} (hd : decode code pc = .ok (.isub, 1)) (X : lCx p s m meth c b L xs G) (k : wEx p l e s m below meth c b G K (pc + 1) lv (.int (x - y) :: st) M) : wEx p l e s m below meth c b G K pc lv (.int y :: .int x :: st) M := fun H locs ls I hl => lv_isub X.1.1 X.1.2.1 hd (k H locs ls I hl)
theorem w_iand {x y : Int32} (hd : decode code pc = .ok (.iand, 1)) (X : lCx p s m meth c b L xs G) (k : wEx p l e s m below meth c b G K (pc + 1) lv (.int (x &&& y) :: st) M) : wEx p l e s m below meth c b G K pc lv (.int y :: .int x :: st) M := fun H locs ls I hl => lv_iand X.1.1 X.1.2.1 hd (k H locs ls I hl)
theorem w_iconst {n : Int} (v : Int32) (hd : decode code pc = .ok (.iconst n, 1)) (hv : Int32.ofInt n = v) (X : lCx p s m meth c b L xs G) (k : wEx p l e s m below meth c b G K (pc + 1) lv (.int v :: st) M) : wEx p l e s m below meth c b G K pc lv st M := fun H locs ls I hl => lv_iconst X.1.1 X.1.2.1 hd hv (k H locs ls I hl)
theorem w_bipush {n : Int} (v : Int32) (hd : decode code pc = .ok (.bipush n, 2)) (hv : (Int8.ofInt n).toInt32 = v) (X : lCx p s m meth c b L xs G) (k : wEx p l e s m below meth c b G K (pc + 2) lv (.int v :: st) M) : wEx p l e s m below meth c b G K pc lv st M := fun H locs ls I hl => lv_bipush X.1.1 X.1.2.1 hd hv (k H locs ls I hl)
theorem w_iload_n {kf : Fin 4} {x : Int32} (hd : decode code pc = .ok (.iload_n kf, 1)) (j : Nat) (hj : lv[j]? = some ((kf : Nat), .int x)) (X : lCx p s m meth c b L xs G) (k : wEx p l e s m below meth c b G K (pc + 1) lv (.int x :: st) M) : wEx p l e s m below meth c b G K pc lv st M := fun H locs ls I hl => lv_iload_n X.1.1 X.1.2.1 hd rfl (xlv_at hl j hj) (k H locs ls I hl)
theorem w_aload_n {kf : Fin 4} {x : Nat} (hd : decode code pc = .ok (.aload_n kf, 1)) (j : Nat) (hj : lv[j]? = some ((kf : Nat), .ref x)) (X : lCx p s m meth c b L xs G) (k : wEx p l e s m below meth c b G K (pc + 1) lv (.ref x :: st) M) : wEx p l e s m below meth c b G K pc lv st M := fun H locs ls I hl => lv_aload_n X.1.1 X.1.2.1 hd rfl (xlv_at hl j hj) (k H locs ls I hl)
theorem w_sload_n {kf : Fin 4} {x : UInt32} (hd : decode code pc = .ok (.aload_n kf, 1)) (j : Nat) (hj : lv[j]? = some ((kf : Nat), .float x)) (X : lCx p s m meth c b L xs G) (k : wEx p l e s m below meth c b G K (pc + 1) lv (.float x :: st) M) : wEx p l e s m below meth c b G K pc lv st M := fun H locs ls I hl => lv_aload_n X.1.1 X.1.2.1 hd rfl (xlv_at hl j hj) (k H locs ls I hl)
theorem w_istore_n {kf : Fin 4} {x : Int32} (lv' : List (Nat × Value)) (hd : decode code pc = .ok (.istore_n kf, 1)) (hl' : xst1 (kf : Nat) (.int x) lv = lv') (X : lCx p s m meth c b L xs G) (k : wEx p l e s m below meth c b G K (pc + 1) lv' st M) : wEx p l e s m below meth c b G K pc lv (.int x :: st) M := fun H locs ls I hl => lv_istore_n X.1.1 X.1.2.1 hd rfl hl (Fin.isLt _) (xst1_map G _ (.int x)) (fun ls h2 => k H locs ls I (by rw [← hl']; exact h2))
theorem w_astore_n {kf : Fin 4} {x : Nat} (lv' : List (Nat × Value)) (hd : decode code pc = .ok (.astore_n kf, 1)) (hl' : xst1 (kf : Nat) (.ref x) lv = lv') (X : lCx p s m meth c b L xs G) (k : wEx p l e s m below meth c b G K (pc + 1) lv' st M) : wEx p l e s m below meth c b G K pc lv (.ref x :: st) M := fun H locs ls I hl => lv_astore_n X.1.1 X.1.2.1 hd rfl hl (Fin.isLt _) (xst1_map G _ (.ref x)) (fun ls h2 => k H locs ls I (by rw [← hl']; exact h2))
theorem w_iinc {i : Nat} {n : Int} {x : Int32} (v : Int32) (lv' : List (Nat × Value)) (hd : decode code pc = .ok (.iinc i n, 3)) (j : Nat) (hj : lv[j]? = some (i, .int x)) (hv : x + Int32.ofInt n = v) (hn : i < 4) (hl' : xst1 i (.int v) lv = lv') (X : lCx p s m meth c b L xs G) (k : wEx p l e s m below meth c b G K (pc + 3) lv' st M) : wEx p l e s m below meth c b G K pc lv st M := fun H locs ls I hl => lv_iinc X.1.1 X.1.2.1 hd hl (k := j) (by rw [xlv, List.getElem?_map, hj]; rfl) hv hn (xst1_map G _ (.int v)) (fun ls h2 => k H locs ls I (by rw [← hl']; exact h2))
theorem w_dup {v : Value} (hd : decode code pc = .ok (.dup, 1)) (hv : v.category = 1) (X : lCx p s m meth c b L xs G) (k : wEx p l e s m below meth c b G K (pc + 1) lv (v :: v :: st) M) : wEx p l e s m below meth c b G K pc lv (v :: st) M := fun H locs ls I hl => lv_dup X.1.1 X.1.2.1 hd ((xtr_cat G v).trans hv) (k H locs ls I hl)
theorem w_goto {off : Int} (tgt : Nat) (hd : decode code pc = .ok (.goto off, 3)) (ht : (pc : Int) + off = (tgt : Int)) (X : lCx p s m meth c b L xs G) (k : wEx p l e s m below meth c b G K tgt lv st M) : wEx p l e s m below meth c b G K pc lv st M := fun H locs ls I hl => lv_goto X.1.1 X.1.2.1 hd ht (k H locs ls I hl)
theorem w_slen (hd : decode code pc = .ok (.arraylength, 1)) (X : lCx p s m meth c b L xs G) (k : wEx p l e s m below meth c b G K (pc + 1) lv (.int (Int32.ofNat L) :: st) M) : wEx p l e s m below meth c b G K pc lv (.float 9 :: st) M := fun H locs ls I hl => by
  show W _ _ _ _ _ _ _ _ _ _ _ _ _ _ _ (F0 m pc ls (.ref (G.2.1 9) :: st.map (xtr G)))
  rw [X.2.2.2.2.2]
  exact va_slen X.1.1 X.1.2.1 X.1.2.2.2.2.2.2.1 X.1.2.2.2.2.2.2.2.1 (Nat.not_le.mpr X.1.2.2.2.2.2.2.2.1) I.2.2.1 hd (k H locs ls I hl)
theorem w_sld {i : Int32} (hi : xin i L = true) (hd : decode code pc = .ok (.iaload, 1)) (X : lCx p s m meth c b L xs G) (k : wEx p l e s m below meth c b G K (pc + 1) lv (.int (xs i.toNatClampNeg) :: st) M) : wEx p l e s m below meth c b G K pc lv (.int i :: .float 9 :: st) M := fun H locs ls I hl => by
  show W _ _ _ _ _ _ _ _ _ _ _ _ _ _ _ (F0 m pc ls (.int i :: .ref (G.2.1 9) :: st.map (xtr G)))
  rw [X.2.2.2.2.2]
  exact va_sld X.1.1 X.1.2.1 X.1.2.2.2.2.2.2.1 X.1.2.2.2.2.2.2.2.1 (Nat.not_le.mpr X.1.2.2.2.2.2.2.2.1) I.2.2.1 (xin_vp hi) hd (k H locs ls I hl)
theorem w_icmp_gt {x y : Int32} {off : Int} (tgt : Nat) (hd : decode code pc = .ok (.if_icmp .gt off, 3)) (ht : (pc : Int) + off = (tgt : Int)) (X : lCx p s m meth c b L xs G) (kt : y < x → wEx p l e s m below meth c b G K tgt lv st M) (kf : ¬ y < x → wEx p l e s m below meth c b G K (pc + 3) lv st M) : wEx p l e s m below meth c b G K pc lv (.int y :: .int x :: st) M := fun H locs ls I hl => lv_icmp_gt X.1.1 X.1.2.1 hd ht (fun h => kt h H locs ls I hl) (fun h => kf h H locs ls I hl)
theorem w_icmp_eq {x y : Int32} {off : Int} (tgt : Nat) (hd : decode code pc = .ok (.if_icmp .eq off, 3)) (ht : (pc : Int) + off = (tgt : Int)) (X : lCx p s m meth c b L xs G) (kt : x = y → wEx p l e s m below meth c b G K tgt lv st M) (kf : ¬ x = y → wEx p l e s m below meth c b G K (pc + 3) lv st M) : wEx p l e s m below meth c b G K pc lv (.int y :: .int x :: st) M := fun H locs ls I hl => lv_icmp_eq X.1.1 X.1.2.1 hd ht (fun h => kt h H locs ls I hl) (fun h => kf h H locs ls I hl)
theorem w_if_eq {x : Int32} {off : Int} (tgt : Nat) (hd : decode code pc = .ok (.ifCond .eq off, 3)) (ht : (pc : Int) + off = (tgt : Int)) (X : lCx p s m meth c b L xs G) (kt : x = 0 → wEx p l e s m below meth c b G K tgt lv st M) (kf : ¬ x = 0 → wEx p l e s m below meth c b G K (pc + 3) lv st M) : wEx p l e s m below meth c b G K pc lv (.int x :: st) M := fun H locs ls I hl => lv_if_eq X.1.1 X.1.2.1 hd ht (fun h => kt h H locs ls I hl) (fun h => kf h H locs ls I hl)
theorem w_tsIn {dflt lo hi : Int} {offs : Array Int} {len : Nat} {x : Int32} {off : Int} (k0 : Int32) (tgt : Nat) (hx : x = k0) (hd : decode code pc = .ok (.tableswitch dflt lo hi offs, len)) (h1 : ¬ k0.toInt < lo) (h2 : ¬ hi < k0.toInt) (ho : offs[(k0.toInt - lo).toNat]? = some off) (ht : (pc : Int) + off = (tgt : Int)) (X : lCx p s m meth c b L xs G) (k : wEx p l e s m below meth c b G K tgt lv st M) : wEx p l e s m below meth c b G K pc lv (.int x :: st) M := by
  subst hx
  exact fun H locs ls I hl => lv_tableIn X.1.1 X.1.2.1 hd h1 h2 ho ht (k H locs ls I hl)
theorem w_tsOut {dflt lo hi : Int} {offs : Array Int} {len : Nat} {x : Int32} (tgt : Nat) (hd : decode code pc = .ok (.tableswitch dflt lo hi offs, len)) (h : x.toInt < lo ∨ hi < x.toInt) (ht : (pc : Int) + dflt = (tgt : Int)) (X : lCx p s m meth c b L xs G) (k : wEx p l e s m below meth c b G K tgt lv st M) : wEx p l e s m below meth c b G K pc lv (.int x :: st) M :=
  fun H locs ls I hl => lv_tableOut X.1.1 X.1.2.1 hd h ht (k H locs ls I hl)
theorem w_lv {lv' : List (Nat × Value)} (ks : List Nat) (hp : lv_pick lv ks = lv') (k : wEx p l e s m below meth c b G K pc lv' st M) : wEx p l e s m below meth c b G K pc lv st M := fun H locs ls I hl => k H locs ls I (lv_sub hl ks (by rw [← hp]; exact xlv_pick G ks))
theorem w_ret (X : lCx p s m meth c b L xs G) (h1 : K.1 ≤ 600000) (h2 : K.2 ≤ 7302250) (hd : decode code pc = .ok (.ireturn, 1)) : wEx p l e s m below meth c b G K pc lv [.int 1] M := fun H locs ls I hl =>
  W.widen h1 h2 (va_forget I.2.2.1.2.2 (lw_ret X.1.1 X.1.2.1 X.1.2.2.1 X.1.2.2.2.2.2.2.2.2.1 hd))
theorem lA_sub {k : Nat} {H : Heap} {locs : List Loc} (I : xInv s G (fun q : Nat => s.heap.size ≤ q) k M H locs) : ∀ q, xA G M q → s.heap.size ≤ q := by
  intro q h
  rcases h with ⟨j, e, h⟩ | h
  · exact I.2.1.2 j (q, e) h
  · have := I.2.2.2.1; have := I.2.2.2.2; omega
theorem lpre {k : Nat} {H : Heap} {locs : List Loc} (X : lCx p s m meth c b L xs G) (I : xInv s G (fun q : Nat => s.heap.size ≤ q) k M H locs) (hz : H.size = G.1 + M.1.1.length) (As : List Value) : ∀ U : State, U.heap = H → s.WarmedH U.vm → xPre G As M (As.map (xtr G)).toArray U := by
  intro U hU hW
  refine ⟨rfl, by rw [hU]; exact hz, by rw [hU]; exact I.1, I.2.1.weaken (fun _ _ _ _ => trivial), va_K.moved hW.alike X.2.1, xNW_warm hW X.2.2.1, ?_⟩
  rw [hU]
  exact ((X.2.2.2.1.kept I.2.2.1.2.1).warm hW).narrow (lA_sub I)
theorem lcall {B' : Nat × Nat × Nat} {Qc : Option Value → xMem → Prop} {H : Heap} {locs : List Loc} {ls : Array Slot} {a : Array Value} {st0 : List Value} (I : xInv s G (fun q : Nat => s.heap.size ≤ q) K.1 M H locs) (hl : lv_has ls 4 (xlv G lv))
    (hr : va_Run p l e room_1 s m #[Value.ref b] below meth c H locs K.1 K.2 B'.2.1 B'.2.2 (F0 m pc ls st0) (st.map (xtr G)) (xQA G (xA G M) Qc a) (xA G M))
    (hlen : ∀ v M', Qc v M' → M'.1.1.length = M.1.1.length + B'.2.1)
    (kk : ∀ v M', Qc v M' → wEx p l e s m below meth c b G (K.1 + B'.2.1, K.2 + B'.2.2) (pc + 3) lv (v.toList ++ st) M') :
    W p l e room_1 s m #[Value.ref b] below meth c H locs K.1 K.2 (lw_Z below #[Value.ref b] s) (F0 m pc ls st0) := by
  intro T hT X0
  obtain ⟨v, st₀, t, T', Lo, h0, X', hL, e1, e2, ⟨⟨v', M', hv, hQ, hP', hD'⟩, hz, hk⟩, go⟩ := hr T hT X0
  have hv2 : v = v'.map (xtr G) := by injection hv
  subst hv2
  rw [h0] at hz hk
  have hsub := lA_sub I
  have hS : va_S (fun q : Nat => s.heap.size ≤ q) s.heap T'.heap (locs ++ Lo) := ⟨Nat.le_trans I.2.2.1.1 (by rw [e1]; exact hz), fun q h1 h2 => by rw [e1, hk q (Nat.lt_of_lt_of_le h1 I.2.2.1.1) (fun z => h2 (hsub q z))]; exact I.2.2.1.2.1 q h1 h2, fun q hq => by
      rcases List.mem_append.mp hq with h | h
      · exact I.2.2.1.2.2 q h
      · exact hsub _ (hL q h)⟩
  have I' : xInv s G (fun q : Nat => s.heap.size ≤ q) (K.1 + B'.2.1, K.2 + B'.2.2).1 M' T'.heap (locs ++ Lo) := ⟨by rw [e1]; exact hP', hD'.weaken (fun _ q _ h => hsub q.1 h), hS, by have := hlen v' M' hQ; have := I.2.2.2.1; dsimp only; omega, I.2.2.2.2⟩
  obtain ⟨t2, a1, b1⟩ := kk v' M' hQ T'.heap (locs ++ Lo) ls I' hl T' rfl X'
  refine ⟨t2, go t2 ?_, b1⟩
  have e3 : (v'.map (xtr G)).toList ++ st.map (xtr G) = (v'.toList ++ st).map (xtr G) := by cases v' <;> rfl
  dsimp only [F0] at a1 ⊢
  rw [e3]
  exact a1
theorem lhR {d' : xMd} {B' : Nat × Nat × Nat} {n : Nat} (h : xcw d' n) (hB : B'.1 + 1 ≤ 2048) : (xrm B').frames + 1 ≤ room_1.frames ∧ 8 + (d'.2.2.1 + 11) + (xrm B').locals ≤ room_1.locals := by
  have := h.2.2.2
  have e1 : room_1.frames = 2048 := rfl
  have e2 : room_1.locals = 84000 := rfl
  rw [e1, e2]
  simp only [xrm]
  omega
theorem w_callV {d' : xMd} {idx a ci n h' : Nat} {As : List Value} {S : xSt} {D : xDt} {q : Int32 × xDt} (hc : xCV "KnowledgeRoomLaw" idx d' ci n) (hd : decode code pc = .ok (.invokevirtual idx, 3)) (ha : xK S a ci) (hn : As.length = n) (hst : (st.map fun v => v.category).sum ≤ 8) (hB : h' + 1 ≤ 2048) (hk1 : K.1 ≤ 600000) (hk2 : K.2 ≤ 7302250) (hM : xSp d' (h', 0, 0) (.ref a :: As) (S, D) (xQi S q)) (X : lCx p s m meth c b L xs G) (kk : wEx p l e s m below meth c b G K (pc + 3) lv (.int q.1 :: st) (S, q.2)) : wEx p l e s m below meth c b G K pc lv (As.reverse ++ .ref a :: st) (S, D) := by
  intro H locs ls I hl T0 hT0 X0
  obtain ⟨C, T, ty, h1, hcls, hcw, hw1, hw2, hw3⟩ := hc
  have hz := I.size hT0 X0
  have hts := lts X
  subst hcls
  have cw := cwV (R := room_1) (s := s) (args := #[Value.ref b]) (own := "KnowledgeRoomLaw") (index := idx) (C := d'.1.cls) (y := d'.1) (rm := xrm (h', 0, 0)) n hts (xgood (ws := wsV "KnowledgeRoomLaw" idx d'.1.cls d'.1 (xws d')) (fun w hw => by
    rcases List.mem_append.mp hw with h | h
    · simp only [List.mem_cons, List.not_mem_nil, or_false] at h
      rcases h with rfl | rfl | rfl | rfl
      · exact hw1
      · exact hw2
      · exact hw3
      · exact hcw.2.1
    · exact xws_in hcw w h)) rfl rfl rfl ⟨rfl, hcw.2.2.1⟩ (lhR hcw hB)
  have hrec := va_recv (q := (d'.1.cls, T, xnf ci)) X.2.1 I.1 h1.1 (xW_obj (ha.obj h1.2.2.2.2) h1.2.2.2.2)
  refine lcall (p := p) (l := l) (e := e) (B' := (h', 0, 0)) (Qc := xQi S q) (a := (Value.ref (G.1 + a) :: As.map (xtr G)).toArray) I hl ?_ (by rintro v M' ⟨rfl, rfl⟩; rfl) (by rintro v M' ⟨rfl, rfl⟩; exact kk) T0 hT0 X0
  refine va_runV (As := As.map (xtr G)) (b := G.1 + a) ⟨X.1.1, X.1.2.1, X.1.2.2.2.1, X.1.2.2.2.2.1, hts⟩ (hM l G) cw ⟨xblind G _ (S, D), hrec, lpre X I hz (.ref a :: As)⟩ rfl (by rw [List.length_map]; exact hn) hl.1 ?_ (xroom hst) hd ⟨hk1, hk2⟩
  simp [xtr]
theorem w_new {idx ci N : Nat} {C : String} {T : u_T} {ty : Nat → FieldType} (hC : xCB ci C T N ty) (hd : decode code pc = .ok (.new idx, 3)) (hw1 : Cond.classLink "KnowledgeRoomLaw" idx C ∈ xTG) (hw2 : Cond.instantiable C N ∈ xTG) (hw3 : Cond.initialized C ∈ xTG) (hdef : ∀ j, j < N → defaultValue (ty j) = (match xft ci j with | 0 => .int 0 | 1 => .long 0 | _ => .null)) (h1 : K.1 + 1 ≤ 600000) (h2 : K.2 + N ≤ 7302250) (X : lCx p s m meth c b L xs G) (kk : wEx p l e s m below meth c b G (K.1 + 1, K.2 + N) (pc + 3) lv (.ref M.1.1.length :: st) (xnew M ci N)) : wEx p l e s m below meth c b G K pc lv st M := by
  intro H locs ls I hl
  have hts := lts X
  refine va_new (ci := ci) (fs := (List.range N).map (xfv G (xnew M ci N) M.1.1.length ci)) X.1.1 X.1.2.1 hts hC.2.1 ty hC.2.2.1 X.1.2.2.2.2.1 (hts _ hw1) (hts _ hw2) (hts _ hw3) X.2.1 I.1 I.2.1 I.2.2.1 (fun _ h => h) hC.1 (fun j hj => ?_) h1 h2 hd (fun q H1 hP hD hS => ?_)
  · rw [hdef j hj]
    simp [vp_V, hj, xfv, xnew, xnw_eq]
    split <;> simp_all [va_rf]
  · intro T0 hT0 X0
    have hq : q = G.1 + M.1.1.length := by
      have hl : (xW G M).length = M.1.1.length := by simp [xW]
      have hq : (xW G M ++ [(q, .inr (ci, (List.range N).map (xfv G (xnew M ci N) M.1.1.length ci)))])[M.1.1.length]? = some (q, .inr (ci, (List.range N).map (xfv G (xnew M ci N) M.1.1.length ci))) := by rw [List.getElem?_append_right (by omega), hl]; simp
      have g1 : q < H1.size := (hP _ _ hq).lt
      have g2 := X0.heapSize
      rw [hT0] at g2
      have g3 := I.2.2.2.1
      have g4 : s.heap.size ≤ q := hD.2 _ _ hq
      have g5 := X.2.2.2.2.1
      rcases Nat.lt_or_ge q (G.1 + M.1.1.length) with h | h
      · have h6 : q - G.1 < M.1.1.length := by omega
        have h7 : (xW G M ++ [(q, .inr (ci, (List.range N).map (xfv G (xnew M ci N) M.1.1.length ci)))])[q - G.1]? = some (xent G M (q - G.1) M.1.1[q - G.1]) := by
          rw [List.getElem?_append_left (by omega)]
          exact xW_at (List.getElem?_eq_getElem h6)
        have h8 := hD.1 _ _ _ _ h7 hq (show G.1 + (q - G.1) = q by omega)
        omega
      · omega
    subst hq
    have hw : xW G (xnew M ci N) = xW G M ++ [(G.1 + M.1.1.length, .inr (ci, (List.range N).map (xfv G (xnew M ci N) M.1.1.length ci)))] := by
      rw [xW_new]; simp [xent, hC.2.2.2.2]
    rw [← hw] at hP hD
    exact kk H1 locs ls ⟨hP, hD, hS, by have := I.2.2.2.1; simp [xnew]; omega, I.2.2.2.2⟩ hl T0 hT0 X0
theorem w_callI {d' : xMd} {B' : Nat × Nat × Nat} {Qc : Option Value → xMem → Prop} {idx n a : Nat} {As : List Value} (hcw : xcw d' n) (hret : d'.2.2.2 = none) (hnm : d'.1.name = "<init>") (hd : decode code pc = .ok (.invokespecial idx, 3)) (hw1 : Cond.methodLink "KnowledgeRoomLaw" idx d'.1 ∈ xTG) (hw2 : Cond.instanceMethod d'.1 ∈ xTG) (hn : As.length = n) (hst : (st.map fun v => v.category).sum ≤ 8) (hB : B'.1 + 1 ≤ 2048) (hc1 : K.1 + B'.2.1 ≤ 600000) (hc2 : K.2 + B'.2.2 ≤ 7302250)
    (hM : xSp d' B' (.ref a :: As) M Qc) (hlen : ∀ v M', Qc v M' → M'.1.1.length = M.1.1.length + B'.2.1) (X : lCx p s m meth c b L xs G)
    (kk : ∀ v M', Qc v M' → wEx p l e s m below meth c b G (K.1 + B'.2.1, K.2 + B'.2.2) (pc + 3) lv (v.toList ++ st) M') : wEx p l e s m below meth c b G K pc lv (As.reverse ++ .ref a :: st) M := by
  intro H locs ls I hl T0 hT0 X0
  have hz := I.size hT0 X0
  have hts := lts X
  have cb := callB_of (R := room_1) (s := s) (args := #[Value.ref b]) (own := "KnowledgeRoomLaw") (index := idx) (y := d'.1) (rm := xrm B') (ret := none) n hts (xgood (xws_in hcw)) (by rw [xws, hret]) rfl rfl (hts _ hcw.2.1) (hts _ hw1) hcw.2.2.1 (lhR hcw hB)
  refine lcall (p := p) (l := l) (e := e) (a := (Value.ref (G.1 + a) :: As.map (xtr G)).toArray) I hl ?_ hlen kk T0 hT0 X0
  refine va_runI (As := As.map (xtr G)) (b := G.1 + a) ⟨X.1.1, X.1.2.1, X.1.2.2.2.1, X.1.2.2.2.2.1, hts⟩ (hM l G) ⟨cb, hnm, hts _ hw2⟩ ⟨xblind G _ M, lpre X I hz (.ref a :: As)⟩ rfl (by rw [List.length_map]; exact hn) hl.1 ?_ (xroom hst) hd ⟨hc1, hc2⟩
  simp [xtr]
/-- the same memory, said otherwise -/
theorem w_mem {M' : xMem} (hs : M'.1.1 = M.1.1) (hw : xW G M' = xW G M) (k : wEx p l e s m below meth c b G K pc lv st M') : wEx p l e s m below meth c b G K pc lv st M := fun H locs ls I hl => k H locs ls ⟨by rw [hw]; exact I.1, by rw [hw]; exact I.2.1, I.2.2.1, by rw [hs]; exact I.2.2.2.1, I.2.2.2.2⟩ hl
end lRules
/-- one step of the law: the answers of both, equal, and the data behind them -/
def lawStep (F P : Nat) (S : xSt) (xa ma : Nat) (k : Int32) (a1 a2 a3 : Int32) (D D2 : xDt) : Prop :=
  (k = 0 → ∃ (r : Int32) (D1 : xDt), f_X11_world F P S xa a1 D = some (r, D1) ∧ f_X12_world F P S ma a1 D1 = some (r, D2)) ∧
  (k = 1 → ∃ (r : Int32) (D1 : xDt), f_X11_tie F P S xa a1 a2 a3 D = some (r, D1) ∧ f_X12_tie F P S ma a1 a2 a3 D1 = some (r, D2)) ∧
  (k = 2 → ∃ (r : Int32) (D1 : xDt), f_X11_alone F P S xa a1 a2 D = some (r, D1) ∧ f_X12_alone F P S ma a1 a2 D1 = some (r, D2)) ∧
  (k = 3 → ∃ (r : Int32) (D1 : xDt), f_X11_atom F P S xa a1 a2 (if a3 = 0 then 0 else 1) D = some (r, D1) ∧ f_X12_atom F P S ma a1 a2 (if a3 = 0 then 0 else 1) D1 = some (r, D2)) ∧
  (k = 4 → ∃ (r : Int32) (D1 : xDt), f_X11_told F P S xa a1 a2 D = some (r, D1) ∧ f_X12_told F P S ma a1 a2 D1 = some (r, D2)) ∧
  (k = 5 → ∃ (r : Int32) (D1 : xDt), f_X11_type F P S xa a1 D = some (r, D1) ∧ f_X12_type F P S ma a1 D1 = some (r, D2)) ∧
  (k = 6 → ∃ (r : Int32) (D1 : xDt), f_X11_four F P S xa a1 D = some (r, D1) ∧ f_X12_four F P S ma a1 D1 = some (r, D2)) ∧
  (k = 7 → ∃ (r : Int32) (D1 : xDt), f_X11_formula F P S xa D = some (r, D1) ∧ f_X12_formula F P S ma D1 = some (r, D2)) ∧
  (k = 8 → ∃ (r : Int32) (D1 : xDt), f_X11_holds F P S xa a1 D = some (r, D1) ∧ f_X12_holds F P S ma a1 D1 = some (r, D2)) ∧
  (k = 9 → ∃ (r : Int32) (D1 : xDt), f_X11_worlds F P S xa D = some (r, D1) ∧ f_X12_worlds F P S ma D1 = some (r, D2)) ∧
  (k = 10 → ∃ (r : Int32) (D1 : xDt), f_X11_tell F P S xa D = some (r, D1) ∧ f_X12_tell F P S ma D1 = some (r, D2)) ∧
  (k = 11 → ∃ (r : Int32) (D1 : xDt), f_X11_letter F P S xa a1 D = some (r, D1) ∧ f_X12_letter F P S ma a1 D1 = some (r, D2)) ∧
  (k = 12 → ∃ (r : Int32) (D1 : xDt), f_X11_say F P S xa D = some (r, D1) ∧ f_X12_say F P S ma D1 = some (r, D2)) ∧
  (k = 13 → ∃ (r : Int32) (D1 : xDt), f_X11_event F P S xa D = some (r, D1) ∧ f_X12_event F P S ma D1 = some (r, D2)) ∧
  (k = 14 → ∃ (r : Int32) (D1 : xDt), f_X11_tieEvents F P S xa a1 a2 a3 D = some (r, D1) ∧ f_X12_tieEvents F P S ma a1 a2 a3 D1 = some (r, D2)) ∧
  (k = 15 → ∃ (r : Int32) (D1 : xDt), f_X11_change F P S xa a1 a2 D = some (r, D1) ∧ f_X12_change F P S ma a1 a2 D1 = some (r, D2)) ∧
  (k = 16 → ∃ (r : Int32) (D1 : xDt), f_X11_noEvents F P S xa D = some (r, D1) ∧ f_X12_noEvents F P S ma D1 = some (r, D2)) ∧
  (k = 17 → ∃ (r : Int32) (D1 : xDt), f_X11_happen F P S xa D = some (r, D1) ∧ f_X12_happen F P S ma D1 = some (r, D2)) ∧
  (k = 18 → ∃ (r : Int32) (D1 : xDt), f_X11_back F P S xa D = some (r, D1) ∧ f_X12_back F P S ma D1 = some (r, D2)) ∧
  (k = 19 → ∃ (r : Int32) (D1 : xDt), f_X11_contract F P S xa D = some (r, D1) ∧ f_X12_contract F P S ma D1 = some (r, D2)) ∧
  (k = 20 → ∃ (r : Int32) (D1 : xDt), f_X11_differ F P S xa a1 a2 D = some (r, D1) ∧ f_X12_differ F P S ma a1 a2 D1 = some (r, D2)) ∧
  (k = 21 → ∃ (r : Int32) (D1 : xDt), f_X11_reduce F P S xa D = some (r, D1) ∧ f_X12_reduce F P S ma D1 = some (r, D2)) ∧
  (k = 22 → ∃ (r : Int32) (D1 : xDt), f_X11_decide F P S xa a1 D = some (r, D1) ∧ f_X12_decide F P S ma a1 D1 = some (r, D2)) ∧
  (k = 23 → ∃ (r : Int32) (D1 : xDt), f_X11_count F P S xa a1 D = some (r, D1) ∧ f_X12_count F P S ma a1 D1 = some (r, D2)) ∧
  (¬ k = 0 → ¬ k = 1 → ¬ k = 2 → ¬ k = 3 → ¬ k = 4 → ¬ k = 5 → ¬ k = 6 → ¬ k = 7 → ¬ k = 8 → ¬ k = 9 → ¬ k = 10 → ¬ k = 11 → ¬ k = 12 → ¬ k = 13 → ¬ k = 14 → ¬ k = 15 → ¬ k = 16 → ¬ k = 17 → ¬ k = 18 → ¬ k = 19 → ¬ k = 20 → ¬ k = 21 → ¬ k = 22 → ¬ k = 23 → D2 = D)
set_option maxHeartbeats 8000000 in
theorem law_loop {p : Program} {l : Launch} {e : Env} {s : State} {m : MethodId} {below : List Frame} {meth : Method} {c : Code} {b L : Nat} {xs : Nat → Int32} {G : xG} {K : Nat × Nat} {F P : Nat} {S : xSt} {xa ma : Nat} (hP : P ≤ 2010) (hL : L ≤ 2048) (X : lCx p s m meth c b L xs G) (hS : xWF S) (hxa : xK S xa 11) (hma : xK S ma 12) (hk1 : K.1 ≤ 600000) (hk2 : K.2 ≤ 7302250) (Iv : xDt → Prop) (hm : ∀ D, Iv D → ∀ k a1 a2 a3 : Int32, ∃ D2, lawStep F P S xa ma k a1 a2 a3 D D2 ∧ Iv D2) :
    ∀ (n i : Nat) (D : xDt), Iv D → i ≤ L + 3 → L + 4 ≤ i + n → wEx p l e s m below meth c b G K 18 [(0, .float 9), (1, .ref xa), (2, .ref ma), (3, .int (nI i))] [] (S, D) := by
  intro n
  induction n with
  | zero => intro i D hD h1 h2; omega
  | succ n ih =>
    intro i D hD h1 h2
    refine w_iload_n dL_law_18 3 rfl X ?_
    refine w_sload_n dL_law_19 0 rfl X ?_
    refine w_slen dL_law_20 X ?_
    refine w_iconst 4 dL_law_21 (by decide) X ?_
    refine w_isub dL_law_22 X ?_
    have e4 : (Int32.ofNat L - 4).toInt = (L : Int) - 4 := by
      have : (Int32.ofNat L).toInt = L := nI_toInt (by omega)
      rw [Int32.toInt_sub, this]
      have : (4 : Int32).toInt = 4 := by decide
      rw [this]
      apply Int.bmod_eq_of_le <;> omega
    have ei : (nI i).toInt = i := nI_toInt (by omega)
    refine w_icmp_gt 718 dL_law_23 (by decide) X (fun _ => ?_) (fun c0 => ?_)
    · refine w_iconst 1 dL_law_718 (by decide) X ?_
      exact w_ret X hk1 hk2 dL_law_719
    have hi4 : i + 4 ≤ L := by
      rw [Int32.lt_iff_toInt_lt, e4, ei] at c0
      omega
    have hc : ∀ j : Nat, j < 2 ^ 31 → (nI j).toNatClampNeg = j := fun j hj => nI_clamp hj
    have en : ∀ j : Nat, nI i + nI j = nI (i + j) := fun j => (Int32.ofNat_add i j).symm
    have hi0 : xin (nI i) L = true := xnI_in (by omega) (by omega)
    have hi1 : xin (nI i + 1) L = true := by rw [show (1 : Int32) = nI 1 from rfl, en]; exact xnI_in (by omega) (by omega)
    have hi2 : xin (nI i + 2) L = true := by rw [show (2 : Int32) = nI 2 from rfl, en]; exact xnI_in (by omega) (by omega)
    have hi3 : xin (nI i + 3) L = true := by rw [show (3 : Int32) = nI 3 from rfl, en]; exact xnI_in (by omega) (by omega)
    refine w_sload_n dL_law_26 0 rfl X ?_
    refine w_iload_n dL_law_27 3 rfl X ?_
    refine w_sld hi0 dL_law_28 X ?_
    refine w_bipush 31 dL_law_29 (by decide) X ?_
    refine w_iand dL_law_31 X ?_
    obtain ⟨kk, hkk⟩ : ∃ z, xs (nI i).toNatClampNeg &&& 31 = z := ⟨_, rfl⟩
    obtain ⟨a1, hv1⟩ : ∃ z, xs (nI i + 1).toNatClampNeg = z := ⟨_, rfl⟩
    obtain ⟨a2, hv2⟩ : ∃ z, xs (nI i + 2).toNatClampNeg = z := ⟨_, rfl⟩
    obtain ⟨a3, hv3⟩ : ∃ z, xs (nI i + 3).toNatClampNeg = z := ⟨_, rfl⟩
    rw [hkk]
    obtain ⟨D2, hst, hD2⟩ := hm D hD kk a1 a2 a3
    have back : wEx p l e s m below meth c b G K 712 [(0, .float 9), (1, .ref xa), (2, .ref ma), (3, .int (nI i))] [] (S, D2) := by
      refine w_iinc (nI (i + 4)) [(3, .int (nI (i + 4))), (0, .float 9), (1, .ref xa), (2, .ref ma)] dL_law_712 3 rfl (by rw [← en 4]; rfl) (by decide) rfl X ?_
      refine w_goto 18 dL_law_715 (by decide) X ?_
      refine w_lv [1, 2, 3, 0] rfl ?_
      exact ih (i + 4) D2 hD2 (by omega) (by omega)
    unfold lawStep at hst
    obtain ⟨s0, s1, s2, s3, s4, s5, s6, s7, s8, s9, s10, s11, s12, s13, s14, s15, s16, s17, s18, s19, s20, s21, s22, s23, sd⟩ := hst
    by_cases c0 : kk = 0
    · obtain ⟨r, D1, e1, e2⟩ := s0 c0
      refine w_tsIn 0 144 c0 dL_law_32 (by decide) (by decide) rfl (by decide) X ?_
      refine w_aload_n dL_law_144 1 rfl X ?_
      refine w_sload_n dL_law_145 0 rfl X ?_
      refine w_iload_n dL_law_146 3 rfl X ?_
      refine w_iconst 1 dL_law_147 (by decide) X ?_
      refine w_iadd dL_law_148 X ?_
      refine w_sld hi1 dL_law_149 X ?_
      rw [hv1]
      refine w_callV (As := [.int a1]) (h' := 2) cv_RL_13 dL_law_150 hxa rfl (Nat.le_of_ble_eq_true rfl) (by omega) hk1 hk2 (S_X11_world hS hxa e1) X ?_
      refine w_aload_n dL_law_153 2 rfl X ?_
      refine w_sload_n dL_law_154 0 rfl X ?_
      refine w_iload_n dL_law_155 3 rfl X ?_
      refine w_iconst 1 dL_law_156 (by decide) X ?_
      refine w_iadd dL_law_157 X ?_
      refine w_sld hi1 dL_law_158 X ?_
      rw [hv1]
      refine w_callV (As := [.int a1]) (h' := 1) cv_RL_17 dL_law_159 hma rfl (Nat.le_of_ble_eq_true rfl) (by omega) hk1 hk2 (S_X12_world hS hma e2) X ?_
      refine w_icmp_eq 712 dL_law_162 (by decide) X (fun _ => ?_) (fun c0 => absurd rfl c0)
      exact back
    by_cases c1 : kk = 1
    · obtain ⟨r, D1, e1, e2⟩ := s1 c1
      refine w_tsIn 1 167 c1 dL_law_32 (by decide) (by decide) rfl (by decide) X ?_
      refine w_aload_n dL_law_167 1 rfl X ?_
      refine w_sload_n dL_law_168 0 rfl X ?_
      refine w_iload_n dL_law_169 3 rfl X ?_
      refine w_iconst 1 dL_law_170 (by decide) X ?_
      refine w_iadd dL_law_171 X ?_
      refine w_sld hi1 dL_law_172 X ?_
      rw [hv1]
      refine w_sload_n dL_law_173 0 rfl X ?_
      refine w_iload_n dL_law_174 3 rfl X ?_
      refine w_iconst 2 dL_law_175 (by decide) X ?_
      refine w_iadd dL_law_176 X ?_
      refine w_sld hi2 dL_law_177 X ?_
      rw [hv2]
      refine w_sload_n dL_law_178 0 rfl X ?_
      refine w_iload_n dL_law_179 3 rfl X ?_
      refine w_iconst 3 dL_law_180 (by decide) X ?_
      refine w_iadd dL_law_181 X ?_
      refine w_sld hi3 dL_law_182 X ?_
      rw [hv3]
      refine w_callV (As := [.int a1, .int a2, .int a3]) (h' := 2) cv_RL_18 dL_law_183 hxa rfl (Nat.le_of_ble_eq_true rfl) (by omega) hk1 hk2 (S_X11_tie hS hxa e1) X ?_
      refine w_aload_n dL_law_186 2 rfl X ?_
      refine w_sload_n dL_law_187 0 rfl X ?_
      refine w_iload_n dL_law_188 3 rfl X ?_
      refine w_iconst 1 dL_law_189 (by decide) X ?_
      refine w_iadd dL_law_190 X ?_
      refine w_sld hi1 dL_law_191 X ?_
      rw [hv1]
      refine w_sload_n dL_law_192 0 rfl X ?_
      refine w_iload_n dL_law_193 3 rfl X ?_
      refine w_iconst 2 dL_law_194 (by decide) X ?_
      refine w_iadd dL_law_195 X ?_
      refine w_sld hi2 dL_law_196 X ?_
      rw [hv2]
      refine w_sload_n dL_law_197 0 rfl X ?_
      refine w_iload_n dL_law_198 3 rfl X ?_
      refine w_iconst 3 dL_law_199 (by decide) X ?_
      refine w_iadd dL_law_200 X ?_
      refine w_sld hi3 dL_law_201 X ?_
      rw [hv3]
      refine w_callV (As := [.int a1, .int a2, .int a3]) (h' := 2) cv_RL_22 dL_law_202 hma rfl (Nat.le_of_ble_eq_true rfl) (by omega) hk1 hk2 (S_X12_tie hS hma e2) X ?_
      refine w_icmp_eq 712 dL_law_205 (by decide) X (fun _ => ?_) (fun c0 => absurd rfl c0)
      exact back
    by_cases c2 : kk = 2
    · obtain ⟨r, D1, e1, e2⟩ := s2 c2
      refine w_tsIn 2 210 c2 dL_law_32 (by decide) (by decide) rfl (by decide) X ?_
      refine w_aload_n dL_law_210 1 rfl X ?_
      refine w_sload_n dL_law_211 0 rfl X ?_
      refine w_iload_n dL_law_212 3 rfl X ?_
      refine w_iconst 1 dL_law_213 (by decide) X ?_
      refine w_iadd dL_law_214 X ?_
      refine w_sld hi1 dL_law_215 X ?_
      rw [hv1]
      refine w_sload_n dL_law_216 0 rfl X ?_
      refine w_iload_n dL_law_217 3 rfl X ?_
      refine w_iconst 2 dL_law_218 (by decide) X ?_
      refine w_iadd dL_law_219 X ?_
      refine w_sld hi2 dL_law_220 X ?_
      rw [hv2]
      refine w_callV (As := [.int a1, .int a2]) (h' := 2) cv_RL_23 dL_law_221 hxa rfl (Nat.le_of_ble_eq_true rfl) (by omega) hk1 hk2 (S_X11_alone hS hxa e1) X ?_
      refine w_aload_n dL_law_224 2 rfl X ?_
      refine w_sload_n dL_law_225 0 rfl X ?_
      refine w_iload_n dL_law_226 3 rfl X ?_
      refine w_iconst 1 dL_law_227 (by decide) X ?_
      refine w_iadd dL_law_228 X ?_
      refine w_sld hi1 dL_law_229 X ?_
      rw [hv1]
      refine w_sload_n dL_law_230 0 rfl X ?_
      refine w_iload_n dL_law_231 3 rfl X ?_
      refine w_iconst 2 dL_law_232 (by decide) X ?_
      refine w_iadd dL_law_233 X ?_
      refine w_sld hi2 dL_law_234 X ?_
      rw [hv2]
      refine w_callV (As := [.int a1, .int a2]) (h' := 2) cv_RL_27 dL_law_235 hma rfl (Nat.le_of_ble_eq_true rfl) (by omega) hk1 hk2 (S_X12_alone hS hma e2) X ?_
      refine w_icmp_eq 712 dL_law_238 (by decide) X (fun _ => ?_) (fun c0 => absurd rfl c0)
      exact back
    by_cases c3 : kk = 3
    · obtain ⟨r, D1, e1, e2⟩ := s3 c3
      refine w_tsIn 3 243 c3 dL_law_32 (by decide) (by decide) rfl (by decide) X ?_
      refine w_aload_n dL_law_243 1 rfl X ?_
      refine w_sload_n dL_law_244 0 rfl X ?_
      refine w_iload_n dL_law_245 3 rfl X ?_
      refine w_iconst 1 dL_law_246 (by decide) X ?_
      refine w_iadd dL_law_247 X ?_
      refine w_sld hi1 dL_law_248 X ?_
      rw [hv1]
      refine w_sload_n dL_law_249 0 rfl X ?_
      refine w_iload_n dL_law_250 3 rfl X ?_
      refine w_iconst 2 dL_law_251 (by decide) X ?_
      refine w_iadd dL_law_252 X ?_
      refine w_sld hi2 dL_law_253 X ?_
      rw [hv2]
      refine w_sload_n dL_law_254 0 rfl X ?_
      refine w_iload_n dL_law_255 3 rfl X ?_
      refine w_iconst 3 dL_law_256 (by decide) X ?_
      refine w_iadd dL_law_257 X ?_
      refine w_sld hi3 dL_law_258 X ?_
      rw [hv3]
      refine w_if_eq 266 dL_law_259 (by decide) X (fun c0 => ?_) (fun c0 => ?_)
      · refine w_iconst 0 dL_law_266 (by decide) X ?_
        simp only [c0, if_true] at e1 e2
        refine w_callV (As := [.int a1, .int a2, .int 0]) (h' := 1) cv_RL_28 dL_law_267 hxa rfl (Nat.le_of_ble_eq_true rfl) (by omega) hk1 hk2 (S_X11_atom hS hxa e1) X ?_
        refine w_aload_n dL_law_270 2 rfl X ?_
        refine w_sload_n dL_law_271 0 rfl X ?_
        refine w_iload_n dL_law_272 3 rfl X ?_
        refine w_iconst 1 dL_law_273 (by decide) X ?_
        refine w_iadd dL_law_274 X ?_
        refine w_sld hi1 dL_law_275 X ?_
        rw [hv1]
        refine w_sload_n dL_law_276 0 rfl X ?_
        refine w_iload_n dL_law_277 3 rfl X ?_
        refine w_iconst 2 dL_law_278 (by decide) X ?_
        refine w_iadd dL_law_279 X ?_
        refine w_sld hi2 dL_law_280 X ?_
        rw [hv2]
        refine w_sload_n dL_law_281 0 rfl X ?_
        refine w_iload_n dL_law_282 3 rfl X ?_
        refine w_iconst 3 dL_law_283 (by decide) X ?_
        refine w_iadd dL_law_284 X ?_
        refine w_sld hi3 dL_law_285 X ?_
        rw [hv3]
        refine w_if_eq 293 dL_law_286 (by decide) X (fun c00 => ?_) (fun c00 => ?_)
        · refine w_iconst 0 dL_law_293 (by decide) X ?_
          refine w_callV (As := [.int a1, .int a2, .int 0]) (h' := 2) cv_RL_32 dL_law_294 hma rfl (Nat.le_of_ble_eq_true rfl) (by omega) hk1 hk2 (S_X12_atom hS hma e2) X ?_
          refine w_icmp_eq 712 dL_law_297 (by decide) X (fun _ => ?_) (fun c0 => absurd rfl c0)
          exact back
        · exact absurd c0 c00
      · refine w_iconst 1 dL_law_262 (by decide) X ?_
        refine w_goto 267 dL_law_263 (by decide) X ?_
        simp only [c0, if_false] at e1 e2
        refine w_callV (As := [.int a1, .int a2, .int 1]) (h' := 1) cv_RL_28 dL_law_267 hxa rfl (Nat.le_of_ble_eq_true rfl) (by omega) hk1 hk2 (S_X11_atom hS hxa e1) X ?_
        refine w_aload_n dL_law_270 2 rfl X ?_
        refine w_sload_n dL_law_271 0 rfl X ?_
        refine w_iload_n dL_law_272 3 rfl X ?_
        refine w_iconst 1 dL_law_273 (by decide) X ?_
        refine w_iadd dL_law_274 X ?_
        refine w_sld hi1 dL_law_275 X ?_
        rw [hv1]
        refine w_sload_n dL_law_276 0 rfl X ?_
        refine w_iload_n dL_law_277 3 rfl X ?_
        refine w_iconst 2 dL_law_278 (by decide) X ?_
        refine w_iadd dL_law_279 X ?_
        refine w_sld hi2 dL_law_280 X ?_
        rw [hv2]
        refine w_sload_n dL_law_281 0 rfl X ?_
        refine w_iload_n dL_law_282 3 rfl X ?_
        refine w_iconst 3 dL_law_283 (by decide) X ?_
        refine w_iadd dL_law_284 X ?_
        refine w_sld hi3 dL_law_285 X ?_
        rw [hv3]
        refine w_if_eq 293 dL_law_286 (by decide) X (fun c00 => ?_) (fun c00 => ?_)
        · exact absurd c00 c0
        · refine w_iconst 1 dL_law_289 (by decide) X ?_
          refine w_goto 294 dL_law_290 (by decide) X ?_
          refine w_callV (As := [.int a1, .int a2, .int 1]) (h' := 2) cv_RL_32 dL_law_294 hma rfl (Nat.le_of_ble_eq_true rfl) (by omega) hk1 hk2 (S_X12_atom hS hma e2) X ?_
          refine w_icmp_eq 712 dL_law_297 (by decide) X (fun _ => ?_) (fun c0 => absurd rfl c0)
          exact back
    by_cases c4 : kk = 4
    · obtain ⟨r, D1, e1, e2⟩ := s4 c4
      refine w_tsIn 4 302 c4 dL_law_32 (by decide) (by decide) rfl (by decide) X ?_
      refine w_aload_n dL_law_302 1 rfl X ?_
      refine w_sload_n dL_law_303 0 rfl X ?_
      refine w_iload_n dL_law_304 3 rfl X ?_
      refine w_iconst 1 dL_law_305 (by decide) X ?_
      refine w_iadd dL_law_306 X ?_
      refine w_sld hi1 dL_law_307 X ?_
      rw [hv1]
      refine w_sload_n dL_law_308 0 rfl X ?_
      refine w_iload_n dL_law_309 3 rfl X ?_
      refine w_iconst 2 dL_law_310 (by decide) X ?_
      refine w_iadd dL_law_311 X ?_
      refine w_sld hi2 dL_law_312 X ?_
      rw [hv2]
      refine w_callV (As := [.int a1, .int a2]) (h' := 2) cv_RL_33 dL_law_313 hxa rfl (Nat.le_of_ble_eq_true rfl) (by omega) hk1 hk2 (S_X11_told hS hxa e1) X ?_
      refine w_aload_n dL_law_316 2 rfl X ?_
      refine w_sload_n dL_law_317 0 rfl X ?_
      refine w_iload_n dL_law_318 3 rfl X ?_
      refine w_iconst 1 dL_law_319 (by decide) X ?_
      refine w_iadd dL_law_320 X ?_
      refine w_sld hi1 dL_law_321 X ?_
      rw [hv1]
      refine w_sload_n dL_law_322 0 rfl X ?_
      refine w_iload_n dL_law_323 3 rfl X ?_
      refine w_iconst 2 dL_law_324 (by decide) X ?_
      refine w_iadd dL_law_325 X ?_
      refine w_sld hi2 dL_law_326 X ?_
      rw [hv2]
      refine w_callV (As := [.int a1, .int a2]) (h' := 2) cv_RL_36 dL_law_327 hma rfl (Nat.le_of_ble_eq_true rfl) (by omega) hk1 hk2 (S_X12_told hS hma e2) X ?_
      refine w_icmp_eq 712 dL_law_330 (by decide) X (fun _ => ?_) (fun c0 => absurd rfl c0)
      exact back
    by_cases c5 : kk = 5
    · obtain ⟨r, D1, e1, e2⟩ := s5 c5
      refine w_tsIn 5 335 c5 dL_law_32 (by decide) (by decide) rfl (by decide) X ?_
      refine w_aload_n dL_law_335 1 rfl X ?_
      refine w_sload_n dL_law_336 0 rfl X ?_
      refine w_iload_n dL_law_337 3 rfl X ?_
      refine w_iconst 1 dL_law_338 (by decide) X ?_
      refine w_iadd dL_law_339 X ?_
      refine w_sld hi1 dL_law_340 X ?_
      rw [hv1]
      refine w_callV (As := [.int a1]) (h' := 2) cv_RL_37 dL_law_341 hxa rfl (Nat.le_of_ble_eq_true rfl) (by omega) hk1 hk2 (S_X11_type hS hxa e1) X ?_
      refine w_aload_n dL_law_344 2 rfl X ?_
      refine w_sload_n dL_law_345 0 rfl X ?_
      refine w_iload_n dL_law_346 3 rfl X ?_
      refine w_iconst 1 dL_law_347 (by decide) X ?_
      refine w_iadd dL_law_348 X ?_
      refine w_sld hi1 dL_law_349 X ?_
      rw [hv1]
      refine w_callV (As := [.int a1]) (h' := 1) cv_RL_40 dL_law_350 hma rfl (Nat.le_of_ble_eq_true rfl) (by omega) hk1 hk2 (S_X12_type hS hma e2) X ?_
      refine w_icmp_eq 712 dL_law_353 (by decide) X (fun _ => ?_) (fun c0 => absurd rfl c0)
      exact back
    by_cases c6 : kk = 6
    · obtain ⟨r, D1, e1, e2⟩ := s6 c6
      refine w_tsIn 6 358 c6 dL_law_32 (by decide) (by decide) rfl (by decide) X ?_
      refine w_aload_n dL_law_358 1 rfl X ?_
      refine w_sload_n dL_law_359 0 rfl X ?_
      refine w_iload_n dL_law_360 3 rfl X ?_
      refine w_iconst 1 dL_law_361 (by decide) X ?_
      refine w_iadd dL_law_362 X ?_
      refine w_sld hi1 dL_law_363 X ?_
      rw [hv1]
      refine w_callV (As := [.int a1]) (h' := 3) cv_RL_41 dL_law_364 hxa rfl (Nat.le_of_ble_eq_true rfl) (by omega) hk1 hk2 (S_X11_four hS hxa e1) X ?_
      refine w_aload_n dL_law_367 2 rfl X ?_
      refine w_sload_n dL_law_368 0 rfl X ?_
      refine w_iload_n dL_law_369 3 rfl X ?_
      refine w_iconst 1 dL_law_370 (by decide) X ?_
      refine w_iadd dL_law_371 X ?_
      refine w_sld hi1 dL_law_372 X ?_
      rw [hv1]
      refine w_callV (As := [.int a1]) (h' := 1) cv_RL_44 dL_law_373 hma rfl (Nat.le_of_ble_eq_true rfl) (by omega) hk1 hk2 (S_X12_four hS hma e2) X ?_
      refine w_icmp_eq 712 dL_law_376 (by decide) X (fun _ => ?_) (fun c0 => absurd rfl c0)
      exact back
    by_cases c7 : kk = 7
    · obtain ⟨r, D1, e1, e2⟩ := s7 c7
      refine w_tsIn 7 381 c7 dL_law_32 (by decide) (by decide) rfl (by decide) X ?_
      refine w_aload_n dL_law_381 1 rfl X ?_
      refine w_callV (As := []) (h' := 6) cv_RL_45 dL_law_382 hxa rfl (Nat.le_of_ble_eq_true rfl) (by omega) hk1 hk2 (S_X11_formula hS hxa e1) X ?_
      refine w_aload_n dL_law_385 2 rfl X ?_
      refine w_callV (As := []) (h' := (P + 3)) cv_RL_49 dL_law_386 hma rfl (Nat.le_of_ble_eq_true rfl) (by omega) hk1 hk2 (S_X12_formula hS hma e2) X ?_
      refine w_icmp_eq 712 dL_law_389 (by decide) X (fun _ => ?_) (fun c0 => absurd rfl c0)
      exact back
    by_cases c8 : kk = 8
    · obtain ⟨r, D1, e1, e2⟩ := s8 c8
      refine w_tsIn 8 394 c8 dL_law_32 (by decide) (by decide) rfl (by decide) X ?_
      refine w_aload_n dL_law_394 1 rfl X ?_
      refine w_sload_n dL_law_395 0 rfl X ?_
      refine w_iload_n dL_law_396 3 rfl X ?_
      refine w_iconst 1 dL_law_397 (by decide) X ?_
      refine w_iadd dL_law_398 X ?_
      refine w_sld hi1 dL_law_399 X ?_
      rw [hv1]
      refine w_callV (As := [.int a1]) (h' := 6) cv_RL_50 dL_law_400 hxa rfl (Nat.le_of_ble_eq_true rfl) (by omega) hk1 hk2 (S_X11_holds hS hxa e1) X ?_
      refine w_aload_n dL_law_403 2 rfl X ?_
      refine w_sload_n dL_law_404 0 rfl X ?_
      refine w_iload_n dL_law_405 3 rfl X ?_
      refine w_iconst 1 dL_law_406 (by decide) X ?_
      refine w_iadd dL_law_407 X ?_
      refine w_sld hi1 dL_law_408 X ?_
      rw [hv1]
      refine w_callV (As := [.int a1]) (h' := (P + 5)) cv_RL_53 dL_law_409 hma rfl (Nat.le_of_ble_eq_true rfl) (by omega) hk1 hk2 (S_X12_holds hS hma e2) X ?_
      refine w_icmp_eq 712 dL_law_412 (by decide) X (fun _ => ?_) (fun c0 => absurd rfl c0)
      exact back
    by_cases c9 : kk = 9
    · obtain ⟨r, D1, e1, e2⟩ := s9 c9
      refine w_tsIn 9 417 c9 dL_law_32 (by decide) (by decide) rfl (by decide) X ?_
      refine w_aload_n dL_law_417 1 rfl X ?_
      refine w_callV (As := []) (h' := 6) cv_RL_54 dL_law_418 hxa rfl (Nat.le_of_ble_eq_true rfl) (by omega) hk1 hk2 (S_X11_worlds hS hxa e1) X ?_
      refine w_aload_n dL_law_421 2 rfl X ?_
      refine w_callV (As := []) (h' := (P + 5)) cv_RL_57 dL_law_422 hma rfl (Nat.le_of_ble_eq_true rfl) (by omega) hk1 hk2 (S_X12_worlds hS hma e2) X ?_
      refine w_icmp_eq 712 dL_law_425 (by decide) X (fun _ => ?_) (fun c0 => absurd rfl c0)
      exact back
    by_cases c10 : kk = 10
    · obtain ⟨r, D1, e1, e2⟩ := s10 c10
      refine w_tsIn 10 430 c10 dL_law_32 (by decide) (by decide) rfl (by decide) X ?_
      refine w_aload_n dL_law_430 1 rfl X ?_
      refine w_callV (As := []) (h' := 4) cv_RL_58 dL_law_431 hxa rfl (Nat.le_of_ble_eq_true rfl) (by omega) hk1 hk2 (S_X11_tell hS hxa e1) X ?_
      refine w_aload_n dL_law_434 2 rfl X ?_
      refine w_callV (As := []) (h' := (P + 5)) cv_RL_61 dL_law_435 hma rfl (Nat.le_of_ble_eq_true rfl) (by omega) hk1 hk2 (S_X12_tell hS hma e2) X ?_
      refine w_icmp_eq 712 dL_law_438 (by decide) X (fun _ => ?_) (fun c0 => absurd rfl c0)
      exact back
    by_cases c11 : kk = 11
    · obtain ⟨r, D1, e1, e2⟩ := s11 c11
      refine w_tsIn 11 443 c11 dL_law_32 (by decide) (by decide) rfl (by decide) X ?_
      refine w_aload_n dL_law_443 1 rfl X ?_
      refine w_sload_n dL_law_444 0 rfl X ?_
      refine w_iload_n dL_law_445 3 rfl X ?_
      refine w_iconst 1 dL_law_446 (by decide) X ?_
      refine w_iadd dL_law_447 X ?_
      refine w_sld hi1 dL_law_448 X ?_
      rw [hv1]
      refine w_callV (As := [.int a1]) (h' := 0) cv_RL_62 dL_law_449 hxa rfl (Nat.le_of_ble_eq_true rfl) (by omega) hk1 hk2 (S_X11_letter hS hxa e1) X ?_
      refine w_aload_n dL_law_452 2 rfl X ?_
      refine w_sload_n dL_law_453 0 rfl X ?_
      refine w_iload_n dL_law_454 3 rfl X ?_
      refine w_iconst 1 dL_law_455 (by decide) X ?_
      refine w_iadd dL_law_456 X ?_
      refine w_sld hi1 dL_law_457 X ?_
      rw [hv1]
      refine w_callV (As := [.int a1]) (h' := 1) cv_RL_65 dL_law_458 hma rfl (Nat.le_of_ble_eq_true rfl) (by omega) hk1 hk2 (S_X12_letter hS hma e2) X ?_
      refine w_icmp_eq 712 dL_law_461 (by decide) X (fun _ => ?_) (fun c0 => absurd rfl c0)
      exact back
    by_cases c12 : kk = 12
    · obtain ⟨r, D1, e1, e2⟩ := s12 c12
      refine w_tsIn 12 466 c12 dL_law_32 (by decide) (by decide) rfl (by decide) X ?_
      refine w_aload_n dL_law_466 1 rfl X ?_
      refine w_callV (As := []) (h' := 6) cv_RL_66 dL_law_467 hxa rfl (Nat.le_of_ble_eq_true rfl) (by omega) hk1 hk2 (S_X11_say hS hxa e1) X ?_
      refine w_aload_n dL_law_470 2 rfl X ?_
      refine w_callV (As := []) (h' := (P + 5)) cv_RL_69 dL_law_471 hma rfl (Nat.le_of_ble_eq_true rfl) (by omega) hk1 hk2 (S_X12_say hS hma e2) X ?_
      refine w_icmp_eq 712 dL_law_474 (by decide) X (fun _ => ?_) (fun c0 => absurd rfl c0)
      exact back
    by_cases c13 : kk = 13
    · obtain ⟨r, D1, e1, e2⟩ := s13 c13
      refine w_tsIn 13 479 c13 dL_law_32 (by decide) (by decide) rfl (by decide) X ?_
      refine w_aload_n dL_law_479 1 rfl X ?_
      refine w_callV (As := []) (h' := 4) cv_RL_70 dL_law_480 hxa rfl (Nat.le_of_ble_eq_true rfl) (by omega) hk1 hk2 (S_X11_event hS hxa e1) X ?_
      refine w_aload_n dL_law_483 2 rfl X ?_
      refine w_callV (As := []) (h' := (P + 3)) cv_RL_73 dL_law_484 hma rfl (Nat.le_of_ble_eq_true rfl) (by omega) hk1 hk2 (S_X12_event hS hma e2) X ?_
      refine w_icmp_eq 712 dL_law_487 (by decide) X (fun _ => ?_) (fun c0 => absurd rfl c0)
      exact back
    by_cases c14 : kk = 14
    · obtain ⟨r, D1, e1, e2⟩ := s14 c14
      refine w_tsIn 14 492 c14 dL_law_32 (by decide) (by decide) rfl (by decide) X ?_
      refine w_aload_n dL_law_492 1 rfl X ?_
      refine w_sload_n dL_law_493 0 rfl X ?_
      refine w_iload_n dL_law_494 3 rfl X ?_
      refine w_iconst 1 dL_law_495 (by decide) X ?_
      refine w_iadd dL_law_496 X ?_
      refine w_sld hi1 dL_law_497 X ?_
      rw [hv1]
      refine w_sload_n dL_law_498 0 rfl X ?_
      refine w_iload_n dL_law_499 3 rfl X ?_
      refine w_iconst 2 dL_law_500 (by decide) X ?_
      refine w_iadd dL_law_501 X ?_
      refine w_sld hi2 dL_law_502 X ?_
      rw [hv2]
      refine w_sload_n dL_law_503 0 rfl X ?_
      refine w_iload_n dL_law_504 3 rfl X ?_
      refine w_iconst 3 dL_law_505 (by decide) X ?_
      refine w_iadd dL_law_506 X ?_
      refine w_sld hi3 dL_law_507 X ?_
      rw [hv3]
      refine w_callV (As := [.int a1, .int a2, .int a3]) (h' := 2) cv_RL_74 dL_law_508 hxa rfl (Nat.le_of_ble_eq_true rfl) (by omega) hk1 hk2 (S_X11_tieEvents hS hxa e1) X ?_
      refine w_aload_n dL_law_511 2 rfl X ?_
      refine w_sload_n dL_law_512 0 rfl X ?_
      refine w_iload_n dL_law_513 3 rfl X ?_
      refine w_iconst 1 dL_law_514 (by decide) X ?_
      refine w_iadd dL_law_515 X ?_
      refine w_sld hi1 dL_law_516 X ?_
      rw [hv1]
      refine w_sload_n dL_law_517 0 rfl X ?_
      refine w_iload_n dL_law_518 3 rfl X ?_
      refine w_iconst 2 dL_law_519 (by decide) X ?_
      refine w_iadd dL_law_520 X ?_
      refine w_sld hi2 dL_law_521 X ?_
      rw [hv2]
      refine w_sload_n dL_law_522 0 rfl X ?_
      refine w_iload_n dL_law_523 3 rfl X ?_
      refine w_iconst 3 dL_law_524 (by decide) X ?_
      refine w_iadd dL_law_525 X ?_
      refine w_sld hi3 dL_law_526 X ?_
      rw [hv3]
      refine w_callV (As := [.int a1, .int a2, .int a3]) (h' := 2) cv_RL_77 dL_law_527 hma rfl (Nat.le_of_ble_eq_true rfl) (by omega) hk1 hk2 (S_X12_tieEvents hS hma e2) X ?_
      refine w_icmp_eq 712 dL_law_530 (by decide) X (fun _ => ?_) (fun c0 => absurd rfl c0)
      exact back
    by_cases c15 : kk = 15
    · obtain ⟨r, D1, e1, e2⟩ := s15 c15
      refine w_tsIn 15 535 c15 dL_law_32 (by decide) (by decide) rfl (by decide) X ?_
      refine w_aload_n dL_law_535 1 rfl X ?_
      refine w_sload_n dL_law_536 0 rfl X ?_
      refine w_iload_n dL_law_537 3 rfl X ?_
      refine w_iconst 1 dL_law_538 (by decide) X ?_
      refine w_iadd dL_law_539 X ?_
      refine w_sld hi1 dL_law_540 X ?_
      rw [hv1]
      refine w_sload_n dL_law_541 0 rfl X ?_
      refine w_iload_n dL_law_542 3 rfl X ?_
      refine w_iconst 2 dL_law_543 (by decide) X ?_
      refine w_iadd dL_law_544 X ?_
      refine w_sld hi2 dL_law_545 X ?_
      rw [hv2]
      refine w_callV (As := [.int a1, .int a2]) (h' := 4) cv_RL_78 dL_law_546 hxa rfl (Nat.le_of_ble_eq_true rfl) (by omega) hk1 hk2 (S_X11_change hS hxa e1) X ?_
      refine w_aload_n dL_law_549 2 rfl X ?_
      refine w_sload_n dL_law_550 0 rfl X ?_
      refine w_iload_n dL_law_551 3 rfl X ?_
      refine w_iconst 1 dL_law_552 (by decide) X ?_
      refine w_iadd dL_law_553 X ?_
      refine w_sld hi1 dL_law_554 X ?_
      rw [hv1]
      refine w_sload_n dL_law_555 0 rfl X ?_
      refine w_iload_n dL_law_556 3 rfl X ?_
      refine w_iconst 2 dL_law_557 (by decide) X ?_
      refine w_iadd dL_law_558 X ?_
      refine w_sld hi2 dL_law_559 X ?_
      rw [hv2]
      refine w_callV (As := [.int a1, .int a2]) (h' := (P + 3)) cv_RL_81 dL_law_560 hma rfl (Nat.le_of_ble_eq_true rfl) (by omega) hk1 hk2 (S_X12_change hS hma e2) X ?_
      refine w_icmp_eq 712 dL_law_563 (by decide) X (fun _ => ?_) (fun c0 => absurd rfl c0)
      exact back
    by_cases c16 : kk = 16
    · obtain ⟨r, D1, e1, e2⟩ := s16 c16
      refine w_tsIn 16 568 c16 dL_law_32 (by decide) (by decide) rfl (by decide) X ?_
      refine w_aload_n dL_law_568 1 rfl X ?_
      refine w_callV (As := []) (h' := 0) cv_RL_82 dL_law_569 hxa rfl (Nat.le_of_ble_eq_true rfl) (by omega) hk1 hk2 (S_X11_noEvents hS hxa e1) X ?_
      refine w_aload_n dL_law_572 2 rfl X ?_
      refine w_callV (As := []) (h' := 0) cv_RL_85 dL_law_573 hma rfl (Nat.le_of_ble_eq_true rfl) (by omega) hk1 hk2 (S_X12_noEvents hS hma e2) X ?_
      refine w_icmp_eq 712 dL_law_576 (by decide) X (fun _ => ?_) (fun c0 => absurd rfl c0)
      exact back
    by_cases c17 : kk = 17
    · obtain ⟨r, D1, e1, e2⟩ := s17 c17
      refine w_tsIn 17 581 c17 dL_law_32 (by decide) (by decide) rfl (by decide) X ?_
      refine w_aload_n dL_law_581 1 rfl X ?_
      refine w_callV (As := []) (h' := 6) cv_RL_86 dL_law_582 hxa rfl (Nat.le_of_ble_eq_true rfl) (by omega) hk1 hk2 (S_X11_happen hS hxa e1) X ?_
      refine w_aload_n dL_law_585 2 rfl X ?_
      refine w_callV (As := []) (h' := (P + 5)) cv_RL_89 dL_law_586 hma rfl (Nat.le_of_ble_eq_true rfl) (by omega) hk1 hk2 (S_X12_happen hS hma e2) X ?_
      refine w_icmp_eq 712 dL_law_589 (by decide) X (fun _ => ?_) (fun c0 => absurd rfl c0)
      exact back
    by_cases c18 : kk = 18
    · obtain ⟨r, D1, e1, e2⟩ := s18 c18
      refine w_tsIn 18 594 c18 dL_law_32 (by decide) (by decide) rfl (by decide) X ?_
      refine w_aload_n dL_law_594 1 rfl X ?_
      refine w_callV (As := []) (h' := 3) cv_RL_90 dL_law_595 hxa rfl (Nat.le_of_ble_eq_true rfl) (by omega) hk1 hk2 (S_X11_back hS hxa e1) X ?_
      refine w_aload_n dL_law_598 2 rfl X ?_
      refine w_callV (As := []) (h' := 0) cv_RL_93 dL_law_599 hma rfl (Nat.le_of_ble_eq_true rfl) (by omega) hk1 hk2 (S_X12_back hS hma e2) X ?_
      refine w_icmp_eq 712 dL_law_602 (by decide) X (fun _ => ?_) (fun c0 => absurd rfl c0)
      exact back
    by_cases c19 : kk = 19
    · obtain ⟨r, D1, e1, e2⟩ := s19 c19
      refine w_tsIn 19 607 c19 dL_law_32 (by decide) (by decide) rfl (by decide) X ?_
      refine w_aload_n dL_law_607 1 rfl X ?_
      refine w_callV (As := []) (h' := 5) cv_RL_94 dL_law_608 hxa rfl (Nat.le_of_ble_eq_true rfl) (by omega) hk1 hk2 (S_X11_contract hS hxa e1) X ?_
      refine w_aload_n dL_law_611 2 rfl X ?_
      refine w_callV (As := []) (h' := 4) cv_RL_97 dL_law_612 hma rfl (Nat.le_of_ble_eq_true rfl) (by omega) hk1 hk2 (S_X12_contract hS hma e2) X ?_
      refine w_icmp_eq 712 dL_law_615 (by decide) X (fun _ => ?_) (fun c0 => absurd rfl c0)
      exact back
    by_cases c20 : kk = 20
    · obtain ⟨r, D1, e1, e2⟩ := s20 c20
      refine w_tsIn 20 620 c20 dL_law_32 (by decide) (by decide) rfl (by decide) X ?_
      refine w_aload_n dL_law_620 1 rfl X ?_
      refine w_sload_n dL_law_621 0 rfl X ?_
      refine w_iload_n dL_law_622 3 rfl X ?_
      refine w_iconst 1 dL_law_623 (by decide) X ?_
      refine w_iadd dL_law_624 X ?_
      refine w_sld hi1 dL_law_625 X ?_
      rw [hv1]
      refine w_sload_n dL_law_626 0 rfl X ?_
      refine w_iload_n dL_law_627 3 rfl X ?_
      refine w_iconst 2 dL_law_628 (by decide) X ?_
      refine w_iadd dL_law_629 X ?_
      refine w_sld hi2 dL_law_630 X ?_
      rw [hv2]
      refine w_callV (As := [.int a1, .int a2]) (h' := 5) cv_RL_98 dL_law_631 hxa rfl (Nat.le_of_ble_eq_true rfl) (by omega) hk1 hk2 (S_X11_differ hS hxa e1) X ?_
      refine w_aload_n dL_law_634 2 rfl X ?_
      refine w_sload_n dL_law_635 0 rfl X ?_
      refine w_iload_n dL_law_636 3 rfl X ?_
      refine w_iconst 1 dL_law_637 (by decide) X ?_
      refine w_iadd dL_law_638 X ?_
      refine w_sld hi1 dL_law_639 X ?_
      rw [hv1]
      refine w_sload_n dL_law_640 0 rfl X ?_
      refine w_iload_n dL_law_641 3 rfl X ?_
      refine w_iconst 2 dL_law_642 (by decide) X ?_
      refine w_iadd dL_law_643 X ?_
      refine w_sld hi2 dL_law_644 X ?_
      rw [hv2]
      refine w_callV (As := [.int a1, .int a2]) (h' := 4) cv_RL_101 dL_law_645 hma rfl (Nat.le_of_ble_eq_true rfl) (by omega) hk1 hk2 (S_X12_differ hS hma e2) X ?_
      refine w_icmp_eq 712 dL_law_648 (by decide) X (fun _ => ?_) (fun c0 => absurd rfl c0)
      exact back
    by_cases c21 : kk = 21
    · obtain ⟨r, D1, e1, e2⟩ := s21 c21
      refine w_tsIn 21 653 c21 dL_law_32 (by decide) (by decide) rfl (by decide) X ?_
      refine w_aload_n dL_law_653 1 rfl X ?_
      refine w_callV (As := []) (h' := 6) cv_RL_102 dL_law_654 hxa rfl (Nat.le_of_ble_eq_true rfl) (by omega) hk1 hk2 (S_X11_reduce hS hxa e1) X ?_
      refine w_aload_n dL_law_657 2 rfl X ?_
      refine w_callV (As := []) (h' := (P + 3)) cv_RL_105 dL_law_658 hma rfl (Nat.le_of_ble_eq_true rfl) (by omega) hk1 hk2 (S_X12_reduce hS hma e2) X ?_
      refine w_icmp_eq 712 dL_law_661 (by decide) X (fun _ => ?_) (fun c0 => absurd rfl c0)
      exact back
    by_cases c22 : kk = 22
    · obtain ⟨r, D1, e1, e2⟩ := s22 c22
      refine w_tsIn 22 666 c22 dL_law_32 (by decide) (by decide) rfl (by decide) X ?_
      refine w_aload_n dL_law_666 1 rfl X ?_
      refine w_sload_n dL_law_667 0 rfl X ?_
      refine w_iload_n dL_law_668 3 rfl X ?_
      refine w_iconst 1 dL_law_669 (by decide) X ?_
      refine w_iadd dL_law_670 X ?_
      refine w_sld hi1 dL_law_671 X ?_
      rw [hv1]
      refine w_callV (As := [.int a1]) (h' := 6) cv_RL_106 dL_law_672 hxa rfl (Nat.le_of_ble_eq_true rfl) (by omega) hk1 hk2 (S_X11_decide hS hxa e1) X ?_
      refine w_aload_n dL_law_675 2 rfl X ?_
      refine w_sload_n dL_law_676 0 rfl X ?_
      refine w_iload_n dL_law_677 3 rfl X ?_
      refine w_iconst 1 dL_law_678 (by decide) X ?_
      refine w_iadd dL_law_679 X ?_
      refine w_sld hi1 dL_law_680 X ?_
      rw [hv1]
      refine w_callV (As := [.int a1]) (h' := (P + 3)) cv_RL_109 dL_law_681 hma rfl (Nat.le_of_ble_eq_true rfl) (by omega) hk1 hk2 (S_X12_decide hS hma e2) X ?_
      refine w_icmp_eq 712 dL_law_684 (by decide) X (fun _ => ?_) (fun c0 => absurd rfl c0)
      exact back
    by_cases c23 : kk = 23
    · obtain ⟨r, D1, e1, e2⟩ := s23 c23
      refine w_tsIn 23 689 c23 dL_law_32 (by decide) (by decide) rfl (by decide) X ?_
      refine w_aload_n dL_law_689 1 rfl X ?_
      refine w_sload_n dL_law_690 0 rfl X ?_
      refine w_iload_n dL_law_691 3 rfl X ?_
      refine w_iconst 1 dL_law_692 (by decide) X ?_
      refine w_iadd dL_law_693 X ?_
      refine w_sld hi1 dL_law_694 X ?_
      rw [hv1]
      refine w_callV (As := [.int a1]) (h' := 3) cv_RL_110 dL_law_695 hxa rfl (Nat.le_of_ble_eq_true rfl) (by omega) hk1 hk2 (S_X11_count hS hxa e1) X ?_
      refine w_aload_n dL_law_698 2 rfl X ?_
      refine w_sload_n dL_law_699 0 rfl X ?_
      refine w_iload_n dL_law_700 3 rfl X ?_
      refine w_iconst 1 dL_law_701 (by decide) X ?_
      refine w_iadd dL_law_702 X ?_
      refine w_sld hi1 dL_law_703 X ?_
      rw [hv1]
      refine w_callV (As := [.int a1]) (h' := (P + 1)) cv_RL_113 dL_law_704 hma rfl (Nat.le_of_ble_eq_true rfl) (by omega) hk1 hk2 (S_X12_count hS hma e2) X ?_
      refine w_icmp_eq 712 dL_law_707 (by decide) X (fun _ => ?_) (fun c0 => absurd rfl c0)
      exact back
    obtain rfl := sd c0 c1 c2 c3 c4 c5 c6 c7 c8 c9 c10 c11 c12 c13 c14 c15 c16 c17 c18 c19 c20 c21 c22 c23
    refine w_tsOut 712 dL_law_32 (by have := lv_neT c0 (a := 0) (by decide); have := lv_neT c1 (a := 1) (by decide); have := lv_neT c2 (a := 2) (by decide); have := lv_neT c3 (a := 3) (by decide); have := lv_neT c4 (a := 4) (by decide); have := lv_neT c5 (a := 5) (by decide); have := lv_neT c6 (a := 6) (by decide); have := lv_neT c7 (a := 7) (by decide); have := lv_neT c8 (a := 8) (by decide); have := lv_neT c9 (a := 9) (by decide); have := lv_neT c10 (a := 10) (by decide); have := lv_neT c11 (a := 11) (by decide); have := lv_neT c12 (a := 12) (by decide); have := lv_neT c13 (a := 13) (by decide); have := lv_neT c14 (a := 14) (by decide); have := lv_neT c15 (a := 15) (by decide); have := lv_neT c16 (a := 16) (by decide); have := lv_neT c17 (a := 17) (by decide); have := lv_neT c18 (a := 18) (by decide); have := lv_neT c19 (a := 19) (by decide); have := lv_neT c20 (a := 20) (by decide); have := lv_neT c21 (a := 21) (by decide); have := lv_neT c22 (a := 22) (by decide); have := lv_neT c23 (a := 23) (by decide); omega) (by decide) X ?_
    exact back
