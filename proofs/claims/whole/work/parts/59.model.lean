/-- the data behind KnowledgeRoomModel() -/
def xD3 : xDt := (xup (xup (xup (xup (xup (xup xD2.1 247 0 3) 248 0 (-2)) 249 0 (-2)) 250 0 0) 251 0 1) 241 13 1, xD2.2)
def xD4 : xDt := (xup xD3.1 241 14 0, xD3.2)
set_option maxHeartbeats 4000000 in
theorem f_node1 (F P : Nat) : f_X12_node F P xS0 241 3 (-2) (-2) 0 xD2 = some (0, xD3) := by
  have r8 : xr xS0 241 8 = 247 := by decide +kernel
  have r9 : xr xS0 241 9 = 248 := by decide +kernel
  have r10 : xr xS0 241 10 = 249 := by decide +kernel
  have r11 : xr xS0 241 11 = 250 := by decide +kernel
  have r12 : xr xS0 241 12 = 251 := by decide +kernel
  have l8 : xl xS0 247 = 92800 := by decide +kernel
  have l9 : xl xS0 248 = 92800 := by decide +kernel
  have l10 : xl xS0 249 = 92800 := by decide +kernel
  have l11 : xl xS0 250 = 92800 := by decide +kernel
  have l12 : xl xS0 251 = 92800 := by decide +kernel
  have q0 : xD2.1 241 13 = 0 := rfl
  have g : xin 0 92800 = true := by decide
  have z : (0 : Int32).toNatClampNeg = 0 := by decide
  have n1 : ∀ (f : Nat → Nat → Int32) (k : Nat) (v : Int32), xup f 247 k v 241 = f 241 := fun f k v => xup_ne _ _ _ _ (by decide)
  have n2 : ∀ (f : Nat → Nat → Int32) (k : Nat) (v : Int32), xup f 248 k v 241 = f 241 := fun f k v => xup_ne _ _ _ _ (by decide)
  have n3 : ∀ (f : Nat → Nat → Int32) (k : Nat) (v : Int32), xup f 249 k v 241 = f 241 := fun f k v => xup_ne _ _ _ _ (by decide)
  have n4 : ∀ (f : Nat → Nat → Int32) (k : Nat) (v : Int32), xup f 250 k v 241 = f 241 := fun f k v => xup_ne _ _ _ _ (by decide)
  have n5 : ∀ (f : Nat → Nat → Int32) (k : Nat) (v : Int32), xup f 251 k v 241 = f 241 := fun f k v => xup_ne _ _ _ _ (by decide)
  have c1 : ¬ (0 : Int32) ≤ -2 := by decide
  have c2 : (1 : Int32) + 0 + 0 ≤ 1000000 := by decide
  have c3 : (1 : Int32) + 0 + 0 = 1 := by decide
  have c4 : (0 : Int32) + 1 = 1 := by decide
  have c5 : (1 : Int32) - 1 = 0 := by decide
  simp only [f_X12_node, f_X12_node_56, f_X12_node_71, f_X12_node_96, xlet, xgrd, r8, r9, r10, r11, r12, l8, l9, l10, l11, l12, n1, n2, n3, n4, n5, q0, g, z, c1, if_true, if_false, c2, c3, c4, xup_eq, c5]
  rfl
set_option maxHeartbeats 8000000 in
set_option maxRecDepth 100000 in
theorem C_X12_0 {a : Nat} {M : xMem} {Q : Option Value → xMem → Prop} (ha0 : M.1.1[a]? = some (12, 44)) (kk : xEx md_X12_init (1, 31, 532120) (31, 532120) 277 [(0, .ref a)] [.int 0, .int (-2), .int (-2), .int 3, .ref a, .ref a] (c_X12_63 a M) Q) : xEx md_X12_init (1, 31, 532120) (0, 0) 0 [(0, .ref a)] [] M Q := by
  refine x_aload_n dX12_init_0 0 rfl ?_
  refine x_objInit dX12_init_1 wd_1144 wd_30 wd_31 (Nat.le_of_ble_eq_true rfl) (Nat.le_of_ble_eq_true rfl) ?_
  refine x_aload_n dX12_init_4 0 rfl ?_
  refine x_bipush 64 dX12_init_5 (by decide) ?_
  refine x_newi (N := 64) (t := 100) (ti := 0) rfl rfl (fun C h => by cases h) (fun _ => rfl) (by decide) (by decide) (by decide) dX12_init_7 wd_111 (by decide) (by decide) (by decide) (by decide) (by decide) ?_
  change xEx _ _ _ _ _ _ (c_X12_1 a M) _
  refine x_putF (k := 2) cb_12 (by decide) dX12_init_9 wd_1152 rfl rfl rfl rfl (fun _ => rfl) (fun _ => rfl) (by exact c_X12_1_at ha0) ?_
  change xEx _ _ _ _ _ _ (c_X12_2 a M) _
  refine x_aload_n dX12_init_12 0 rfl ?_
  refine x_sipush 256 dX12_init_13 (by decide) ?_
  refine x_newi (N := 256) (t := 100) (ti := 0) rfl rfl (fun C h => by cases h) (fun _ => rfl) (by decide) (by decide) (by decide) dX12_init_16 wd_111 (by decide) (by decide) (by decide) (by decide) (by decide) ?_
  change xEx _ _ _ _ _ _ (c_X12_3 a M) _
  refine x_putF (k := 3) cb_12 (by decide) dX12_init_18 wd_1153 rfl rfl rfl rfl (fun _ => rfl) (fun _ => rfl) (by exact c_X12_3_at ha0) ?_
  change xEx _ _ _ _ _ _ (c_X12_4 a M) _
  refine x_aload_n dX12_init_21 0 rfl ?_
  refine x_bipush 12 dX12_init_22 (by decide) ?_
  refine x_newi (N := 12) (t := 100) (ti := 0) rfl rfl (fun C h => by cases h) (fun _ => rfl) (by decide) (by decide) (by decide) dX12_init_24 wd_111 (by decide) (by decide) (by decide) (by decide) (by decide) ?_
  change xEx _ _ _ _ _ _ (c_X12_5 a M) _
  refine x_putF (k := 4) cb_12 (by decide) dX12_init_26 wd_1154 rfl rfl rfl rfl (fun _ => rfl) (fun _ => rfl) (by exact c_X12_5_at ha0) ?_
  change xEx _ _ _ _ _ _ (c_X12_6 a M) _
  refine x_aload_n dX12_init_29 0 rfl ?_
  refine x_sipush 768 dX12_init_30 (by decide) ?_
  refine x_newi (N := 768) (t := 100) (ti := 0) rfl rfl (fun C h => by cases h) (fun _ => rfl) (by decide) (by decide) (by decide) dX12_init_33 wd_111 (by decide) (by decide) (by decide) (by decide) (by decide) ?_
  change xEx _ _ _ _ _ _ (c_X12_7 a M) _
  refine x_putF (k := 5) cb_12 (by decide) dX12_init_35 wd_1155 rfl rfl rfl rfl (fun _ => rfl) (fun _ => rfl) (by exact c_X12_7_at ha0) ?_
  change xEx _ _ _ _ _ _ (c_X12_8 a M) _
  refine x_aload_n dX12_init_38 0 rfl ?_
  refine x_sipush 3072 dX12_init_39 (by decide) ?_
  refine x_newi (N := 3072) (t := 100) (ti := 0) rfl rfl (fun C h => by cases h) (fun _ => rfl) (by decide) (by decide) (by decide) dX12_init_42 wd_111 (by decide) (by decide) (by decide) (by decide) (by decide) ?_
  change xEx _ _ _ _ _ _ (c_X12_9 a M) _
  refine x_putF (k := 6) cb_12 (by decide) dX12_init_44 wd_1156 rfl rfl rfl rfl (fun _ => rfl) (fun _ => rfl) (by exact c_X12_9_at ha0) ?_
  change xEx _ _ _ _ _ _ (c_X12_10 a M) _
  refine x_aload_n dX12_init_47 0 rfl ?_
  refine x_ldc 92800 dX12_init_48 wd_1145 ?_
  refine x_newi (N := 92800) (t := 100) (ti := 0) rfl rfl (fun C h => by cases h) (fun _ => rfl) (by decide) (by decide) (by decide) dX12_init_50 wd_111 (by decide) (by decide) (by decide) (by decide) (by decide) ?_
  change xEx _ _ _ _ _ _ (c_X12_11 a M) _
  refine x_putF (k := 8) cb_12 (by decide) dX12_init_52 wd_1158 rfl rfl rfl rfl (fun _ => rfl) (fun _ => rfl) (by exact c_X12_11_at ha0) ?_
  change xEx _ _ _ _ _ _ (c_X12_12 a M) _
  refine x_aload_n dX12_init_55 0 rfl ?_
  refine x_ldc 92800 dX12_init_56 wd_1145 ?_
  refine x_newi (N := 92800) (t := 100) (ti := 0) rfl rfl (fun C h => by cases h) (fun _ => rfl) (by decide) (by decide) (by decide) dX12_init_58 wd_111 (by decide) (by decide) (by decide) (by decide) (by decide) ?_
  change xEx _ _ _ _ _ _ (c_X12_13 a M) _
  refine x_putF (k := 9) cb_12 (by decide) dX12_init_60 wd_1159 rfl rfl rfl rfl (fun _ => rfl) (fun _ => rfl) (by exact c_X12_13_at ha0) ?_
  change xEx _ _ _ _ _ _ (c_X12_14 a M) _
  refine x_aload_n dX12_init_63 0 rfl ?_
  refine x_ldc 92800 dX12_init_64 wd_1145 ?_
  refine x_newi (N := 92800) (t := 100) (ti := 0) rfl rfl (fun C h => by cases h) (fun _ => rfl) (by decide) (by decide) (by decide) dX12_init_66 wd_111 (by decide) (by decide) (by decide) (by decide) (by decide) ?_
  change xEx _ _ _ _ _ _ (c_X12_15 a M) _
  refine x_putF (k := 10) cb_12 (by decide) dX12_init_68 wd_1160 rfl rfl rfl rfl (fun _ => rfl) (fun _ => rfl) (by exact c_X12_15_at ha0) ?_
  change xEx _ _ _ _ _ _ (c_X12_16 a M) _
  refine x_aload_n dX12_init_71 0 rfl ?_
  refine x_ldc 92800 dX12_init_72 wd_1145 ?_
  refine x_newi (N := 92800) (t := 100) (ti := 0) rfl rfl (fun C h => by cases h) (fun _ => rfl) (by decide) (by decide) (by decide) dX12_init_74 wd_111 (by decide) (by decide) (by decide) (by decide) (by decide) ?_
  change xEx _ _ _ _ _ _ (c_X12_17 a M) _
  refine x_putF (k := 11) cb_12 (by decide) dX12_init_76 wd_1161 rfl rfl rfl rfl (fun _ => rfl) (fun _ => rfl) (by exact c_X12_17_at ha0) ?_
  change xEx _ _ _ _ _ _ (c_X12_18 a M) _
  refine x_aload_n dX12_init_79 0 rfl ?_
  refine x_ldc 92800 dX12_init_80 wd_1145 ?_
  refine x_newi (N := 92800) (t := 100) (ti := 0) rfl rfl (fun C h => by cases h) (fun _ => rfl) (by decide) (by decide) (by decide) dX12_init_82 wd_111 (by decide) (by decide) (by decide) (by decide) (by decide) ?_
  change xEx _ _ _ _ _ _ (c_X12_19 a M) _
  refine x_putF (k := 12) cb_12 (by decide) dX12_init_84 wd_1162 rfl rfl rfl rfl (fun _ => rfl) (fun _ => rfl) (by exact c_X12_19_at ha0) ?_
  change xEx _ _ _ _ _ _ (c_X12_20 a M) _
  refine x_aload_n dX12_init_87 0 rfl ?_
  refine x_sipush 200 dX12_init_88 (by decide) ?_
  refine x_newi (N := 200) (t := 103) (ti := 3) rfl rfl (fun C h => by cases h) (fun _ => rfl) (by decide) (by decide) (by decide) dX12_init_91 wd_964 (by decide) (by decide) (by decide) (by decide) (by decide) ?_
  change xEx _ _ _ _ _ _ (c_X12_21 a M) _
  refine x_putF (k := 15) cb_12 (by decide) dX12_init_93 wd_1165 rfl rfl rfl rfl (fun _ => rfl) (fun _ => rfl) (by exact c_X12_21_at ha0) ?_
  change xEx _ _ _ _ _ _ (c_X12_22 a M) _
  refine x_aload_n dX12_init_96 0 rfl ?_
  refine x_sipush 20000 dX12_init_97 (by decide) ?_
  refine x_newi (N := 20000) (t := 103) (ti := 3) rfl rfl (fun C h => by cases h) (fun _ => rfl) (by decide) (by decide) (by decide) dX12_init_100 wd_964 (by decide) (by decide) (by decide) (by decide) (by decide) ?_
  change xEx _ _ _ _ _ _ (c_X12_23 a M) _
  refine x_putF (k := 20) cb_12 (by decide) dX12_init_102 wd_1170 rfl rfl rfl rfl (fun _ => rfl) (fun _ => rfl) (by exact c_X12_23_at ha0) ?_
  change xEx _ _ _ _ _ _ (c_X12_24 a M) _
  refine x_aload_n dX12_init_105 0 rfl ?_
  refine x_bipush 64 dX12_init_106 (by decide) ?_
  refine x_newi (N := 64) (t := 100) (ti := 0) rfl rfl (fun C h => by cases h) (fun _ => rfl) (by decide) (by decide) (by decide) dX12_init_108 wd_111 (by decide) (by decide) (by decide) (by decide) (by decide) ?_
  change xEx _ _ _ _ _ _ (c_X12_25 a M) _
  refine x_putF (k := 22) cb_12 (by decide) dX12_init_110 wd_1172 rfl rfl rfl rfl (fun _ => rfl) (fun _ => rfl) (by exact c_X12_25_at ha0) ?_
  change xEx _ _ _ _ _ _ (c_X12_26 a M) _
  refine x_aload_n dX12_init_113 0 rfl ?_
  refine x_bipush 64 dX12_init_114 (by decide) ?_
  refine x_newi (N := 64) (t := 100) (ti := 0) rfl rfl (fun C h => by cases h) (fun _ => rfl) (by decide) (by decide) (by decide) dX12_init_116 wd_111 (by decide) (by decide) (by decide) (by decide) (by decide) ?_
  change xEx _ _ _ _ _ _ (c_X12_27 a M) _
  refine x_putF (k := 23) cb_12 (by decide) dX12_init_118 wd_1173 rfl rfl rfl rfl (fun _ => rfl) (fun _ => rfl) (by exact c_X12_27_at ha0) ?_
  change xEx _ _ _ _ _ _ (c_X12_28 a M) _
  refine x_aload_n dX12_init_121 0 rfl ?_
  refine x_sipush 256 dX12_init_122 (by decide) ?_
  refine x_newi (N := 256) (t := 100) (ti := 0) rfl rfl (fun C h => by cases h) (fun _ => rfl) (by decide) (by decide) (by decide) dX12_init_125 wd_111 (by decide) (by decide) (by decide) (by decide) (by decide) ?_
  change xEx _ _ _ _ _ _ (c_X12_29 a M) _
  refine x_putF (k := 24) cb_12 (by decide) dX12_init_127 wd_1174 rfl rfl rfl rfl (fun _ => rfl) (fun _ => rfl) (by exact c_X12_29_at ha0) ?_
  change xEx _ _ _ _ _ _ (c_X12_30 a M) _
  refine x_aload_n dX12_init_130 0 rfl ?_
  refine x_bipush 8 dX12_init_131 (by decide) ?_
  refine x_newi (N := 8) (t := 100) (ti := 0) rfl rfl (fun C h => by cases h) (fun _ => rfl) (by decide) (by decide) (by decide) dX12_init_133 wd_111 (by decide) (by decide) (by decide) (by decide) (by decide) ?_
  change xEx _ _ _ _ _ _ (c_X12_31 a M) _
  refine x_putF (k := 26) cb_12 (by decide) dX12_init_135 wd_1176 rfl rfl rfl rfl (fun _ => rfl) (fun _ => rfl) (by exact c_X12_31_at ha0) ?_
  change xEx _ _ _ _ _ _ (c_X12_32 a M) _
  refine x_aload_n dX12_init_138 0 rfl ?_
  refine x_bipush 64 dX12_init_139 (by decide) ?_
  refine x_newi (N := 64) (t := 100) (ti := 0) rfl rfl (fun C h => by cases h) (fun _ => rfl) (by decide) (by decide) (by decide) dX12_init_141 wd_111 (by decide) (by decide) (by decide) (by decide) (by decide) ?_
  change xEx _ _ _ _ _ _ (c_X12_33 a M) _
  refine x_putF (k := 27) cb_12 (by decide) dX12_init_143 wd_1177 rfl rfl rfl rfl (fun _ => rfl) (fun _ => rfl) (by exact c_X12_33_at ha0) ?_
  change xEx _ _ _ _ _ _ (c_X12_34 a M) _
  refine x_aload_n dX12_init_146 0 rfl ?_
  refine x_bipush 32 dX12_init_147 (by decide) ?_
  refine x_newi (N := 32) (t := 100) (ti := 0) rfl rfl (fun C h => by cases h) (fun _ => rfl) (by decide) (by decide) (by decide) dX12_init_149 wd_111 (by decide) (by decide) (by decide) (by decide) (by decide) ?_
  change xEx _ _ _ _ _ _ (c_X12_35 a M) _
  refine x_putF (k := 28) cb_12 (by decide) dX12_init_151 wd_1178 rfl rfl rfl rfl (fun _ => rfl) (fun _ => rfl) (by exact c_X12_35_at ha0) ?_
  change xEx _ _ _ _ _ _ (c_X12_36 a M) _
  refine x_aload_n dX12_init_154 0 rfl ?_
  refine x_bipush 8 dX12_init_155 (by decide) ?_
  refine x_newl (N := 8) rfl dX12_init_157 wd_56 (by decide) (by decide) (by decide) (by decide) (by decide) ?_
  change xEx _ _ _ _ _ _ (c_X12_37 a M) _
  refine x_putF (k := 29) cb_12 (by decide) dX12_init_159 wd_1179 rfl rfl rfl rfl (fun _ => rfl) (fun _ => rfl) (by exact c_X12_37_at ha0) ?_
  change xEx _ _ _ _ _ _ (c_X12_38 a M) _
  refine x_aload_n dX12_init_162 0 rfl ?_
  refine x_bipush 64 dX12_init_163 (by decide) ?_
  refine x_newl (N := 64) rfl dX12_init_165 wd_56 (by decide) (by decide) (by decide) (by decide) (by decide) ?_
  change xEx _ _ _ _ _ _ (c_X12_39 a M) _
  refine x_putF (k := 30) cb_12 (by decide) dX12_init_167 wd_1180 rfl rfl rfl rfl (fun _ => rfl) (fun _ => rfl) (by exact c_X12_39_at ha0) ?_
  change xEx _ _ _ _ _ _ (c_X12_40 a M) _
  refine x_aload_n dX12_init_170 0 rfl ?_
  refine x_bipush 64 dX12_init_171 (by decide) ?_
  refine x_newi (N := 64) (t := 100) (ti := 0) rfl rfl (fun C h => by cases h) (fun _ => rfl) (by decide) (by decide) (by decide) dX12_init_173 wd_111 (by decide) (by decide) (by decide) (by decide) (by decide) ?_
  change xEx _ _ _ _ _ _ (c_X12_41 a M) _
  refine x_putF (k := 31) cb_12 (by decide) dX12_init_175 wd_1181 rfl rfl rfl rfl (fun _ => rfl) (fun _ => rfl) (by exact c_X12_41_at ha0) ?_
  change xEx _ _ _ _ _ _ (c_X12_42 a M) _
  refine x_aload_n dX12_init_178 0 rfl ?_
  refine x_bipush 64 dX12_init_179 (by decide) ?_
  refine x_newi (N := 64) (t := 100) (ti := 0) rfl rfl (fun C h => by cases h) (fun _ => rfl) (by decide) (by decide) (by decide) dX12_init_181 wd_111 (by decide) (by decide) (by decide) (by decide) (by decide) ?_
  change xEx _ _ _ _ _ _ (c_X12_43 a M) _
  refine x_putF (k := 32) cb_12 (by decide) dX12_init_183 wd_1182 rfl rfl rfl rfl (fun _ => rfl) (fun _ => rfl) (by exact c_X12_43_at ha0) ?_
  change xEx _ _ _ _ _ _ (c_X12_44 a M) _
  refine x_aload_n dX12_init_186 0 rfl ?_
  refine x_bipush 64 dX12_init_187 (by decide) ?_
  refine x_newi (N := 64) (t := 100) (ti := 0) rfl rfl (fun C h => by cases h) (fun _ => rfl) (by decide) (by decide) (by decide) dX12_init_189 wd_111 (by decide) (by decide) (by decide) (by decide) (by decide) ?_
  change xEx _ _ _ _ _ _ (c_X12_45 a M) _
  refine x_putF (k := 33) cb_12 (by decide) dX12_init_191 wd_1183 rfl rfl rfl rfl (fun _ => rfl) (fun _ => rfl) (by exact c_X12_45_at ha0) ?_
  change xEx _ _ _ _ _ _ (c_X12_46 a M) _
  refine x_aload_n dX12_init_194 0 rfl ?_
  refine x_bipush 64 dX12_init_195 (by decide) ?_
  refine x_newi (N := 64) (t := 100) (ti := 0) rfl rfl (fun C h => by cases h) (fun _ => rfl) (by decide) (by decide) (by decide) dX12_init_197 wd_111 (by decide) (by decide) (by decide) (by decide) (by decide) ?_
  change xEx _ _ _ _ _ _ (c_X12_47 a M) _
  refine x_putF (k := 34) cb_12 (by decide) dX12_init_199 wd_1184 rfl rfl rfl rfl (fun _ => rfl) (fun _ => rfl) (by exact c_X12_47_at ha0) ?_
  change xEx _ _ _ _ _ _ (c_X12_48 a M) _
  refine x_aload_n dX12_init_202 0 rfl ?_
  refine x_bipush 64 dX12_init_203 (by decide) ?_
  refine x_newi (N := 64) (t := 100) (ti := 0) rfl rfl (fun C h => by cases h) (fun _ => rfl) (by decide) (by decide) (by decide) dX12_init_205 wd_111 (by decide) (by decide) (by decide) (by decide) (by decide) ?_
  change xEx _ _ _ _ _ _ (c_X12_49 a M) _
  refine x_putF (k := 35) cb_12 (by decide) dX12_init_207 wd_1185 rfl rfl rfl rfl (fun _ => rfl) (fun _ => rfl) (by exact c_X12_49_at ha0) ?_
  change xEx _ _ _ _ _ _ (c_X12_50 a M) _
  refine x_aload_n dX12_init_210 0 rfl ?_
  refine x_sipush 2100 dX12_init_211 (by decide) ?_
  refine x_newi (N := 2100) (t := 100) (ti := 0) rfl rfl (fun C h => by cases h) (fun _ => rfl) (by decide) (by decide) (by decide) dX12_init_214 wd_111 (by decide) (by decide) (by decide) (by decide) (by decide) ?_
  change xEx _ _ _ _ _ _ (c_X12_51 a M) _
  refine x_putF (k := 37) cb_12 (by decide) dX12_init_216 wd_1187 rfl rfl rfl rfl (fun _ => rfl) (fun _ => rfl) (by exact c_X12_51_at ha0) ?_
  change xEx _ _ _ _ _ _ (c_X12_52 a M) _
  refine x_aload_n dX12_init_219 0 rfl ?_
  refine x_sipush 8192 dX12_init_220 (by decide) ?_
  refine x_newi (N := 8192) (t := 104) (ti := 4) rfl rfl (fun C h => by cases h) (fun _ => rfl) (by decide) (by decide) (by decide) dX12_init_223 wd_183 (by decide) (by decide) (by decide) (by decide) (by decide) ?_
  change xEx _ _ _ _ _ _ (c_X12_53 a M) _
  refine x_putF (k := 39) cb_12 (by decide) dX12_init_225 wd_1189 rfl rfl rfl rfl (fun _ => rfl) (fun _ => rfl) (by exact c_X12_53_at ha0) ?_
  change xEx _ _ _ _ _ _ (c_X12_54 a M) _
  refine x_aload_n dX12_init_228 0 rfl ?_
  refine x_sipush 8192 dX12_init_229 (by decide) ?_
  refine x_newi (N := 8192) (t := 100) (ti := 0) rfl rfl (fun C h => by cases h) (fun _ => rfl) (by decide) (by decide) (by decide) dX12_init_232 wd_111 (by decide) (by decide) (by decide) (by decide) (by decide) ?_
  change xEx _ _ _ _ _ _ (c_X12_55 a M) _
  refine x_putF (k := 40) cb_12 (by decide) dX12_init_234 wd_1190 rfl rfl rfl rfl (fun _ => rfl) (fun _ => rfl) (by exact c_X12_55_at ha0) ?_
  change xEx _ _ _ _ _ _ (c_X12_56 a M) _
  refine x_aload_n dX12_init_237 0 rfl ?_
  refine x_sipush 8192 dX12_init_238 (by decide) ?_
  refine x_newi (N := 8192) (t := 100) (ti := 0) rfl rfl (fun C h => by cases h) (fun _ => rfl) (by decide) (by decide) (by decide) dX12_init_241 wd_111 (by decide) (by decide) (by decide) (by decide) (by decide) ?_
  change xEx _ _ _ _ _ _ (c_X12_57 a M) _
  refine x_putF (k := 41) cb_12 (by decide) dX12_init_243 wd_1191 rfl rfl rfl rfl (fun _ => rfl) (fun _ => rfl) (by exact c_X12_57_at ha0) ?_
  change xEx _ _ _ _ _ _ (c_X12_58 a M) _
  refine x_aload_n dX12_init_246 0 rfl ?_
  refine x_sipush 8192 dX12_init_247 (by decide) ?_
  refine x_newi (N := 8192) (t := 100) (ti := 0) rfl rfl (fun C h => by cases h) (fun _ => rfl) (by decide) (by decide) (by decide) dX12_init_250 wd_111 (by decide) (by decide) (by decide) (by decide) (by decide) ?_
  change xEx _ _ _ _ _ _ (c_X12_59 a M) _
  refine x_putF (k := 42) cb_12 (by decide) dX12_init_252 wd_1192 rfl rfl rfl rfl (fun _ => rfl) (fun _ => rfl) (by exact c_X12_59_at ha0) ?_
  change xEx _ _ _ _ _ _ (c_X12_60 a M) _
  refine x_aload_n dX12_init_255 0 rfl ?_
  refine x_sipush 8000 dX12_init_256 (by decide) ?_
  refine x_newi (N := 8000) (t := 104) (ti := 4) rfl rfl (fun C h => by cases h) (fun _ => rfl) (by decide) (by decide) (by decide) dX12_init_259 wd_183 (by decide) (by decide) (by decide) (by decide) (by decide) ?_
  change xEx _ _ _ _ _ _ (c_X12_61 a M) _
  refine x_putF (k := 43) cb_12 (by decide) dX12_init_261 wd_1193 rfl rfl rfl rfl (fun _ => rfl) (fun _ => rfl) (by exact c_X12_61_at ha0) ?_
  change xEx _ _ _ _ _ _ (c_X12_62 a M) _
  refine x_aload_n dX12_init_264 0 rfl ?_
  refine x_iconst 0 dX12_init_265 (by decide) ?_
  refine x_puti (k := 13) cb_12 (by decide) dX12_init_266 wd_1163 rfl rfl rfl rfl (by exact c_X12_62_at ha0) ?_
  change xEx _ _ _ _ _ _ (c_X12_63 a M) _
  refine x_aload_n dX12_init_269 0 rfl ?_
  refine x_aload_n dX12_init_270 0 rfl ?_
  refine x_iconst 3 dX12_init_271 (by decide) ?_
  refine x_bipush (-2) dX12_init_272 (by decide) ?_
  refine x_bipush (-2) dX12_init_274 (by decide) ?_
  refine x_iconst 0 dX12_init_276 (by decide) ?_
  exact kk
set_option maxHeartbeats 8000000 in
set_option maxRecDepth 100000 in
theorem C_X12 : xSp md_X12_init (1, 31, 532120) [.ref 241] xM2 (fun v M' => v = none ∧ M' = (xS0, xD4)) := by
  have ha0 : xM2.1.1[241]? = some (12, 44) := by decide +kernel
  refine xEntry (by decide) (Nat.le_of_ble_eq_true rfl) ?_
  refine x_lv (lv' := [(0, .ref 241)]) [0] rfl ?_
  refine C_X12_0 ha0 ?_
  refine x_mem (M := c_X12_63 241 xM2) (xS0, xD2) c_X12_sh.symm c_X12_d.symm (by rw [c_X12_sh]; exact xrf_of c_X12_rfb) ?_
  have k241 : xK xS0 241 12 := xkb_K (by decide +kernel)
  obtain ⟨C, T, ty, h1, h2, h3, h4, h5, h6⟩ := cv_RX12_156
  refine x_callV (B' := (0, 0, 0)) (As := [.int 3, .int (-2), .int (-2), .int 0]) h1 (k241.obj h1.2.2.2.2) h2 h3 dX12_init_277 h4 h5 h6 rfl (Nat.le_of_ble_eq_true rfl) (by decide) (by decide) (by decide) (S_X12_node (F := 0) (P := 0) xwf0 k241 (f_node1 0 0)) ?_ ?_
  · rintro v M' ⟨rfl, rfl⟩; rfl
  rintro v M' ⟨rfl, rfl⟩
  refine x_puti (k := 14) cb_12 (by decide) dX12_init_280 wd_1164 rfl rfl rfl rfl (k241.obj (by decide)) ?_
  exact x_vret rfl (by decide) (by decide) dX12_init_283 ⟨rfl, rfl⟩

