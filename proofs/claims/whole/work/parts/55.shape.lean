/-- the data behind KnowledgeRoom() -/
def xD1 : xDt := (xup (xup xD0.1 202 1 1) 203 0 49, xD0.2)
theorem f_add1 (F P : Nat) : f_X2_add F P xS1 202 49 xD0 = some (1, xD1) := by
  have h1 : xr xS1 202 0 = 203 := by decide +kernel
  have h2 : xl xS1 203 = 2000 := by decide +kernel
  have h3 : xD0.1 202 1 = 0 := rfl
  have h4 : (0 : Int32).toNatClampNeg = 0 := by decide
  have h5 : (0 : Int32) + 1 = 1 := by decide
  unfold f_X2_add
  rw [h1, h2, h3, if_pos (by decide)]
  unfold xlet xgrd
  dsimp only
  rw [if_pos (by decide), h4, h5]
  rfl
set_option maxHeartbeats 8000000 in
set_option maxRecDepth 100000 in
theorem C_X11_0 {a : Nat} {M : xMem} {Q : Option Value → xMem → Prop} (ha0 : M.1.1[a]? = some (11, 15)) (kk : xEx md_X11_init (3, 240, 58137) (240, 58137) 135 [(0, .ref a)] [.ref a] (c_X11 a M) Q) : xEx md_X11_init (3, 240, 58137) (0, 0) 0 [(0, .ref a)] [] M Q := by
  refine x_aload_n dX11_init_0 0 rfl ?_
  refine x_objInit dX11_init_1 wd_29 wd_30 wd_31 (Nat.le_of_ble_eq_true rfl) (Nat.le_of_ble_eq_true rfl) ?_
  refine x_aload_n dX11_init_4 0 rfl ?_
  refine x_new cb_10 dX11_init_5 wd_32 wd_33 wd_2 (by decide +kernel) (by decide) (by decide) ?_
  change xEx _ _ _ _ _ _ (c_X11_1 a M) _
  refine x_dup dX11_init_8 rfl ?_
  refine x_callIN (B' := (1, 2, 264)) (As := []) cw_X10_init rfl rfl dX11_init_9 wn_34 wd_35 rfl (Nat.le_of_ble_eq_true rfl) (by decide) (by decide) (by decide) (C_X10 (by unfold c_X11_1; exact xnew_last)) ?_ ?_
  · rintro v M' ⟨rfl, rfl⟩; exact c_X10_len _ _
  rintro v M' ⟨rfl, rfl⟩
  change xEx _ _ _ _ _ _ (c_X11_2 a M) _
  refine x_putF (k := 0) cb_11 (by decide) dX11_init_12 wd_363 rfl rfl rfl rfl (fun _ => rfl) (fun _ => rfl) (by exact c_X11_2_at ha0) ?_
  change xEx _ _ _ _ _ _ (c_X11_3 a M) _
  refine x_aload_n dX11_init_15 0 rfl ?_
  refine x_new cb_5 dX11_init_16 wd_57 wd_58 wd_3 (by decide +kernel) (by decide) (by decide) ?_
  change xEx _ _ _ _ _ _ (c_X11_4 a M) _
  refine x_dup dX11_init_19 rfl ?_
  refine x_callI (B' := (2, 37, 3216)) (As := []) cw_X5_init rfl rfl dX11_init_20 wd_59 wd_60 rfl (Nat.le_of_ble_eq_true rfl) (by decide) (by decide) (by decide) (C_X5 (by unfold c_X11_4; exact xnew_last)) ?_ ?_
  · rintro v M' ⟨rfl, rfl⟩; exact c_X5_len _ _
  rintro v M' ⟨rfl, rfl⟩
  change xEx _ _ _ _ _ _ (c_X11_5 a M) _
  refine x_putF (k := 1) cb_11 (by decide) dX11_init_23 wd_364 rfl rfl rfl rfl (fun _ => rfl) (fun _ => rfl) (by exact c_X11_5_at ha0) ?_
  change xEx _ _ _ _ _ _ (c_X11_6 a M) _
  refine x_aload_n dX11_init_26 0 rfl ?_
  refine x_new cb_1 dX11_init_27 wd_77 wd_78 wd_4 (by decide +kernel) (by decide) (by decide) ?_
  change xEx _ _ _ _ _ _ (c_X11_7 a M) _
  refine x_dup dX11_init_30 rfl ?_
  refine x_callI (B' := (2, 149, 11184)) (As := []) cw_X1_init rfl rfl dX11_init_31 wd_79 wd_80 rfl (Nat.le_of_ble_eq_true rfl) (by decide) (by decide) (by decide) (C_X1 (by unfold c_X11_7; exact xnew_last)) ?_ ?_
  · rintro v M' ⟨rfl, rfl⟩; exact c_X1_len _ _
  rintro v M' ⟨rfl, rfl⟩
  change xEx _ _ _ _ _ _ (c_X11_8 a M) _
  refine x_putF (k := 2) cb_11 (by decide) dX11_init_34 wd_365 rfl rfl rfl rfl (fun _ => rfl) (fun _ => rfl) (by exact c_X11_8_at ha0) ?_
  change xEx _ _ _ _ _ _ (c_X11_9 a M) _
  refine x_aload_n dX11_init_37 0 rfl ?_
  refine x_new cb_6 dX11_init_38 wd_133 wd_134 wd_7 (by decide +kernel) (by decide) (by decide) ?_
  change xEx _ _ _ _ _ _ (c_X11_10 a M) _
  refine x_dup dX11_init_41 rfl ?_
  refine x_callIN (B' := (2, 9, 448)) (As := []) cw_X6_init rfl rfl dX11_init_42 wn_135 wd_136 rfl (Nat.le_of_ble_eq_true rfl) (by decide) (by decide) (by decide) (C_X6 (by unfold c_X11_10; exact xnew_last)) ?_ ?_
  · rintro v M' ⟨rfl, rfl⟩; exact c_X6_len _ _
  rintro v M' ⟨rfl, rfl⟩
  change xEx _ _ _ _ _ _ (c_X11_11 a M) _
  refine x_putF (k := 3) cb_11 (by decide) dX11_init_45 wd_366 rfl rfl rfl rfl (fun _ => rfl) (fun _ => rfl) (by exact c_X11_11_at ha0) ?_
  change xEx _ _ _ _ _ _ (c_X11_12 a M) _
  refine x_aload_n dX11_init_48 0 rfl ?_
  refine x_new cb_2 dX11_init_49 wd_184 wd_85 wd_5 (by decide +kernel) (by decide) (by decide) ?_
  change xEx _ _ _ _ _ _ (c_X11_13 a M) _
  refine x_dup dX11_init_52 rfl ?_
  refine x_sipush 2000 dX11_init_53 (by decide) ?_
  refine x_callI (B' := (1, 1, 2000)) (As := [.int 2000]) cw_X2_init rfl rfl dX11_init_56 wd_185 wd_87 rfl (Nat.le_of_ble_eq_true rfl) (by decide) (by decide) (by decide) (C_X2 (room := 2000) (N := 2000) (by decide) (by decide) (by decide) (by unfold c_X11_13; exact xnew_last)) ?_ ?_
  · rintro v M' ⟨rfl, rfl⟩; exact c_X2_len _ _ _
  rintro v M' ⟨rfl, rfl⟩
  change xEx _ _ _ _ _ _ (c_X11_14 a M) _
  refine x_putF (k := 4) cb_11 (by decide) dX11_init_59 wd_367 rfl rfl rfl rfl (fun _ => rfl) (fun _ => rfl) (by exact c_X11_14_at ha0) ?_
  change xEx _ _ _ _ _ _ (c_X11_15 a M) _
  refine x_aload_n dX11_init_62 0 rfl ?_
  refine x_new cb_9 dX11_init_63 wd_186 wd_187 wd_8 (by decide +kernel) (by decide) (by decide) ?_
  change xEx _ _ _ _ _ _ (c_X11_16 a M) _
  refine x_dup dX11_init_66 rfl ?_
  refine x_callIN (B' := (1, 2, 6000)) (As := []) cw_X9_init rfl rfl dX11_init_67 wn_188 wd_189 rfl (Nat.le_of_ble_eq_true rfl) (by decide) (by decide) (by decide) (C_X9 (by unfold c_X11_16; exact xnew_last)) ?_ ?_
  · rintro v M' ⟨rfl, rfl⟩; exact c_X9_len _ _
  rintro v M' ⟨rfl, rfl⟩
  change xEx _ _ _ _ _ _ (c_X11_17 a M) _
  refine x_putF (k := 5) cb_11 (by decide) dX11_init_70 wd_368 rfl rfl rfl rfl (fun _ => rfl) (fun _ => rfl) (by exact c_X11_17_at ha0) ?_
  change xEx _ _ _ _ _ _ (c_X11_18 a M) _
  refine x_aload_n dX11_init_73 0 rfl ?_
  refine x_new cb_3 dX11_init_74 wd_207 wd_208 wd_9 (by decide +kernel) (by decide) (by decide) ?_
  change xEx _ _ _ _ _ _ (c_X11_19 a M) _
  refine x_dup dX11_init_77 rfl ?_
  refine x_callIN (B' := (1, 4, 8000)) (As := []) cw_X3_init rfl rfl dX11_init_78 wn_209 wd_210 rfl (Nat.le_of_ble_eq_true rfl) (by decide) (by decide) (by decide) (C_X3 (by unfold c_X11_19; exact xnew_last)) ?_ ?_
  · rintro v M' ⟨rfl, rfl⟩; exact c_X3_len _ _
  rintro v M' ⟨rfl, rfl⟩
  change xEx _ _ _ _ _ _ (c_X11_20 a M) _
  refine x_putF (k := 6) cb_11 (by decide) dX11_init_81 wd_369 rfl rfl rfl rfl (fun _ => rfl) (fun _ => rfl) (by exact c_X11_20_at ha0) ?_
  change xEx _ _ _ _ _ _ (c_X11_21 a M) _
  refine x_aload_n dX11_init_84 0 rfl ?_
  refine x_new cb_4 dX11_init_85 wd_232 wd_233 wd_10 (by decide +kernel) (by decide) (by decide) ?_
  change xEx _ _ _ _ _ _ (c_X11_22 a M) _
  refine x_dup dX11_init_88 rfl ?_
  refine x_callIN (B' := (1, 4, 448)) (As := []) cw_X4_init rfl rfl dX11_init_89 wn_234 wd_235 rfl (Nat.le_of_ble_eq_true rfl) (by decide) (by decide) (by decide) (C_X4 (by unfold c_X11_22; exact xnew_last)) ?_ ?_
  · rintro v M' ⟨rfl, rfl⟩; exact c_X4_len _ _
  rintro v M' ⟨rfl, rfl⟩
  change xEx _ _ _ _ _ _ (c_X11_23 a M) _
  refine x_putF (k := 7) cb_11 (by decide) dX11_init_92 wd_370 rfl rfl rfl rfl (fun _ => rfl) (fun _ => rfl) (by exact c_X11_23_at ha0) ?_
  change xEx _ _ _ _ _ _ (c_X11_24 a M) _
  refine x_aload_n dX11_init_95 0 rfl ?_
  refine x_new cb_7 dX11_init_96 wd_252 wd_253 wd_11 (by decide +kernel) (by decide) (by decide) ?_
  change xEx _ _ _ _ _ _ (c_X11_25 a M) _
  refine x_dup dX11_init_99 rfl ?_
  refine x_callIN (B' := (2, 4, 4152)) (As := []) cw_X7_init rfl rfl dX11_init_100 wn_254 wd_255 rfl (Nat.le_of_ble_eq_true rfl) (by decide) (by decide) (by decide) (C_X7 (by unfold c_X11_25; exact xnew_last)) ?_ ?_
  · rintro v M' ⟨rfl, rfl⟩; exact c_X7_len _ _
  rintro v M' ⟨rfl, rfl⟩
  change xEx _ _ _ _ _ _ (c_X11_26 a M) _
  refine x_putF (k := 8) cb_11 (by decide) dX11_init_103 wd_371 rfl rfl rfl rfl (fun _ => rfl) (fun _ => rfl) (by exact c_X11_26_at ha0) ?_
  change xEx _ _ _ _ _ _ (c_X11_27 a M) _
  refine x_aload_n dX11_init_106 0 rfl ?_
  refine x_new cb_0 dX11_init_107 wd_276 wd_277 wd_12 (by decide +kernel) (by decide) (by decide) ?_
  change xEx _ _ _ _ _ _ (c_X11_28 a M) _
  refine x_dup dX11_init_110 rfl ?_
  refine x_callIN (B' := (2, 16, 20305)) (As := []) cw_X0_init rfl rfl dX11_init_111 wn_278 wd_279 rfl (Nat.le_of_ble_eq_true rfl) (by decide) (by decide) (by decide) (C_X0 (by unfold c_X11_28; exact xnew_last)) ?_ ?_
  · rintro v M' ⟨rfl, rfl⟩; exact c_X0_len _ _
  rintro v M' ⟨rfl, rfl⟩
  change xEx _ _ _ _ _ _ (c_X11_29 a M) _
  refine x_putF (k := 9) cb_11 (by decide) dX11_init_114 wd_372 rfl rfl rfl rfl (fun _ => rfl) (fun _ => rfl) (by exact c_X11_29_at ha0) ?_
  change xEx _ _ _ _ _ _ (c_X11_30 a M) _
  refine x_aload_n dX11_init_117 0 rfl ?_
  refine x_bipush 64 dX11_init_118 (by decide) ?_
  refine x_newi (N := 64) (t := 100) (ti := 0) rfl rfl (fun C h => by cases h) (fun _ => rfl) (by decide) (by decide) (by decide) dX11_init_120 wd_111 (by decide) (by decide) (by decide) (by decide) (by decide) ?_
  change xEx _ _ _ _ _ _ (c_X11_31 a M) _
  refine x_putF (k := 10) cb_11 (by decide) dX11_init_122 wd_373 rfl rfl rfl rfl (fun _ => rfl) (fun _ => rfl) (by exact c_X11_31_at ha0) ?_
  change xEx _ _ _ _ _ _ (c_X11_32 a M) _
  refine x_aload_n dX11_init_125 0 rfl ?_
  refine x_sipush 2000 dX11_init_126 (by decide) ?_
  refine x_newi (N := 2000) (t := 100) (ti := 0) rfl rfl (fun C h => by cases h) (fun _ => rfl) (by decide) (by decide) (by decide) dX11_init_129 wd_111 (by decide) (by decide) (by decide) (by decide) (by decide) ?_
  change xEx _ _ _ _ _ _ (c_X11_33 a M) _
  refine x_putF (k := 11) cb_11 (by decide) dX11_init_131 wd_374 rfl rfl rfl rfl (fun _ => rfl) (fun _ => rfl) (by exact c_X11_33_at ha0) ?_
  change xEx _ _ _ _ _ _ (c_X11_34 a M) _
  refine x_aload_n dX11_init_134 0 rfl ?_
  exact kk
