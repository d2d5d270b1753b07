set_option maxHeartbeats 8000000 in
set_option maxRecDepth 100000 in
theorem C_X11 : xSp md_X11_init (3, 240, 58137) [.ref 0] xM0 (fun v M' => v = none ∧ M' = (xS1, xD1)) := by
  have ha0 : xM0.1.1[0]? = some (11, 15) := rfl
  refine xEntry (by decide) (Nat.le_of_ble_eq_true rfl) ?_
  refine x_lv (lv' := [(0, .ref 0)]) [0] rfl ?_
  refine C_X11_0 ha0 ?_
  refine x_mem (M := c_X11 0 xM0) (xS1, xD0) c_X11_sh.symm c_X11_d.symm (by rw [c_X11_sh]; exact xrf_of c_X11_rfb) ?_
  refine x_getr (k := 4) (b := 202) cb_11 (by decide) dX11_init_135 wd_367 rfl (by decide +kernel) (by decide +kernel) ?_
  refine x_bipush 49 dX11_init_138 (by decide) ?_
  have k202 : xK xS1 202 2 := xkb_K (by decide +kernel)
  obtain ⟨C, T, ty, h1, h2, h3, h4, h5, h6⟩ := cv_RX11_88
  refine x_callV (B' := (0, 0, 0)) (As := [.int 49]) h1 (k202.obj h1.2.2.2.2) h2 h3 dX11_init_140 h4 h5 h6 rfl (Nat.le_of_ble_eq_true rfl) (by decide) (by decide) (by decide) (S_X2_add (F := 0) (P := 0) xwf1 k202 (f_add1 0 0)) ?_ ?_
  · rintro v M' ⟨rfl, rfl⟩; rfl
  rintro v M' ⟨rfl, rfl⟩
  refine x_pop dX11_init_143 rfl ?_
  exact x_vret rfl (by decide) (by decide) dX11_init_144 ⟨rfl, rfl⟩

