/-! printed by wip/whole/gen.py: the methods as plain functions, each proved to be what its bytecode does -/
theorem dX11_decide_0 : decode cX11_decide 0 = .ok (.iload_n 1, 1) := by decide +kernel
theorem dX11_decide_1 : decode cX11_decide 1 = .ok (.ifCond .lt 9, 3) := by decide +kernel
theorem dX11_decide_4 : decode cX11_decide 4 = .ok (.iload_n 1, 1) := by decide +kernel
theorem dX11_decide_5 : decode cX11_decide 5 = .ok (.bipush 6, 2) := by decide +kernel
theorem dX11_decide_7 : decode cX11_decide 7 = .ok (.if_icmp .lt 5, 3) := by decide +kernel
theorem dX11_decide_10 : decode cX11_decide 10 = .ok (.iconst (-1), 1) := by decide +kernel
theorem dX11_decide_11 : decode cX11_decide 11 = .ok (.ireturn, 1) := by decide +kernel
theorem dX11_decide_12 : decode cX11_decide 12 = .ok (.aload_n 0, 1) := by decide +kernel
theorem dX11_decide_13 : decode cX11_decide 13 = .ok (.getfield 232, 3) := by decide +kernel
theorem dX11_decide_16 : decode cX11_decide 16 = .ok (.ifCond .ne 19, 3) := by decide +kernel
theorem dX11_decide_19 : decode cX11_decide 19 = .ok (.aload_n 0, 1) := by decide +kernel
theorem dX11_decide_20 : decode cX11_decide 20 = .ok (.getfield 77, 3) := by decide +kernel
theorem dX11_decide_23 : decode cX11_decide 23 = .ok (.aload_n 0, 1) := by decide +kernel
theorem dX11_decide_24 : decode cX11_decide 24 = .ok (.getfield 42, 3) := by decide +kernel
theorem dX11_decide_27 : decode cX11_decide 27 = .ok (.invokevirtual 235, 3) := by decide +kernel
theorem dX11_decide_30 : decode cX11_decide 30 = .ok (.aload_n 0, 1) := by decide +kernel
theorem dX11_decide_31 : decode cX11_decide 31 = .ok (.iconst 1, 1) := by decide +kernel
theorem dX11_decide_32 : decode cX11_decide 32 = .ok (.putfield 232, 3) := by decide +kernel
theorem dX11_decide_35 : decode cX11_decide 35 = .ok (.aload_n 0, 1) := by decide +kernel
theorem dX11_decide_36 : decode cX11_decide 36 = .ok (.getfield 77, 3) := by decide +kernel
theorem dX11_decide_39 : decode cX11_decide 39 = .ok (.getfield 239, 3) := by decide +kernel
theorem dX11_decide_42 : decode cX11_decide 42 = .ok (.iload_n 1, 1) := by decide +kernel
theorem dX11_decide_43 : decode cX11_decide 43 = .ok (.iaload, 1) := by decide +kernel
theorem dX11_decide_44 : decode cX11_decide 44 = .ok (.ireturn, 1) := by decide +kernel
def f_X11_decide_35 (F P : Nat) (S : xSt) (v0 : Nat) (v1 : Int32) (D : xDt) : Option (Int32 × xDt) :=
  xgrd (xin v1 (xl S (xr S (xr S v0 9) 0))) (some (D.1 (xr S (xr S v0 9) 0) (v1).toNatClampNeg, D))
set_option maxHeartbeats 4000000 in
theorem t_X11_decide_35 {F P : Nat} {S : xSt} (hS : xWF S) {v0 : Nat} {v1 : Int32} {D : xDt} {r : Int32 × xDt} (k0 : xK S v0 11) (h : f_X11_decide_35 F P S v0 v1 D = some r) : yEx md_X11_decide 6 35 [(0, .ref v0), (1, .int v1)] [] S D (xQi S r) := by
  unfold f_X11_decide_35 at h
  refine x_aload_n dX11_decide_35 0 rfl ?_
  refine y_getr (kd := 0) hS fl_RX11_77 dX11_decide_36 rfl k0 ?_
  refine y_getr (kd := 100) hS fl_RX11_239 dX11_decide_39 rfl ((hS.f k0 9 0 rfl).2) ?_
  refine x_iload_n dX11_decide_42 1 rfl ?_
  refine xgrd_e h (fun g1 h => ?_)
  refine y_iald dX11_decide_43 ((hS.f ((hS.f k0 9 0 rfl).2) 0 100 rfl).2) g1 ?_
  obtain rfl := Option.some.inj h
  exact y_iret rfl dX11_decide_44

def f_X11_decide (F P : Nat) (S : xSt) (v0 : Nat) (v1 : Int32) (D : xDt) : Option (Int32 × xDt) :=
  if v1 < 0 then (some ((-1), D)) else (if v1 < 6 then (if (D.1 v0 14) = 0 then ((f_X0_work F P S (xr S v0 9) (xr S v0 4) D).bind fun q1 => xlet (xup q1.1 v0 14 1, q1.2) fun D2 => f_X11_decide_35 F P S v0 v1 D2) else (f_X11_decide_35 F P S v0 v1 D)) else (some ((-1), D)))
set_option maxHeartbeats 4000000 in
theorem S_X11_decide {F P : Nat} {S : xSt} (hS : xWF S) {v0 : Nat} {v1 : Int32} {D : xDt} {r : Int32 × xDt} (k0 : xK S v0 11) (h : f_X11_decide F P S v0 v1 D = some r) : xSp md_X11_decide (6, 0, 0) [.ref v0, .int v1] (S, D) (xQi S r) := by
  unfold f_X11_decide at h
  refine xEntry (by decide) (Nat.le_of_ble_eq_true rfl) ?_
  refine x_lv (lv' := [(0, .ref v0), (1, .int v1)]) [0, 1] rfl ?_
  refine x_iload_n dX11_decide_0 1 rfl ?_
  refine x_if_lt 10 dX11_decide_1 (by decide) (fun c => ?_) (fun c => ?_)
  · rw [if_pos c] at h
    refine x_iconst (-1) dX11_decide_10 (by decide) ?_
    obtain rfl := Option.some.inj h
    exact y_iret rfl dX11_decide_11
  · rw [if_neg c] at h
    refine x_iload_n dX11_decide_4 1 rfl ?_
    refine x_bipush 6 dX11_decide_5 (by decide) ?_
    refine x_icmp_lt 12 dX11_decide_7 (by decide) (fun c => ?_) (fun c => ?_)
    · rw [if_pos c] at h
      refine x_aload_n dX11_decide_12 0 rfl ?_
      refine y_geti fl_RX11_232 dX11_decide_13 rfl k0 ?_
      refine x_if_ne 35 dX11_decide_16 (by decide) (fun c => ?_) (fun c => ?_)
      · rw [if_neg c] at h
        exact t_X11_decide_35 hS k0 h
      · rw [if_pos c] at h
        refine x_aload_n dX11_decide_19 0 rfl ?_
        refine y_getr (kd := 0) hS fl_RX11_77 dX11_decide_20 rfl k0 ?_
        refine x_aload_n dX11_decide_23 0 rfl ?_
        refine y_getr (kd := 2) hS fl_RX11_42 dX11_decide_24 rfl k0 ?_
        refine xbnd_e h (fun q1 e1 h => ?_)
        refine y_callVv (As := [.ref (xr S v0 4)]) (q := q1) cv_RX11_235 dX11_decide_27 ((hS.f k0 9 0 rfl).2) rfl (Nat.le_of_ble_eq_true rfl) (by omega) (S_X0_work hS ((hS.f k0 9 0 rfl).2) ((hS.f k0 4 2 rfl).2) e1) ?_
        refine x_aload_n dX11_decide_30 0 rfl ?_
        refine x_iconst 1 dX11_decide_31 (by decide) ?_
        refine xlet_e h (fun D2 eD2 h => ?_)
        refine y_putz rfl fp_RX11_232 dX11_decide_32 rfl k0 eD2 ?_
        exact t_X11_decide_35 hS k0 h
    · rw [if_neg c] at h
      refine x_iconst (-1) dX11_decide_10 (by decide) ?_
      obtain rfl := Option.some.inj h
      exact y_iret rfl dX11_decide_11

theorem dX11_count_0 : decode cX11_count 0 = .ok (.iload_n 1, 1) := by decide +kernel
theorem dX11_count_1 : decode cX11_count 1 = .ok (.tableswitch 91 0 5 #[39, 47, 55, 63, 71, 79], 39) := by decide +kernel
theorem dX11_count_40 : decode cX11_count 40 = .ok (.aload_n 0, 1) := by decide +kernel
theorem dX11_count_41 : decode cX11_count 41 = .ok (.getfield 10, 3) := by decide +kernel
theorem dX11_count_44 : decode cX11_count 44 = .ok (.getfield 92, 3) := by decide +kernel
theorem dX11_count_47 : decode cX11_count 47 = .ok (.ireturn, 1) := by decide +kernel
theorem dX11_count_48 : decode cX11_count 48 = .ok (.aload_n 0, 1) := by decide +kernel
theorem dX11_count_49 : decode cX11_count 49 = .ok (.getfield 26, 3) := by decide +kernel
theorem dX11_count_52 : decode cX11_count 52 = .ok (.getfield 191, 3) := by decide +kernel
theorem dX11_count_55 : decode cX11_count 55 = .ok (.ireturn, 1) := by decide +kernel
theorem dX11_count_56 : decode cX11_count 56 = .ok (.aload_n 0, 1) := by decide +kernel
theorem dX11_count_57 : decode cX11_count 57 = .ok (.getfield 42, 3) := by decide +kernel
theorem dX11_count_60 : decode cX11_count 60 = .ok (.getfield 186, 3) := by decide +kernel
theorem dX11_count_63 : decode cX11_count 63 = .ok (.ireturn, 1) := by decide +kernel
theorem dX11_count_64 : decode cX11_count 64 = .ok (.aload_n 0, 1) := by decide +kernel
theorem dX11_count_65 : decode cX11_count 65 = .ok (.getfield 33, 3) := by decide +kernel
theorem dX11_count_68 : decode cX11_count 68 = .ok (.getfield 242, 3) := by decide +kernel
theorem dX11_count_71 : decode cX11_count 71 = .ok (.ireturn, 1) := by decide +kernel
theorem dX11_count_72 : decode cX11_count 72 = .ok (.aload_n 0, 1) := by decide +kernel
theorem dX11_count_73 : decode cX11_count 73 = .ok (.getfield 19, 3) := by decide +kernel
theorem dX11_count_76 : decode cX11_count 76 = .ok (.getfield 207, 3) := by decide +kernel
theorem dX11_count_79 : decode cX11_count 79 = .ok (.ireturn, 1) := by decide +kernel
theorem dX11_count_80 : decode cX11_count 80 = .ok (.aload_n 0, 1) := by decide +kernel
theorem dX11_count_81 : decode cX11_count 81 = .ok (.getfield 42, 3) := by decide +kernel
theorem dX11_count_84 : decode cX11_count 84 = .ok (.aload_n 0, 1) := by decide +kernel
theorem dX11_count_85 : decode cX11_count 85 = .ok (.getfield 85, 3) := by decide +kernel
theorem dX11_count_88 : decode cX11_count 88 = .ok (.invokevirtual 243, 3) := by decide +kernel
theorem dX11_count_91 : decode cX11_count 91 = .ok (.ireturn, 1) := by decide +kernel
theorem dX11_count_92 : decode cX11_count 92 = .ok (.iconst (-1), 1) := by decide +kernel
theorem dX11_count_93 : decode cX11_count 93 = .ok (.ireturn, 1) := by decide +kernel
def f_X11_count (F P : Nat) (S : xSt) (v0 : Nat) (v1 : Int32) (D : xDt) : Option (Int32 × xDt) :=
  if v1 = 0 then (some (D.1 (xr S v0 0) 0, D)) else (if v1 = 1 then (some (D.1 (xr S v0 2) 0, D)) else (if v1 = 2 then (some (D.1 (xr S v0 4) 1, D)) else (if v1 = 3 then (some (D.1 (xr S v0 3) 1, D)) else (if v1 = 4 then (some (D.1 (xr S v0 1) 2, D)) else (if v1 = 5 then ((f_X2_depth F P S (xr S v0 4) (xr S v0 11) D).bind fun q1 => some (q1.1, q1.2)) else (some ((-1), D)))))))
set_option maxHeartbeats 4000000 in
theorem S_X11_count {F P : Nat} {S : xSt} (hS : xWF S) {v0 : Nat} {v1 : Int32} {D : xDt} {r : Int32 × xDt} (k0 : xK S v0 11) (h : f_X11_count F P S v0 v1 D = some r) : xSp md_X11_count (3, 0, 0) [.ref v0, .int v1] (S, D) (xQi S r) := by
  unfold f_X11_count at h
  refine xEntry (by decide) (Nat.le_of_ble_eq_true rfl) ?_
  refine x_lv (lv' := [(0, .ref v0), (1, .int v1)]) [0, 1] rfl ?_
  refine x_iload_n dX11_count_0 1 rfl ?_
  by_cases c0 : v1 = 0
  · rw [if_pos c0] at h
    refine x_tsIn 0 40 c0 dX11_count_1 (by decide) (by decide) rfl (by decide) ?_
    refine x_aload_n dX11_count_40 0 rfl ?_
    refine y_getr (kd := 10) hS fl_RX11_10 dX11_count_41 rfl k0 ?_
    refine y_geti fl_RX11_92 dX11_count_44 rfl ((hS.f k0 0 10 rfl).2) ?_
    obtain rfl := Option.some.inj h
    exact y_iret rfl dX11_count_47
  · rw [if_neg c0] at h
    by_cases c1 : v1 = 1
    · rw [if_pos c1] at h
      refine x_tsIn 1 48 c1 dX11_count_1 (by decide) (by decide) rfl (by decide) ?_
      refine x_aload_n dX11_count_48 0 rfl ?_
      refine y_getr (kd := 1) hS fl_RX11_26 dX11_count_49 rfl k0 ?_
      refine y_geti fl_RX11_191 dX11_count_52 rfl ((hS.f k0 2 1 rfl).2) ?_
      obtain rfl := Option.some.inj h
      exact y_iret rfl dX11_count_55
    · rw [if_neg c1] at h
      by_cases c2 : v1 = 2
      · rw [if_pos c2] at h
        refine x_tsIn 2 56 c2 dX11_count_1 (by decide) (by decide) rfl (by decide) ?_
        refine x_aload_n dX11_count_56 0 rfl ?_
        refine y_getr (kd := 2) hS fl_RX11_42 dX11_count_57 rfl k0 ?_
        refine y_geti fl_RX11_186 dX11_count_60 rfl ((hS.f k0 4 2 rfl).2) ?_
        obtain rfl := Option.some.inj h
        exact y_iret rfl dX11_count_63
      · rw [if_neg c2] at h
        by_cases c3 : v1 = 3
        · rw [if_pos c3] at h
          refine x_tsIn 3 64 c3 dX11_count_1 (by decide) (by decide) rfl (by decide) ?_
          refine x_aload_n dX11_count_64 0 rfl ?_
          refine y_getr (kd := 6) hS fl_RX11_33 dX11_count_65 rfl k0 ?_
          refine y_geti fl_RX11_242 dX11_count_68 rfl ((hS.f k0 3 6 rfl).2) ?_
          obtain rfl := Option.some.inj h
          exact y_iret rfl dX11_count_71
        · rw [if_neg c3] at h
          by_cases c4 : v1 = 4
          · rw [if_pos c4] at h
            refine x_tsIn 4 72 c4 dX11_count_1 (by decide) (by decide) rfl (by decide) ?_
            refine x_aload_n dX11_count_72 0 rfl ?_
            refine y_getr (kd := 5) hS fl_RX11_19 dX11_count_73 rfl k0 ?_
            refine y_geti fl_RX11_207 dX11_count_76 rfl ((hS.f k0 1 5 rfl).2) ?_
            obtain rfl := Option.some.inj h
            exact y_iret rfl dX11_count_79
          · rw [if_neg c4] at h
            by_cases c5 : v1 = 5
            · rw [if_pos c5] at h
              refine x_tsIn 5 80 c5 dX11_count_1 (by decide) (by decide) rfl (by decide) ?_
              refine x_aload_n dX11_count_80 0 rfl ?_
              refine y_getr (kd := 2) hS fl_RX11_42 dX11_count_81 rfl k0 ?_
              refine x_aload_n dX11_count_84 0 rfl ?_
              refine y_getr (kd := 100) hS fl_RX11_85 dX11_count_85 rfl k0 ?_
              refine xbnd_e h (fun q1 e1 h => ?_)
              refine y_callVi (As := [.ref (xr S v0 11)]) (q := q1) cv_RX11_243 dX11_count_88 ((hS.f k0 4 2 rfl).2) rfl (Nat.le_of_ble_eq_true rfl) (by omega) (S_X2_depth hS ((hS.f k0 4 2 rfl).2) ((hS.f k0 11 100 rfl).2) e1) ?_
              obtain rfl := Option.some.inj h
              exact y_iret rfl dX11_count_91
            · rw [if_neg c5] at h
              refine x_tsOut 92 dX11_count_1 (by have := lv_neT c0 (a := 0) (by decide); have := lv_neT c1 (a := 1) (by decide); have := lv_neT c2 (a := 2) (by decide); have := lv_neT c3 (a := 3) (by decide); have := lv_neT c4 (a := 4) (by decide); have := lv_neT c5 (a := 5) (by decide); omega) (by decide) ?_
              refine x_iconst (-1) dX11_count_92 (by decide) ?_
              obtain rfl := Option.some.inj h
              exact y_iret rfl dX11_count_93

theorem dX12_in_0 : decode cX12_in 0 = .ok (.iload_n 0, 1) := by decide +kernel
theorem dX12_in_1 : decode cX12_in 1 = .ok (.iload_n 1, 1) := by decide +kernel
theorem dX12_in_2 : decode cX12_in 2 = .ok (.if_icmp .lt 12, 3) := by decide +kernel
theorem dX12_in_5 : decode cX12_in 5 = .ok (.iload_n 0, 1) := by decide +kernel
theorem dX12_in_6 : decode cX12_in 6 = .ok (.iload_n 2, 1) := by decide +kernel
theorem dX12_in_7 : decode cX12_in 7 = .ok (.if_icmp .gt 7, 3) := by decide +kernel
theorem dX12_in_10 : decode cX12_in 10 = .ok (.iconst 1, 1) := by decide +kernel
theorem dX12_in_11 : decode cX12_in 11 = .ok (.goto 4, 3) := by decide +kernel
theorem dX12_in_14 : decode cX12_in 14 = .ok (.iconst 0, 1) := by decide +kernel
theorem dX12_in_15 : decode cX12_in 15 = .ok (.ireturn, 1) := by decide +kernel
def f_X12_in_14 (F P : Nat) (S : xSt) (D : xDt) : Option (Int32 × xDt) :=
  some (0, D)
set_option maxHeartbeats 4000000 in
theorem t_X12_in_14 {F P : Nat} {S : xSt} (hS : xWF S) {D : xDt} {r : Int32 × xDt} (h : f_X12_in_14 F P S D = some r) : yEx md_X12_in 0 14 [] [] S D (xQi S r) := by
  unfold f_X12_in_14 at h
  refine x_iconst 0 dX12_in_14 (by decide) ?_
  obtain rfl := Option.some.inj h
  exact y_zret rfl rfl dX12_in_15

def f_X12_in (F P : Nat) (S : xSt) (v0 : Int32) (v1 : Int32) (v2 : Int32) (D : xDt) : Option (Int32 × xDt) :=
  if v0 < v1 then (f_X12_in_14 F P S D) else (if v2 < v0 then (f_X12_in_14 F P S D) else (some (1, D)))
set_option maxHeartbeats 4000000 in
theorem S_X12_in {F P : Nat} {S : xSt} (hS : xWF S) {v0 : Int32} {v1 : Int32} {v2 : Int32} {D : xDt} {r : Int32 × xDt} (h : f_X12_in F P S v0 v1 v2 D = some r) : xSp md_X12_in (0, 0, 0) [.int v0, .int v1, .int v2] (S, D) (xQi S r) := by
  unfold f_X12_in at h
  refine xEntry (by decide) (Nat.le_of_ble_eq_true rfl) ?_
  refine x_lv (lv' := [(0, .int v0), (1, .int v1), (2, .int v2)]) [0, 1, 2] rfl ?_
  refine x_iload_n dX12_in_0 0 rfl ?_
  refine x_iload_n dX12_in_1 1 rfl ?_
  refine x_icmp_lt 14 dX12_in_2 (by decide) (fun c => ?_) (fun c => ?_)
  · rw [if_pos c] at h
    refine x_lv (lv' := []) [] rfl ?_
    exact t_X12_in_14 hS h
  · rw [if_neg c] at h
    refine x_iload_n dX12_in_5 0 rfl ?_
    refine x_iload_n dX12_in_6 2 rfl ?_
    refine x_icmp_gt 14 dX12_in_7 (by decide) (fun c => ?_) (fun c => ?_)
    · rw [if_pos c] at h
      refine x_lv (lv' := []) [] rfl ?_
      exact t_X12_in_14 hS h
    · rw [if_neg c] at h
      refine x_iconst 1 dX12_in_10 (by decide) ?_
      refine x_goto 15 dX12_in_11 (by decide) ?_
      obtain rfl := Option.some.inj h
      exact y_zret rfl rfl dX12_in_15

theorem dX12_isWorld_0 : decode cX12_isWorld 0 = .ok (.iload_n 1, 1) := by decide +kernel
theorem dX12_isWorld_1 : decode cX12_isWorld 1 = .ok (.iconst 0, 1) := by decide +kernel
theorem dX12_isWorld_2 : decode cX12_isWorld 2 = .ok (.aload_n 0, 1) := by decide +kernel
theorem dX12_isWorld_3 : decode cX12_isWorld 3 = .ok (.getfield 7, 3) := by decide +kernel
theorem dX12_isWorld_6 : decode cX12_isWorld 6 = .ok (.iconst 1, 1) := by decide +kernel
theorem dX12_isWorld_7 : decode cX12_isWorld 7 = .ok (.isub, 1) := by decide +kernel
theorem dX12_isWorld_8 : decode cX12_isWorld 8 = .ok (.invokestatic 10, 3) := by decide +kernel
theorem dX12_isWorld_11 : decode cX12_isWorld 11 = .ok (.ireturn, 1) := by decide +kernel
def f_X12_isWorld (F P : Nat) (S : xSt) (v0 : Nat) (v1 : Int32) (D : xDt) : Option (Int32 × xDt) :=
  (f_X12_in F P S v1 0 ((D.1 v0 1) - 1) D).bind fun q1 => xgrd (xb q1.1) (some (q1.1, q1.2))
set_option maxHeartbeats 4000000 in
theorem S_X12_isWorld {F P : Nat} {S : xSt} (hS : xWF S) {v0 : Nat} {v1 : Int32} {D : xDt} {r : Int32 × xDt} (k0 : xK S v0 12) (h : f_X12_isWorld F P S v0 v1 D = some r) : xSp md_X12_isWorld (1, 0, 0) [.ref v0, .int v1] (S, D) (xQi S r) := by
  unfold f_X12_isWorld at h
  refine xEntry (by decide) (Nat.le_of_ble_eq_true rfl) ?_
  refine x_lv (lv' := [(0, .ref v0), (1, .int v1)]) [0, 1] rfl ?_
  refine x_iload_n dX12_isWorld_0 1 rfl ?_
  refine x_iconst 0 dX12_isWorld_1 (by decide) ?_
  refine x_aload_n dX12_isWorld_2 0 rfl ?_
  refine y_geti fl_RX12_7 dX12_isWorld_3 rfl k0 ?_
  refine x_iconst 1 dX12_isWorld_6 (by decide) ?_
  refine x_isub dX12_isWorld_7 ?_
  refine xbnd_e h (fun q1 e1 h => ?_)
  refine y_callSi (As := [.int v1, .int 0, .int ((D.1 v0 1) - 1)]) (q := q1) cs_RX12_10 dX12_isWorld_8 rfl (Nat.le_of_ble_eq_true rfl) (by omega) (S_X12_in hS e1) ?_
  refine xgrd_e h (fun g2 h => ?_)
  obtain rfl := Option.some.inj h
  exact y_zret rfl g2 dX12_isWorld_11

theorem dX12_isAgent_0 : decode cX12_isAgent 0 = .ok (.iload_n 0, 1) := by decide +kernel
theorem dX12_isAgent_1 : decode cX12_isAgent 1 = .ok (.iconst 1, 1) := by decide +kernel
theorem dX12_isAgent_2 : decode cX12_isAgent 2 = .ok (.iconst 4, 1) := by decide +kernel
theorem dX12_isAgent_3 : decode cX12_isAgent 3 = .ok (.invokestatic 10, 3) := by decide +kernel
theorem dX12_isAgent_6 : decode cX12_isAgent 6 = .ok (.ireturn, 1) := by decide +kernel
def f_X12_isAgent (F P : Nat) (S : xSt) (v0 : Int32) (D : xDt) : Option (Int32 × xDt) :=
  (f_X12_in F P S v0 1 4 D).bind fun q1 => xgrd (xb q1.1) (some (q1.1, q1.2))
set_option maxHeartbeats 4000000 in
theorem S_X12_isAgent {F P : Nat} {S : xSt} (hS : xWF S) {v0 : Int32} {D : xDt} {r : Int32 × xDt} (h : f_X12_isAgent F P S v0 D = some r) : xSp md_X12_isAgent (1, 0, 0) [.int v0] (S, D) (xQi S r) := by
  unfold f_X12_isAgent at h
  refine xEntry (by decide) (Nat.le_of_ble_eq_true rfl) ?_
  refine x_lv (lv' := [(0, .int v0)]) [0] rfl ?_
  refine x_iload_n dX12_isAgent_0 0 rfl ?_
  refine x_iconst 1 dX12_isAgent_1 (by decide) ?_
  refine x_iconst 4 dX12_isAgent_2 (by decide) ?_
  refine xbnd_e h (fun q1 e1 h => ?_)
  refine y_callSi (As := [.int v0, .int 1, .int 4]) (q := q1) cs_RX12_10 dX12_isAgent_3 rfl (Nat.le_of_ble_eq_true rfl) (by omega) (S_X12_in hS e1) ?_
  refine xgrd_e h (fun g2 h => ?_)
  obtain rfl := Option.some.inj h
  exact y_zret rfl g2 dX12_isAgent_6

theorem dX12_cell_0 : decode cX12_cell 0 = .ok (.aload_n 0, 1) := by decide +kernel
theorem dX12_cell_1 : decode cX12_cell 1 = .ok (.getfield 14, 3) := by decide +kernel
theorem dX12_cell_4 : decode cX12_cell 4 = .ok (.bipush 64, 2) := by decide +kernel
theorem dX12_cell_6 : decode cX12_cell 6 = .ok (.iload_n 1, 1) := by decide +kernel
theorem dX12_cell_7 : decode cX12_cell 7 = .ok (.iconst 1, 1) := by decide +kernel
theorem dX12_cell_8 : decode cX12_cell 8 = .ok (.isub, 1) := by decide +kernel
theorem dX12_cell_9 : decode cX12_cell 9 = .ok (.imul, 1) := by decide +kernel
theorem dX12_cell_10 : decode cX12_cell 10 = .ok (.iload_n 2, 1) := by decide +kernel
theorem dX12_cell_11 : decode cX12_cell 11 = .ok (.iadd, 1) := by decide +kernel
theorem dX12_cell_12 : decode cX12_cell 12 = .ok (.iaload, 1) := by decide +kernel
theorem dX12_cell_13 : decode cX12_cell 13 = .ok (.ireturn, 1) := by decide +kernel
def f_X12_cell (F P : Nat) (S : xSt) (v0 : Nat) (v1 : Int32) (v2 : Int32) (D : xDt) : Option (Int32 × xDt) :=
  xgrd (xin ((64 * (v1 - 1)) + v2) (xl S (xr S v0 3))) (some (D.1 (xr S v0 3) ((64 * (v1 - 1)) + v2).toNatClampNeg, D))
set_option maxHeartbeats 4000000 in
theorem S_X12_cell {F P : Nat} {S : xSt} (hS : xWF S) {v0 : Nat} {v1 : Int32} {v2 : Int32} {D : xDt} {r : Int32 × xDt} (k0 : xK S v0 12) (h : f_X12_cell F P S v0 v1 v2 D = some r) : xSp md_X12_cell (0, 0, 0) [.ref v0, .int v1, .int v2] (S, D) (xQi S r) := by
  unfold f_X12_cell at h
  refine xEntry (by decide) (Nat.le_of_ble_eq_true rfl) ?_
  refine x_lv (lv' := [(0, .ref v0), (1, .int v1), (2, .int v2)]) [0, 1, 2] rfl ?_
  refine x_aload_n dX12_cell_0 0 rfl ?_
  refine y_getr (kd := 100) hS fl_RX12_14 dX12_cell_1 rfl k0 ?_
  refine x_bipush 64 dX12_cell_4 (by decide) ?_
  refine x_iload_n dX12_cell_6 1 rfl ?_
  refine x_iconst 1 dX12_cell_7 (by decide) ?_
  refine x_isub dX12_cell_8 ?_
  refine x_imul dX12_cell_9 ?_
  refine x_iload_n dX12_cell_10 2 rfl ?_
  refine x_iadd dX12_cell_11 ?_
  refine xgrd_e h (fun g1 h => ?_)
  refine y_iald dX12_cell_12 ((hS.f k0 3 100 rfl).2) g1 ?_
  obtain rfl := Option.some.inj h
  exact y_iret rfl dX12_cell_13

theorem dX12_cellOf_0 : decode cX12_cellOf 0 = .ok (.lconst 0, 1) := by decide +kernel
theorem dX12_cellOf_1 : decode cX12_cellOf 1 = .ok (.lstore_n 3, 1) := by decide +kernel
theorem dX12_cellOf_2 : decode cX12_cellOf 2 = .ok (.iconst 0, 1) := by decide +kernel
theorem dX12_cellOf_3 : decode cX12_cellOf 3 = .ok (.istore 5, 2) := by decide +kernel
theorem dX12_cellOf_5 : decode cX12_cellOf 5 = .ok (.iload 5, 2) := by decide +kernel
theorem dX12_cellOf_7 : decode cX12_cellOf 7 = .ok (.aload_n 0, 1) := by decide +kernel
theorem dX12_cellOf_8 : decode cX12_cellOf 8 = .ok (.getfield 7, 3) := by decide +kernel
theorem dX12_cellOf_11 : decode cX12_cellOf 11 = .ok (.if_icmp .ge 36, 3) := by decide +kernel
theorem dX12_cellOf_14 : decode cX12_cellOf 14 = .ok (.lload_n 3, 1) := by decide +kernel
theorem dX12_cellOf_15 : decode cX12_cellOf 15 = .ok (.aload_n 0, 1) := by decide +kernel
theorem dX12_cellOf_16 : decode cX12_cellOf 16 = .ok (.iload_n 1, 1) := by decide +kernel
theorem dX12_cellOf_17 : decode cX12_cellOf 17 = .ok (.iload 5, 2) := by decide +kernel
theorem dX12_cellOf_19 : decode cX12_cellOf 19 = .ok (.invokevirtual 18, 3) := by decide +kernel
theorem dX12_cellOf_22 : decode cX12_cellOf 22 = .ok (.aload_n 0, 1) := by decide +kernel
theorem dX12_cellOf_23 : decode cX12_cellOf 23 = .ok (.iload_n 1, 1) := by decide +kernel
theorem dX12_cellOf_24 : decode cX12_cellOf 24 = .ok (.iload_n 2, 1) := by decide +kernel
theorem dX12_cellOf_25 : decode cX12_cellOf 25 = .ok (.invokevirtual 18, 3) := by decide +kernel
theorem dX12_cellOf_28 : decode cX12_cellOf 28 = .ok (.if_icmp .ne 10, 3) := by decide +kernel
theorem dX12_cellOf_31 : decode cX12_cellOf 31 = .ok (.lconst 1, 1) := by decide +kernel
theorem dX12_cellOf_32 : decode cX12_cellOf 32 = .ok (.iload 5, 2) := by decide +kernel
theorem dX12_cellOf_34 : decode cX12_cellOf 34 = .ok (.lshl, 1) := by decide +kernel
theorem dX12_cellOf_35 : decode cX12_cellOf 35 = .ok (.goto 4, 3) := by decide +kernel
theorem dX12_cellOf_38 : decode cX12_cellOf 38 = .ok (.lconst 0, 1) := by decide +kernel
theorem dX12_cellOf_39 : decode cX12_cellOf 39 = .ok (.lor, 1) := by decide +kernel
theorem dX12_cellOf_40 : decode cX12_cellOf 40 = .ok (.lstore_n 3, 1) := by decide +kernel
theorem dX12_cellOf_41 : decode cX12_cellOf 41 = .ok (.iinc 5 1, 3) := by decide +kernel
theorem dX12_cellOf_44 : decode cX12_cellOf 44 = .ok (.goto (-39), 3) := by decide +kernel
theorem dX12_cellOf_47 : decode cX12_cellOf 47 = .ok (.lload_n 3, 1) := by decide +kernel
theorem dX12_cellOf_48 : decode cX12_cellOf 48 = .ok (.lreturn, 1) := by decide +kernel
def f_X12_cellOf_39 (F P : Nat) (S : xSt) (rec_5 : Nat → Int32 → Int32 → Int64 → Int32 → xDt → Option (Int64 × xDt)) (v0 : Nat) (v1 : Int32) (v2 : Int32) (v5 : Int32) (s0 : Int64) (s1 : Int64) (D : xDt) : Option (Int64 × xDt) :=
  xlet (s1 ||| s0) fun v3_1 => xlet (v5 + 1) fun v5_2 => rec_5 v0 v1 v2 v3_1 v5_2 D
set_option maxHeartbeats 4000000 in
theorem t_X12_cellOf_39 {F P : Nat} {S : xSt} (hS : xWF S) {rec_5 : Nat → Int32 → Int32 → Int64 → Int32 → xDt → Option (Int64 × xDt)} (hrec_5 : ∀ {v0 : Nat} {v1 : Int32} {v2 : Int32} {v3 : Int64} {v5 : Int32} {D : xDt} {r : Int64 × xDt}, xK S v0 12 → rec_5 v0 v1 v2 v3 v5 D = some r → yEx md_X12_cellOf 1 5 [(0, .ref v0), (1, .int v1), (2, .int v2), (3, .long v3), (5, .int v5)] [] S D (xQl S r)) {v0 : Nat} {v1 : Int32} {v2 : Int32} {v5 : Int32} {s0 : Int64} {s1 : Int64} {D : xDt} {r : Int64 × xDt} (k0 : xK S v0 12) (h : f_X12_cellOf_39 F P S rec_5 v0 v1 v2 v5 s0 s1 D = some r) : yEx md_X12_cellOf 1 39 [(0, .ref v0), (1, .int v1), (2, .int v2), (5, .int v5)] [.long s0, .long s1] S D (xQl S r) := by
  unfold f_X12_cellOf_39 at h
  refine x_lor dX12_cellOf_39 ?_
  refine xlet_e h (fun v3_1 ev3_1 h => ?_)
  refine y_lstore_n v3_1 ev3_1 [(3, .long v3_1), (0, .ref v0), (1, .int v1), (2, .int v2), (5, .int v5)] dX12_cellOf_40 (by show _ < 6; decide) rfl ?_
  refine xlet_e h (fun v5_2 ev5_2 h => ?_)
  refine y_iinc v5_2 ev5_2 (by decide) [(5, .int v5_2), (3, .long v3_1), (0, .ref v0), (1, .int v1), (2, .int v2)] dX12_cellOf_41 4 rfl (by show _ < 6; decide) rfl ?_
  refine x_goto 5 dX12_cellOf_44 (by decide) ?_
  refine x_lv (lv' := [(0, .ref v0), (1, .int v1), (2, .int v2), (3, .long v3_1), (5, .int v5_2)]) [2, 3, 4, 1, 0] rfl ?_
  exact hrec_5 k0 h

def f_X12_cellOf_5s (F P : Nat) (S : xSt) (rec_5 : Nat → Int32 → Int32 → Int64 → Int32 → xDt → Option (Int64 × xDt)) (v0 : Nat) (v1 : Int32) (v2 : Int32) (v3 : Int64) (v5 : Int32) (D : xDt) : Option (Int64 × xDt) :=
  if (D.1 v0 1) ≤ v5 then (some (v3, D)) else ((f_X12_cell F P S v0 v1 v5 D).bind fun q1 => (f_X12_cell F P S v0 v1 v2 q1.2).bind fun q2 => if q1.1 = q2.1 then (f_X12_cellOf_39 F P S rec_5 v0 v1 v2 v5 (jlshl 1 v5) v3 q2.2) else (f_X12_cellOf_39 F P S rec_5 v0 v1 v2 v5 0 v3 q2.2))
def f_X12_cellOf_5 (F P : Nat) (S : xSt) : Nat → Nat → Int32 → Int32 → Int64 → Int32 → xDt → Option (Int64 × xDt)
  | 0 => fun _ _ _ _ _ _ => none
  | n + 1 => f_X12_cellOf_5s F P S (f_X12_cellOf_5 F P S n)
set_option maxHeartbeats 4000000 in
theorem t_X12_cellOf_5s {F P : Nat} {S : xSt} (hS : xWF S) {rec_5 : Nat → Int32 → Int32 → Int64 → Int32 → xDt → Option (Int64 × xDt)} (hrec_5 : ∀ {v0 : Nat} {v1 : Int32} {v2 : Int32} {v3 : Int64} {v5 : Int32} {D : xDt} {r : Int64 × xDt}, xK S v0 12 → rec_5 v0 v1 v2 v3 v5 D = some r → yEx md_X12_cellOf 1 5 [(0, .ref v0), (1, .int v1), (2, .int v2), (3, .long v3), (5, .int v5)] [] S D (xQl S r)) {v0 : Nat} {v1 : Int32} {v2 : Int32} {v3 : Int64} {v5 : Int32} {D : xDt} {r : Int64 × xDt} (k0 : xK S v0 12) (h : f_X12_cellOf_5s F P S rec_5 v0 v1 v2 v3 v5 D = some r) : yEx md_X12_cellOf 1 5 [(0, .ref v0), (1, .int v1), (2, .int v2), (3, .long v3), (5, .int v5)] [] S D (xQl S r) := by
  unfold f_X12_cellOf_5s at h
  refine x_iload dX12_cellOf_5 4 rfl ?_
  refine x_aload_n dX12_cellOf_7 0 rfl ?_
  refine y_geti fl_RX12_7 dX12_cellOf_8 rfl k0 ?_
  refine x_icmp_ge 47 dX12_cellOf_11 (by decide) (fun c => ?_) (fun c => ?_)
  · rw [if_pos c] at h
    refine x_lload_n dX12_cellOf_47 3 rfl ?_
    obtain rfl := Option.some.inj h
    exact y_lret rfl dX12_cellOf_48
  · rw [if_neg c] at h
    refine x_lload_n dX12_cellOf_14 3 rfl ?_
    refine x_aload_n dX12_cellOf_15 0 rfl ?_
    refine x_iload_n dX12_cellOf_16 1 rfl ?_
    refine x_iload dX12_cellOf_17 4 rfl ?_
    refine xbnd_e h (fun q1 e1 h => ?_)
    refine y_callVi (As := [.int v1, .int v5]) (q := q1) cv_RX12_18 dX12_cellOf_19 k0 rfl (Nat.le_of_ble_eq_true rfl) (by omega) (S_X12_cell hS k0 e1) ?_
    refine x_aload_n dX12_cellOf_22 0 rfl ?_
    refine x_iload_n dX12_cellOf_23 1 rfl ?_
    refine x_iload_n dX12_cellOf_24 2 rfl ?_
    refine xbnd_e h (fun q2 e2 h => ?_)
    refine y_callVi (As := [.int v1, .int v2]) (q := q2) cv_RX12_18 dX12_cellOf_25 k0 rfl (Nat.le_of_ble_eq_true rfl) (by omega) (S_X12_cell hS k0 e2) ?_
    refine x_icmp_ne 38 dX12_cellOf_28 (by decide) (fun c => ?_) (fun c => ?_)
    · rw [if_neg c] at h
      refine x_lconst 0 dX12_cellOf_38 (by decide) ?_
      refine x_lv (lv' := [(0, .ref v0), (1, .int v1), (2, .int v2), (5, .int v5)]) [0, 1, 2, 4] rfl ?_
      exact t_X12_cellOf_39 hS hrec_5 k0 h
    · rw [if_pos c] at h
      refine x_lconst 1 dX12_cellOf_31 (by decide) ?_
      refine x_iload dX12_cellOf_32 4 rfl ?_
      refine x_lshl dX12_cellOf_34 ?_
      refine x_goto 39 dX12_cellOf_35 (by decide) ?_
      refine x_lv (lv' := [(0, .ref v0), (1, .int v1), (2, .int v2), (5, .int v5)]) [0, 1, 2, 4] rfl ?_
      exact t_X12_cellOf_39 hS hrec_5 k0 h
theorem t_X12_cellOf_5 {F P : Nat} {S : xSt} (hS : xWF S) : ∀ (n : Nat) {v0 : Nat} {v1 : Int32} {v2 : Int32} {v3 : Int64} {v5 : Int32} {D : xDt} {r : Int64 × xDt}, xK S v0 12 → f_X12_cellOf_5 F P S n v0 v1 v2 v3 v5 D = some r → yEx md_X12_cellOf 1 5 [(0, .ref v0), (1, .int v1), (2, .int v2), (3, .long v3), (5, .int v5)] [] S D (xQl S r) := by
  intro n
  induction n with
  | zero => intros; rename_i h; cases h
  | succ n ih =>
    intro v0 v1 v2 v3 v5 D r k0 h
    exact t_X12_cellOf_5s hS (fun k0 h => ih k0 h) k0 h

def f_X12_cellOf (F P : Nat) (S : xSt) (v0 : Nat) (v1 : Int32) (v2 : Int32) (D : xDt) : Option (Int64 × xDt) :=
  f_X12_cellOf_5 F P S F v0 v1 v2 0 0 D
set_option maxHeartbeats 4000000 in
theorem S_X12_cellOf {F P : Nat} {S : xSt} (hS : xWF S) {v0 : Nat} {v1 : Int32} {v2 : Int32} {D : xDt} {r : Int64 × xDt} (k0 : xK S v0 12) (h : f_X12_cellOf F P S v0 v1 v2 D = some r) : xSp md_X12_cellOf (1, 0, 0) [.ref v0, .int v1, .int v2] (S, D) (xQl S r) := by
  unfold f_X12_cellOf at h
  refine xEntry (by decide) (Nat.le_of_ble_eq_true rfl) ?_
  refine x_lv (lv' := [(0, .ref v0), (1, .int v1), (2, .int v2)]) [0, 1, 2] rfl ?_
  refine x_lconst 0 dX12_cellOf_0 (by decide) ?_
  refine y_lstore_n 0 rfl [(3, .long 0), (0, .ref v0), (1, .int v1), (2, .int v2)] dX12_cellOf_1 (by show _ < 6; decide) rfl ?_
  refine x_iconst 0 dX12_cellOf_2 (by decide) ?_
  refine y_istore 0 rfl [(5, .int 0), (3, .long 0), (0, .ref v0), (1, .int v1), (2, .int v2)] dX12_cellOf_3 (by show _ < 6; decide) rfl ?_
  refine x_lv (lv' := [(0, .ref v0), (1, .int v1), (2, .int v2), (3, .long 0), (5, .int 0)]) [2, 3, 4, 1, 0] rfl ?_
  exact t_X12_cellOf_5 hS F k0 h

theorem dX12_least_0 : decode cX12_least 0 = .ok (.iconst 0, 1) := by decide +kernel
theorem dX12_least_1 : decode cX12_least 1 = .ok (.istore_n 2, 1) := by decide +kernel
theorem dX12_least_2 : decode cX12_least 2 = .ok (.iload_n 2, 1) := by decide +kernel
theorem dX12_least_3 : decode cX12_least 3 = .ok (.bipush 64, 2) := by decide +kernel
theorem dX12_least_5 : decode cX12_least 5 = .ok (.if_icmp .ge 19, 3) := by decide +kernel
theorem dX12_least_8 : decode cX12_least 8 = .ok (.lload_n 0, 1) := by decide +kernel
theorem dX12_least_9 : decode cX12_least 9 = .ok (.iload_n 2, 1) := by decide +kernel
theorem dX12_least_10 : decode cX12_least 10 = .ok (.lushr, 1) := by decide +kernel
theorem dX12_least_11 : decode cX12_least 11 = .ok (.lconst 1, 1) := by decide +kernel
theorem dX12_least_12 : decode cX12_least 12 = .ok (.land, 1) := by decide +kernel
theorem dX12_least_13 : decode cX12_least 13 = .ok (.lconst 0, 1) := by decide +kernel
theorem dX12_least_14 : decode cX12_least 14 = .ok (.lcmp, 1) := by decide +kernel
theorem dX12_least_15 : decode cX12_least 15 = .ok (.ifCond .ne 9, 3) := by decide +kernel
theorem dX12_least_18 : decode cX12_least 18 = .ok (.iinc 2 1, 3) := by decide +kernel
theorem dX12_least_21 : decode cX12_least 21 = .ok (.goto (-19), 3) := by decide +kernel
theorem dX12_least_24 : decode cX12_least 24 = .ok (.iload_n 2, 1) := by decide +kernel
theorem dX12_least_25 : decode cX12_least 25 = .ok (.ireturn, 1) := by decide +kernel
def f_X12_least_2s (F P : Nat) (S : xSt) (rec_2 : Int64 → Int32 → xDt → Option (Int32 × xDt)) (v0 : Int64) (v2 : Int32) (D : xDt) : Option (Int32 × xDt) :=
  if 64 ≤ v2 then (some (v2, D)) else (if (lg_cmp ((jlushr v0 v2) &&& 1) 0) = 0 then (xlet (v2 + 1) fun v2_1 => rec_2 v0 v2_1 D) else (some (v2, D)))
def f_X12_least_2 (F P : Nat) (S : xSt) : Nat → Int64 → Int32 → xDt → Option (Int32 × xDt)
  | 0 => fun _ _ _ => none
  | n + 1 => f_X12_least_2s F P S (f_X12_least_2 F P S n)
set_option maxHeartbeats 4000000 in
theorem t_X12_least_2s {F P : Nat} {S : xSt} (hS : xWF S) {rec_2 : Int64 → Int32 → xDt → Option (Int32 × xDt)} (hrec_2 : ∀ {v0 : Int64} {v2 : Int32} {D : xDt} {r : Int32 × xDt}, rec_2 v0 v2 D = some r → yEx md_X12_least 0 2 [(0, .long v0), (2, .int v2)] [] S D (xQi S r)) {v0 : Int64} {v2 : Int32} {D : xDt} {r : Int32 × xDt} (h : f_X12_least_2s F P S rec_2 v0 v2 D = some r) : yEx md_X12_least 0 2 [(0, .long v0), (2, .int v2)] [] S D (xQi S r) := by
  unfold f_X12_least_2s at h
  refine x_iload_n dX12_least_2 1 rfl ?_
  refine x_bipush 64 dX12_least_3 (by decide) ?_
  refine x_icmp_ge 24 dX12_least_5 (by decide) (fun c => ?_) (fun c => ?_)
  · rw [if_pos c] at h
    refine x_iload_n dX12_least_24 1 rfl ?_
    obtain rfl := Option.some.inj h
    exact y_iret rfl dX12_least_25
  · rw [if_neg c] at h
    refine x_lload_n dX12_least_8 0 rfl ?_
    refine x_iload_n dX12_least_9 1 rfl ?_
    refine x_lushr dX12_least_10 ?_
    refine x_lconst 1 dX12_least_11 (by decide) ?_
    refine x_land dX12_least_12 ?_
    refine x_lconst 0 dX12_least_13 (by decide) ?_
    refine x_lcmp dX12_least_14 ?_
    refine x_if_ne 24 dX12_least_15 (by decide) (fun c => ?_) (fun c => ?_)
    · rw [if_neg c] at h
      refine x_iload_n dX12_least_24 1 rfl ?_
      obtain rfl := Option.some.inj h
      exact y_iret rfl dX12_least_25
    · rw [if_pos c] at h
      refine xlet_e h (fun v2_1 ev2_1 h => ?_)
      refine y_iinc v2_1 ev2_1 (by decide) [(2, .int v2_1), (0, .long v0)] dX12_least_18 1 rfl (by show _ < 3; decide) rfl ?_
      refine x_goto 2 dX12_least_21 (by decide) ?_
      refine x_lv (lv' := [(0, .long v0), (2, .int v2_1)]) [1, 0] rfl ?_
      exact hrec_2 h
theorem t_X12_least_2 {F P : Nat} {S : xSt} (hS : xWF S) : ∀ (n : Nat) {v0 : Int64} {v2 : Int32} {D : xDt} {r : Int32 × xDt}, f_X12_least_2 F P S n v0 v2 D = some r → yEx md_X12_least 0 2 [(0, .long v0), (2, .int v2)] [] S D (xQi S r) := by
  intro n
  induction n with
  | zero => intros; rename_i h; cases h
  | succ n ih =>
    intro v0 v2 D r  h
    exact t_X12_least_2s hS (fun  h => ih  h)  h

def f_X12_least (F P : Nat) (S : xSt) (v0 : Int64) (D : xDt) : Option (Int32 × xDt) :=
  f_X12_least_2 F P S F v0 0 D
set_option maxHeartbeats 4000000 in
theorem S_X12_least {F P : Nat} {S : xSt} (hS : xWF S) {v0 : Int64} {D : xDt} {r : Int32 × xDt} (h : f_X12_least F P S v0 D = some r) : xSp md_X12_least (0, 0, 0) [.long v0] (S, D) (xQi S r) := by
  unfold f_X12_least at h
  refine xEntry (by decide) (Nat.le_of_ble_eq_true rfl) ?_
  refine x_lv (lv' := [(0, .long v0)]) [0] rfl ?_
  refine x_iconst 0 dX12_least_0 (by decide) ?_
  refine y_istore_n 0 rfl [(2, .int 0), (0, .long v0)] dX12_least_1 (by show _ < 3; decide) rfl ?_
  refine x_lv (lv' := [(0, .long v0), (2, .int 0)]) [1, 0] rfl ?_
  exact t_X12_least_2 hS F h

theorem dX12_size_0 : decode cX12_size 0 = .ok (.iconst 0, 1) := by decide +kernel
theorem dX12_size_1 : decode cX12_size 1 = .ok (.istore_n 2, 1) := by decide +kernel
theorem dX12_size_2 : decode cX12_size 2 = .ok (.iconst 0, 1) := by decide +kernel
theorem dX12_size_3 : decode cX12_size 3 = .ok (.istore_n 3, 1) := by decide +kernel
theorem dX12_size_4 : decode cX12_size 4 = .ok (.iload_n 3, 1) := by decide +kernel
theorem dX12_size_5 : decode cX12_size 5 = .ok (.bipush 64, 2) := by decide +kernel
theorem dX12_size_7 : decode cX12_size 7 = .ok (.if_icmp .ge 18, 3) := by decide +kernel
theorem dX12_size_10 : decode cX12_size 10 = .ok (.iload_n 2, 1) := by decide +kernel
theorem dX12_size_11 : decode cX12_size 11 = .ok (.lload_n 0, 1) := by decide +kernel
theorem dX12_size_12 : decode cX12_size 12 = .ok (.iload_n 3, 1) := by decide +kernel
theorem dX12_size_13 : decode cX12_size 13 = .ok (.lushr, 1) := by decide +kernel
theorem dX12_size_14 : decode cX12_size 14 = .ok (.lconst 1, 1) := by decide +kernel
theorem dX12_size_15 : decode cX12_size 15 = .ok (.land, 1) := by decide +kernel
theorem dX12_size_16 : decode cX12_size 16 = .ok (.l2i, 1) := by decide +kernel
theorem dX12_size_17 : decode cX12_size 17 = .ok (.iadd, 1) := by decide +kernel
theorem dX12_size_18 : decode cX12_size 18 = .ok (.istore_n 2, 1) := by decide +kernel
theorem dX12_size_19 : decode cX12_size 19 = .ok (.iinc 3 1, 3) := by decide +kernel
theorem dX12_size_22 : decode cX12_size 22 = .ok (.goto (-18), 3) := by decide +kernel
theorem dX12_size_25 : decode cX12_size 25 = .ok (.iload_n 2, 1) := by decide +kernel
theorem dX12_size_26 : decode cX12_size 26 = .ok (.ireturn, 1) := by decide +kernel
def f_X12_size_4s (F P : Nat) (S : xSt) (rec_4 : Int64 → Int32 → Int32 → xDt → Option (Int32 × xDt)) (v0 : Int64) (v2 : Int32) (v3 : Int32) (D : xDt) : Option (Int32 × xDt) :=
  if 64 ≤ v3 then (some (v2, D)) else (xlet (v2 + (((jlushr v0 v3) &&& 1).toInt32)) fun v2_1 => xlet (v3 + 1) fun v3_2 => rec_4 v0 v2_1 v3_2 D)
def f_X12_size_4 (F P : Nat) (S : xSt) : Nat → Int64 → Int32 → Int32 → xDt → Option (Int32 × xDt)
  | 0 => fun _ _ _ _ => none
  | n + 1 => f_X12_size_4s F P S (f_X12_size_4 F P S n)
set_option maxHeartbeats 4000000 in
theorem t_X12_size_4s {F P : Nat} {S : xSt} (hS : xWF S) {rec_4 : Int64 → Int32 → Int32 → xDt → Option (Int32 × xDt)} (hrec_4 : ∀ {v0 : Int64} {v2 : Int32} {v3 : Int32} {D : xDt} {r : Int32 × xDt}, rec_4 v0 v2 v3 D = some r → yEx md_X12_size 0 4 [(0, .long v0), (2, .int v2), (3, .int v3)] [] S D (xQi S r)) {v0 : Int64} {v2 : Int32} {v3 : Int32} {D : xDt} {r : Int32 × xDt} (h : f_X12_size_4s F P S rec_4 v0 v2 v3 D = some r) : yEx md_X12_size 0 4 [(0, .long v0), (2, .int v2), (3, .int v3)] [] S D (xQi S r) := by
  unfold f_X12_size_4s at h
  refine x_iload_n dX12_size_4 2 rfl ?_
  refine x_bipush 64 dX12_size_5 (by decide) ?_
  refine x_icmp_ge 25 dX12_size_7 (by decide) (fun c => ?_) (fun c => ?_)
  · rw [if_pos c] at h
    refine x_iload_n dX12_size_25 1 rfl ?_
    obtain rfl := Option.some.inj h
    exact y_iret rfl dX12_size_26
  · rw [if_neg c] at h
    refine x_iload_n dX12_size_10 1 rfl ?_
    refine x_lload_n dX12_size_11 0 rfl ?_
    refine x_iload_n dX12_size_12 2 rfl ?_
    refine x_lushr dX12_size_13 ?_
    refine x_lconst 1 dX12_size_14 (by decide) ?_
    refine x_land dX12_size_15 ?_
    refine x_l2i dX12_size_16 ?_
    refine x_iadd dX12_size_17 ?_
    refine xlet_e h (fun v2_1 ev2_1 h => ?_)
    refine y_istore_n v2_1 ev2_1 [(2, .int v2_1), (0, .long v0), (3, .int v3)] dX12_size_18 (by show _ < 4; decide) rfl ?_
    refine xlet_e h (fun v3_2 ev3_2 h => ?_)
    refine y_iinc v3_2 ev3_2 (by decide) [(3, .int v3_2), (2, .int v2_1), (0, .long v0)] dX12_size_19 2 rfl (by show _ < 4; decide) rfl ?_
    refine x_goto 4 dX12_size_22 (by decide) ?_
    refine x_lv (lv' := [(0, .long v0), (2, .int v2_1), (3, .int v3_2)]) [2, 1, 0] rfl ?_
    exact hrec_4 h
theorem t_X12_size_4 {F P : Nat} {S : xSt} (hS : xWF S) : ∀ (n : Nat) {v0 : Int64} {v2 : Int32} {v3 : Int32} {D : xDt} {r : Int32 × xDt}, f_X12_size_4 F P S n v0 v2 v3 D = some r → yEx md_X12_size 0 4 [(0, .long v0), (2, .int v2), (3, .int v3)] [] S D (xQi S r) := by
  intro n
  induction n with
  | zero => intros; rename_i h; cases h
  | succ n ih =>
    intro v0 v2 v3 D r  h
    exact t_X12_size_4s hS (fun  h => ih  h)  h

def f_X12_size (F P : Nat) (S : xSt) (v0 : Int64) (D : xDt) : Option (Int32 × xDt) :=
  f_X12_size_4 F P S F v0 0 0 D
set_option maxHeartbeats 4000000 in
theorem S_X12_size {F P : Nat} {S : xSt} (hS : xWF S) {v0 : Int64} {D : xDt} {r : Int32 × xDt} (h : f_X12_size F P S v0 D = some r) : xSp md_X12_size (0, 0, 0) [.long v0] (S, D) (xQi S r) := by
  unfold f_X12_size at h
  refine xEntry (by decide) (Nat.le_of_ble_eq_true rfl) ?_
  refine x_lv (lv' := [(0, .long v0)]) [0] rfl ?_
  refine x_iconst 0 dX12_size_0 (by decide) ?_
  refine y_istore_n 0 rfl [(2, .int 0), (0, .long v0)] dX12_size_1 (by show _ < 4; decide) rfl ?_
  refine x_iconst 0 dX12_size_2 (by decide) ?_
  refine y_istore_n 0 rfl [(3, .int 0), (2, .int 0), (0, .long v0)] dX12_size_3 (by show _ < 4; decide) rfl ?_
  refine x_lv (lv' := [(0, .long v0), (2, .int 0), (3, .int 0)]) [2, 1, 0] rfl ?_
  exact t_X12_size_4 hS F h

theorem dX12_gather_0 : decode cX12_gather 0 = .ok (.lload_n 2, 1) := by decide +kernel
theorem dX12_gather_1 : decode cX12_gather 1 = .ok (.invokestatic 22, 3) := by decide +kernel
theorem dX12_gather_4 : decode cX12_gather 4 = .ok (.istore 4, 2) := by decide +kernel
theorem dX12_gather_6 : decode cX12_gather 6 = .ok (.iconst 0, 1) := by decide +kernel
theorem dX12_gather_7 : decode cX12_gather 7 = .ok (.istore 5, 2) := by decide +kernel
theorem dX12_gather_9 : decode cX12_gather 9 = .ok (.iload 5, 2) := by decide +kernel
theorem dX12_gather_11 : decode cX12_gather 11 = .ok (.aload_n 0, 1) := by decide +kernel
theorem dX12_gather_12 : decode cX12_gather 12 = .ok (.getfield 7, 3) := by decide +kernel
theorem dX12_gather_15 : decode cX12_gather 15 = .ok (.if_icmp .ge 36, 3) := by decide +kernel
theorem dX12_gather_18 : decode cX12_gather 18 = .ok (.lload_n 2, 1) := by decide +kernel
theorem dX12_gather_19 : decode cX12_gather 19 = .ok (.iload 5, 2) := by decide +kernel
theorem dX12_gather_21 : decode cX12_gather 21 = .ok (.lushr, 1) := by decide +kernel
theorem dX12_gather_22 : decode cX12_gather 22 = .ok (.lconst 1, 1) := by decide +kernel
theorem dX12_gather_23 : decode cX12_gather 23 = .ok (.land, 1) := by decide +kernel
theorem dX12_gather_24 : decode cX12_gather 24 = .ok (.lconst 1, 1) := by decide +kernel
theorem dX12_gather_25 : decode cX12_gather 25 = .ok (.lcmp, 1) := by decide +kernel
theorem dX12_gather_26 : decode cX12_gather 26 = .ok (.ifCond .ne 19, 3) := by decide +kernel
theorem dX12_gather_29 : decode cX12_gather 29 = .ok (.aload_n 0, 1) := by decide +kernel
theorem dX12_gather_30 : decode cX12_gather 30 = .ok (.getfield 14, 3) := by decide +kernel
theorem dX12_gather_33 : decode cX12_gather 33 = .ok (.bipush 64, 2) := by decide +kernel
theorem dX12_gather_35 : decode cX12_gather 35 = .ok (.iload_n 1, 1) := by decide +kernel
theorem dX12_gather_36 : decode cX12_gather 36 = .ok (.iconst 1, 1) := by decide +kernel
theorem dX12_gather_37 : decode cX12_gather 37 = .ok (.isub, 1) := by decide +kernel
theorem dX12_gather_38 : decode cX12_gather 38 = .ok (.imul, 1) := by decide +kernel
theorem dX12_gather_39 : decode cX12_gather 39 = .ok (.iload 5, 2) := by decide +kernel
theorem dX12_gather_41 : decode cX12_gather 41 = .ok (.iadd, 1) := by decide +kernel
theorem dX12_gather_42 : decode cX12_gather 42 = .ok (.iload 4, 2) := by decide +kernel
theorem dX12_gather_44 : decode cX12_gather 44 = .ok (.iastore, 1) := by decide +kernel
theorem dX12_gather_45 : decode cX12_gather 45 = .ok (.iinc 5 1, 3) := by decide +kernel
theorem dX12_gather_48 : decode cX12_gather 48 = .ok (.goto (-39), 3) := by decide +kernel
theorem dX12_gather_51 : decode cX12_gather 51 = .ok (.return_, 1) := by decide +kernel
def f_X12_gather_45 (F P : Nat) (S : xSt) (rec_9 : Nat → Int32 → Int64 → Int32 → Int32 → xDt → Option (xDt)) (v0 : Nat) (v1 : Int32) (v2 : Int64) (v4 : Int32) (v5 : Int32) (D : xDt) : Option (xDt) :=
  xlet (v5 + 1) fun v5_1 => rec_9 v0 v1 v2 v4 v5_1 D
set_option maxHeartbeats 4000000 in
theorem t_X12_gather_45 {F P : Nat} {S : xSt} (hS : xWF S) {rec_9 : Nat → Int32 → Int64 → Int32 → Int32 → xDt → Option (xDt)} (hrec_9 : ∀ {v0 : Nat} {v1 : Int32} {v2 : Int64} {v4 : Int32} {v5 : Int32} {D : xDt} {r : xDt}, xK S v0 12 → rec_9 v0 v1 v2 v4 v5 D = some r → yEx md_X12_gather 1 9 [(0, .ref v0), (1, .int v1), (2, .long v2), (4, .int v4), (5, .int v5)] [] S D (xQv S r)) {v0 : Nat} {v1 : Int32} {v2 : Int64} {v4 : Int32} {v5 : Int32} {D : xDt} {r : xDt} (k0 : xK S v0 12) (h : f_X12_gather_45 F P S rec_9 v0 v1 v2 v4 v5 D = some r) : yEx md_X12_gather 1 45 [(0, .ref v0), (1, .int v1), (2, .long v2), (4, .int v4), (5, .int v5)] [] S D (xQv S r) := by
  unfold f_X12_gather_45 at h
  refine xlet_e h (fun v5_1 ev5_1 h => ?_)
  refine y_iinc v5_1 ev5_1 (by decide) [(5, .int v5_1), (0, .ref v0), (1, .int v1), (2, .long v2), (4, .int v4)] dX12_gather_45 4 rfl (by show _ < 6; decide) rfl ?_
  refine x_goto 9 dX12_gather_48 (by decide) ?_
  refine x_lv (lv' := [(0, .ref v0), (1, .int v1), (2, .long v2), (4, .int v4), (5, .int v5_1)]) [1, 2, 3, 4, 0] rfl ?_
  exact hrec_9 k0 h

def f_X12_gather_9s (F P : Nat) (S : xSt) (rec_9 : Nat → Int32 → Int64 → Int32 → Int32 → xDt → Option (xDt)) (v0 : Nat) (v1 : Int32) (v2 : Int64) (v4 : Int32) (v5 : Int32) (D : xDt) : Option (xDt) :=
  if (D.1 v0 1) ≤ v5 then (some D) else (if (lg_cmp ((jlushr v2 v5) &&& 1) 1) = 0 then (xgrd (xin ((64 * (v1 - 1)) + v5) (xl S (xr S v0 3))) (xlet (xup D.1 (xr S v0 3) ((64 * (v1 - 1)) + v5).toNatClampNeg v4, D.2) fun D2 => f_X12_gather_45 F P S rec_9 v0 v1 v2 v4 v5 D2)) else (f_X12_gather_45 F P S rec_9 v0 v1 v2 v4 v5 D))
def f_X12_gather_9 (F P : Nat) (S : xSt) : Nat → Nat → Int32 → Int64 → Int32 → Int32 → xDt → Option (xDt)
  | 0 => fun _ _ _ _ _ _ => none
  | n + 1 => f_X12_gather_9s F P S (f_X12_gather_9 F P S n)
set_option maxHeartbeats 4000000 in
theorem t_X12_gather_9s {F P : Nat} {S : xSt} (hS : xWF S) {rec_9 : Nat → Int32 → Int64 → Int32 → Int32 → xDt → Option (xDt)} (hrec_9 : ∀ {v0 : Nat} {v1 : Int32} {v2 : Int64} {v4 : Int32} {v5 : Int32} {D : xDt} {r : xDt}, xK S v0 12 → rec_9 v0 v1 v2 v4 v5 D = some r → yEx md_X12_gather 1 9 [(0, .ref v0), (1, .int v1), (2, .long v2), (4, .int v4), (5, .int v5)] [] S D (xQv S r)) {v0 : Nat} {v1 : Int32} {v2 : Int64} {v4 : Int32} {v5 : Int32} {D : xDt} {r : xDt} (k0 : xK S v0 12) (h : f_X12_gather_9s F P S rec_9 v0 v1 v2 v4 v5 D = some r) : yEx md_X12_gather 1 9 [(0, .ref v0), (1, .int v1), (2, .long v2), (4, .int v4), (5, .int v5)] [] S D (xQv S r) := by
  unfold f_X12_gather_9s at h
  refine x_iload dX12_gather_9 4 rfl ?_
  refine x_aload_n dX12_gather_11 0 rfl ?_
  refine y_geti fl_RX12_7 dX12_gather_12 rfl k0 ?_
  refine x_icmp_ge 51 dX12_gather_15 (by decide) (fun c => ?_) (fun c => ?_)
  · rw [if_pos c] at h
    obtain rfl := Option.some.inj h
    exact y_vret rfl dX12_gather_51
  · rw [if_neg c] at h
    refine x_lload_n dX12_gather_18 2 rfl ?_
    refine x_iload dX12_gather_19 4 rfl ?_
    refine x_lushr dX12_gather_21 ?_
    refine x_lconst 1 dX12_gather_22 (by decide) ?_
    refine x_land dX12_gather_23 ?_
    refine x_lconst 1 dX12_gather_24 (by decide) ?_
    refine x_lcmp dX12_gather_25 ?_
    refine x_if_ne 45 dX12_gather_26 (by decide) (fun c => ?_) (fun c => ?_)
    · rw [if_neg c] at h
      exact t_X12_gather_45 hS hrec_9 k0 h
    · rw [if_pos c] at h
      refine x_aload_n dX12_gather_29 0 rfl ?_
      refine y_getr (kd := 100) hS fl_RX12_14 dX12_gather_30 rfl k0 ?_
      refine x_bipush 64 dX12_gather_33 (by decide) ?_
      refine x_iload_n dX12_gather_35 1 rfl ?_
      refine x_iconst 1 dX12_gather_36 (by decide) ?_
      refine x_isub dX12_gather_37 ?_
      refine x_imul dX12_gather_38 ?_
      refine x_iload dX12_gather_39 4 rfl ?_
      refine x_iadd dX12_gather_41 ?_
      refine x_iload dX12_gather_42 3 rfl ?_
      refine xgrd_e h (fun g1 h => ?_)
      refine xlet_e h (fun D2 eD2 h => ?_)
      refine y_iast dX12_gather_44 ((hS.f k0 3 100 rfl).2) g1 eD2 ?_
      exact t_X12_gather_45 hS hrec_9 k0 h
theorem t_X12_gather_9 {F P : Nat} {S : xSt} (hS : xWF S) : ∀ (n : Nat) {v0 : Nat} {v1 : Int32} {v2 : Int64} {v4 : Int32} {v5 : Int32} {D : xDt} {r : xDt}, xK S v0 12 → f_X12_gather_9 F P S n v0 v1 v2 v4 v5 D = some r → yEx md_X12_gather 1 9 [(0, .ref v0), (1, .int v1), (2, .long v2), (4, .int v4), (5, .int v5)] [] S D (xQv S r) := by
  intro n
  induction n with
  | zero => intros; rename_i h; cases h
  | succ n ih =>
    intro v0 v1 v2 v4 v5 D r k0 h
    exact t_X12_gather_9s hS (fun k0 h => ih k0 h) k0 h

def f_X12_gather (F P : Nat) (S : xSt) (v0 : Nat) (v1 : Int32) (v2 : Int64) (D : xDt) : Option (xDt) :=
  (f_X12_least F P S v2 D).bind fun q1 => f_X12_gather_9 F P S F v0 v1 v2 q1.1 0 q1.2
set_option maxHeartbeats 4000000 in
theorem S_X12_gather {F P : Nat} {S : xSt} (hS : xWF S) {v0 : Nat} {v1 : Int32} {v2 : Int64} {D : xDt} {r : xDt} (k0 : xK S v0 12) (h : f_X12_gather F P S v0 v1 v2 D = some r) : xSp md_X12_gather (1, 0, 0) [.ref v0, .int v1, .long v2] (S, D) (xQv S r) := by
  unfold f_X12_gather at h
  refine xEntry (by decide) (Nat.le_of_ble_eq_true rfl) ?_
  refine x_lv (lv' := [(0, .ref v0), (1, .int v1), (2, .long v2)]) [0, 1, 2] rfl ?_
  refine x_lload_n dX12_gather_0 2 rfl ?_
  refine xbnd_e h (fun q1 e1 h => ?_)
  refine y_callSi (As := [.long v2]) (q := q1) cs_RX12_22 dX12_gather_1 rfl (Nat.le_of_ble_eq_true rfl) (by omega) (S_X12_least hS e1) ?_
  refine y_istore q1.1 rfl [(4, .int q1.1), (0, .ref v0), (1, .int v1), (2, .long v2)] dX12_gather_4 (by show _ < 6; decide) rfl ?_
  refine x_iconst 0 dX12_gather_6 (by decide) ?_
  refine y_istore 0 rfl [(5, .int 0), (4, .int q1.1), (0, .ref v0), (1, .int v1), (2, .long v2)] dX12_gather_7 (by show _ < 6; decide) rfl ?_
  refine x_lv (lv' := [(0, .ref v0), (1, .int v1), (2, .long v2), (4, .int q1.1), (5, .int 0)]) [2, 3, 4, 1, 0] rfl ?_
  exact t_X12_gather_9 hS F k0 h

theorem dX12_all_0 : decode cX12_all 0 = .ok (.aload_n 0, 1) := by decide +kernel
theorem dX12_all_1 : decode cX12_all 1 = .ok (.getfield 7, 3) := by decide +kernel
theorem dX12_all_4 : decode cX12_all 4 = .ok (.bipush 64, 2) := by decide +kernel
theorem dX12_all_6 : decode cX12_all 6 = .ok (.if_icmp .ne 9, 3) := by decide +kernel
theorem dX12_all_9 : decode cX12_all 9 = .ok (.ldc2_w 26, 3) := by decide +kernel
theorem dX12_all_12 : decode cX12_all 12 = .ok (.goto 11, 3) := by decide +kernel
theorem dX12_all_15 : decode cX12_all 15 = .ok (.lconst 1, 1) := by decide +kernel
theorem dX12_all_16 : decode cX12_all 16 = .ok (.aload_n 0, 1) := by decide +kernel
theorem dX12_all_17 : decode cX12_all 17 = .ok (.getfield 7, 3) := by decide +kernel
theorem dX12_all_20 : decode cX12_all 20 = .ok (.lshl, 1) := by decide +kernel
theorem dX12_all_21 : decode cX12_all 21 = .ok (.lconst 1, 1) := by decide +kernel
theorem dX12_all_22 : decode cX12_all 22 = .ok (.lsub, 1) := by decide +kernel
theorem dX12_all_23 : decode cX12_all 23 = .ok (.lreturn, 1) := by decide +kernel
def f_X12_all (F P : Nat) (S : xSt) (v0 : Nat) (D : xDt) : Option (Int64 × xDt) :=
  if (D.1 v0 1) = 64 then (some ((-1), D)) else (some ((jlshl 1 (D.1 v0 1)) - 1, D))
set_option maxHeartbeats 4000000 in
theorem S_X12_all {F P : Nat} {S : xSt} (hS : xWF S) {v0 : Nat} {D : xDt} {r : Int64 × xDt} (k0 : xK S v0 12) (h : f_X12_all F P S v0 D = some r) : xSp md_X12_all (0, 0, 0) [.ref v0] (S, D) (xQl S r) := by
  unfold f_X12_all at h
  refine xEntry (by decide) (Nat.le_of_ble_eq_true rfl) ?_
  refine x_lv (lv' := [(0, .ref v0)]) [0] rfl ?_
  refine x_aload_n dX12_all_0 0 rfl ?_
  refine y_geti fl_RX12_7 dX12_all_1 rfl k0 ?_
  refine x_bipush 64 dX12_all_4 (by decide) ?_
  refine x_icmp_ne 15 dX12_all_6 (by decide) (fun c => ?_) (fun c => ?_)
  · rw [if_neg c] at h
    refine x_lconst 1 dX12_all_15 (by decide) ?_
    refine x_aload_n dX12_all_16 0 rfl ?_
    refine y_geti fl_RX12_7 dX12_all_17 rfl k0 ?_
    refine x_lshl dX12_all_20 ?_
    refine x_lconst 1 dX12_all_21 (by decide) ?_
    refine x_lsub dX12_all_22 ?_
    obtain rfl := Option.some.inj h
    exact y_lret rfl dX12_all_23
  · rw [if_pos c] at h
    refine x_ldc2 (-1) dX12_all_9 wd_1127 ?_
    refine x_goto 23 dX12_all_12 (by decide) ?_
    obtain rfl := Option.some.inj h
    exact y_lret rfl dX12_all_23

theorem dX12_world_0 : decode cX12_world 0 = .ok (.iload_n 1, 1) := by decide +kernel
theorem dX12_world_1 : decode cX12_world 1 = .ok (.iconst 0, 1) := by decide +kernel
theorem dX12_world_2 : decode cX12_world 2 = .ok (.sipush 255, 3) := by decide +kernel
theorem dX12_world_5 : decode cX12_world 5 = .ok (.invokestatic 10, 3) := by decide +kernel
theorem dX12_world_8 : decode cX12_world 8 = .ok (.ifCond .eq 12, 3) := by decide +kernel
theorem dX12_world_11 : decode cX12_world 11 = .ok (.aload_n 0, 1) := by decide +kernel
theorem dX12_world_12 : decode cX12_world 12 = .ok (.getfield 7, 3) := by decide +kernel
theorem dX12_world_15 : decode cX12_world 15 = .ok (.bipush 64, 2) := by decide +kernel
theorem dX12_world_17 : decode cX12_world 17 = .ok (.if_icmp .ne 5, 3) := by decide +kernel
theorem dX12_world_20 : decode cX12_world 20 = .ok (.iconst (-1), 1) := by decide +kernel
theorem dX12_world_21 : decode cX12_world 21 = .ok (.ireturn, 1) := by decide +kernel
theorem dX12_world_22 : decode cX12_world 22 = .ok (.aload_n 0, 1) := by decide +kernel
theorem dX12_world_23 : decode cX12_world 23 = .ok (.iconst 0, 1) := by decide +kernel
theorem dX12_world_24 : decode cX12_world 24 = .ok (.putfield 28, 3) := by decide +kernel
theorem dX12_world_27 : decode cX12_world 27 = .ok (.aload_n 0, 1) := by decide +kernel
theorem dX12_world_28 : decode cX12_world 28 = .ok (.getfield 31, 3) := by decide +kernel
theorem dX12_world_31 : decode cX12_world 31 = .ok (.aload_n 0, 1) := by decide +kernel
theorem dX12_world_32 : decode cX12_world 32 = .ok (.getfield 7, 3) := by decide +kernel
theorem dX12_world_35 : decode cX12_world 35 = .ok (.iload_n 1, 1) := by decide +kernel
theorem dX12_world_36 : decode cX12_world 36 = .ok (.iastore, 1) := by decide +kernel
theorem dX12_world_37 : decode cX12_world 37 = .ok (.iconst 0, 1) := by decide +kernel
theorem dX12_world_38 : decode cX12_world 38 = .ok (.istore_n 2, 1) := by decide +kernel
theorem dX12_world_39 : decode cX12_world 39 = .ok (.iload_n 2, 1) := by decide +kernel
theorem dX12_world_40 : decode cX12_world 40 = .ok (.iconst 4, 1) := by decide +kernel
theorem dX12_world_41 : decode cX12_world 41 = .ok (.if_icmp .ge 27, 3) := by decide +kernel
theorem dX12_world_44 : decode cX12_world 44 = .ok (.aload_n 0, 1) := by decide +kernel
theorem dX12_world_45 : decode cX12_world 45 = .ok (.getfield 14, 3) := by decide +kernel
theorem dX12_world_48 : decode cX12_world 48 = .ok (.bipush 64, 2) := by decide +kernel
theorem dX12_world_50 : decode cX12_world 50 = .ok (.iload_n 2, 1) := by decide +kernel
theorem dX12_world_51 : decode cX12_world 51 = .ok (.imul, 1) := by decide +kernel
theorem dX12_world_52 : decode cX12_world 52 = .ok (.aload_n 0, 1) := by decide +kernel
theorem dX12_world_53 : decode cX12_world 53 = .ok (.getfield 7, 3) := by decide +kernel
theorem dX12_world_56 : decode cX12_world 56 = .ok (.iadd, 1) := by decide +kernel
theorem dX12_world_57 : decode cX12_world 57 = .ok (.aload_n 0, 1) := by decide +kernel
theorem dX12_world_58 : decode cX12_world 58 = .ok (.getfield 7, 3) := by decide +kernel
theorem dX12_world_61 : decode cX12_world 61 = .ok (.iastore, 1) := by decide +kernel
theorem dX12_world_62 : decode cX12_world 62 = .ok (.iinc 2 1, 3) := by decide +kernel
theorem dX12_world_65 : decode cX12_world 65 = .ok (.goto (-26), 3) := by decide +kernel
theorem dX12_world_68 : decode cX12_world 68 = .ok (.aload_n 0, 1) := by decide +kernel
theorem dX12_world_69 : decode cX12_world 69 = .ok (.dup, 1) := by decide +kernel
theorem dX12_world_70 : decode cX12_world 70 = .ok (.getfield 7, 3) := by decide +kernel
theorem dX12_world_73 : decode cX12_world 73 = .ok (.iconst 1, 1) := by decide +kernel
theorem dX12_world_74 : decode cX12_world 74 = .ok (.iadd, 1) := by decide +kernel
theorem dX12_world_75 : decode cX12_world 75 = .ok (.putfield 7, 3) := by decide +kernel
theorem dX12_world_78 : decode cX12_world 78 = .ok (.aload_n 0, 1) := by decide +kernel
theorem dX12_world_79 : decode cX12_world 79 = .ok (.getfield 7, 3) := by decide +kernel
theorem dX12_world_82 : decode cX12_world 82 = .ok (.iconst 1, 1) := by decide +kernel
theorem dX12_world_83 : decode cX12_world 83 = .ok (.isub, 1) := by decide +kernel
theorem dX12_world_84 : decode cX12_world 84 = .ok (.ireturn, 1) := by decide +kernel
def f_X12_world_39s (F P : Nat) (S : xSt) (rec_39 : Nat → Int32 → xDt → Option (Int32 × xDt)) (v0 : Nat) (v2 : Int32) (D : xDt) : Option (Int32 × xDt) :=
  if 4 ≤ v2 then (xlet (xup D.1 v0 1 ((D.1 v0 1) + 1), D.2) fun D1 => some ((D1.1 v0 1) - 1, D1)) else (xgrd (xin ((64 * v2) + (D.1 v0 1)) (xl S (xr S v0 3))) (xlet (xup D.1 (xr S v0 3) ((64 * v2) + (D.1 v0 1)).toNatClampNeg (D.1 v0 1), D.2) fun D3 => xlet (v2 + 1) fun v2_4 => rec_39 v0 v2_4 D3))
def f_X12_world_39 (F P : Nat) (S : xSt) : Nat → Nat → Int32 → xDt → Option (Int32 × xDt)
  | 0 => fun _ _ _ => none
  | n + 1 => f_X12_world_39s F P S (f_X12_world_39 F P S n)
set_option maxHeartbeats 4000000 in
theorem t_X12_world_39s {F P : Nat} {S : xSt} (hS : xWF S) {rec_39 : Nat → Int32 → xDt → Option (Int32 × xDt)} (hrec_39 : ∀ {v0 : Nat} {v2 : Int32} {D : xDt} {r : Int32 × xDt}, xK S v0 12 → rec_39 v0 v2 D = some r → yEx md_X12_world 1 39 [(0, .ref v0), (2, .int v2)] [] S D (xQi S r)) {v0 : Nat} {v2 : Int32} {D : xDt} {r : Int32 × xDt} (k0 : xK S v0 12) (h : f_X12_world_39s F P S rec_39 v0 v2 D = some r) : yEx md_X12_world 1 39 [(0, .ref v0), (2, .int v2)] [] S D (xQi S r) := by
  unfold f_X12_world_39s at h
  refine x_iload_n dX12_world_39 1 rfl ?_
  refine x_iconst 4 dX12_world_40 (by decide) ?_
  refine x_icmp_ge 68 dX12_world_41 (by decide) (fun c => ?_) (fun c => ?_)
  · rw [if_pos c] at h
    refine x_aload_n dX12_world_68 0 rfl ?_
    refine x_dup dX12_world_69 rfl ?_
    refine y_geti fl_RX12_7 dX12_world_70 rfl k0 ?_
    refine x_iconst 1 dX12_world_73 (by decide) ?_
    refine x_iadd dX12_world_74 ?_
    refine xlet_e h (fun D1 eD1 h => ?_)
    refine y_puti fp_RX12_7 dX12_world_75 rfl k0 eD1 ?_
    refine x_aload_n dX12_world_78 0 rfl ?_
    refine y_geti fl_RX12_7 dX12_world_79 rfl k0 ?_
    refine x_iconst 1 dX12_world_82 (by decide) ?_
    refine x_isub dX12_world_83 ?_
    obtain rfl := Option.some.inj h
    exact y_iret rfl dX12_world_84
  · rw [if_neg c] at h
    refine x_aload_n dX12_world_44 0 rfl ?_
    refine y_getr (kd := 100) hS fl_RX12_14 dX12_world_45 rfl k0 ?_
    refine x_bipush 64 dX12_world_48 (by decide) ?_
    refine x_iload_n dX12_world_50 1 rfl ?_
    refine x_imul dX12_world_51 ?_
    refine x_aload_n dX12_world_52 0 rfl ?_
    refine y_geti fl_RX12_7 dX12_world_53 rfl k0 ?_
    refine x_iadd dX12_world_56 ?_
    refine x_aload_n dX12_world_57 0 rfl ?_
    refine y_geti fl_RX12_7 dX12_world_58 rfl k0 ?_
    refine xgrd_e h (fun g2 h => ?_)
    refine xlet_e h (fun D3 eD3 h => ?_)
    refine y_iast dX12_world_61 ((hS.f k0 3 100 rfl).2) g2 eD3 ?_
    refine xlet_e h (fun v2_4 ev2_4 h => ?_)
    refine y_iinc v2_4 ev2_4 (by decide) [(2, .int v2_4), (0, .ref v0)] dX12_world_62 1 rfl (by show _ < 3; decide) rfl ?_
    refine x_goto 39 dX12_world_65 (by decide) ?_
    refine x_lv (lv' := [(0, .ref v0), (2, .int v2_4)]) [1, 0] rfl ?_
    exact hrec_39 k0 h
theorem t_X12_world_39 {F P : Nat} {S : xSt} (hS : xWF S) : ∀ (n : Nat) {v0 : Nat} {v2 : Int32} {D : xDt} {r : Int32 × xDt}, xK S v0 12 → f_X12_world_39 F P S n v0 v2 D = some r → yEx md_X12_world 1 39 [(0, .ref v0), (2, .int v2)] [] S D (xQi S r) := by
  intro n
  induction n with
  | zero => intros; rename_i h; cases h
  | succ n ih =>
    intro v0 v2 D r k0 h
    exact t_X12_world_39s hS (fun k0 h => ih k0 h) k0 h

def f_X12_world (F P : Nat) (S : xSt) (v0 : Nat) (v1 : Int32) (D : xDt) : Option (Int32 × xDt) :=
  (f_X12_in F P S v1 0 255 D).bind fun q1 => if q1.1 = 0 then (some ((-1), q1.2)) else (if (q1.2.1 v0 1) = 64 then (some ((-1), q1.2)) else (xlet (xup q1.2.1 v0 7 0, q1.2.2) fun D2 => xgrd (xin (D2.1 v0 1) (xl S (xr S v0 2))) (xlet (xup D2.1 (xr S v0 2) (D2.1 v0 1).toNatClampNeg v1, D2.2) fun D4 => f_X12_world_39 F P S F v0 0 D4)))
set_option maxHeartbeats 4000000 in
theorem S_X12_world {F P : Nat} {S : xSt} (hS : xWF S) {v0 : Nat} {v1 : Int32} {D : xDt} {r : Int32 × xDt} (k0 : xK S v0 12) (h : f_X12_world F P S v0 v1 D = some r) : xSp md_X12_world (1, 0, 0) [.ref v0, .int v1] (S, D) (xQi S r) := by
  unfold f_X12_world at h
  refine xEntry (by decide) (Nat.le_of_ble_eq_true rfl) ?_
  refine x_lv (lv' := [(0, .ref v0), (1, .int v1)]) [0, 1] rfl ?_
  refine x_iload_n dX12_world_0 1 rfl ?_
  refine x_iconst 0 dX12_world_1 (by decide) ?_
  refine x_sipush 255 dX12_world_2 (by decide) ?_
  refine xbnd_e h (fun q1 e1 h => ?_)
  refine y_callSi (As := [.int v1, .int 0, .int 255]) (q := q1) cs_RX12_10 dX12_world_5 rfl (Nat.le_of_ble_eq_true rfl) (by omega) (S_X12_in hS e1) ?_
  refine x_if_eq 20 dX12_world_8 (by decide) (fun c => ?_) (fun c => ?_)
  · rw [if_pos c] at h
    refine x_iconst (-1) dX12_world_20 (by decide) ?_
    obtain rfl := Option.some.inj h
    exact y_iret rfl dX12_world_21
  · rw [if_neg c] at h
    refine x_aload_n dX12_world_11 0 rfl ?_
    refine y_geti fl_RX12_7 dX12_world_12 rfl k0 ?_
    refine x_bipush 64 dX12_world_15 (by decide) ?_
    refine x_icmp_ne 22 dX12_world_17 (by decide) (fun c => ?_) (fun c => ?_)
    · rw [if_neg c] at h
      refine x_aload_n dX12_world_22 0 rfl ?_
      refine x_iconst 0 dX12_world_23 (by decide) ?_
      refine xlet_e h (fun D2 eD2 h => ?_)
      refine y_puti fp_RX12_28 dX12_world_24 rfl k0 eD2 ?_
      refine x_aload_n dX12_world_27 0 rfl ?_
      refine y_getr (kd := 100) hS fl_RX12_31 dX12_world_28 rfl k0 ?_
      refine x_aload_n dX12_world_31 0 rfl ?_
      refine y_geti fl_RX12_7 dX12_world_32 rfl k0 ?_
      refine x_iload_n dX12_world_35 1 rfl ?_
      refine xgrd_e h (fun g3 h => ?_)
      refine xlet_e h (fun D4 eD4 h => ?_)
      refine y_iast dX12_world_36 ((hS.f k0 2 100 rfl).2) g3 eD4 ?_
      refine x_iconst 0 dX12_world_37 (by decide) ?_
      refine y_istore_n 0 rfl [(2, .int 0), (0, .ref v0), (1, .int v1)] dX12_world_38 (by show _ < 3; decide) rfl ?_
      refine x_lv (lv' := [(0, .ref v0), (2, .int 0)]) [1, 0] rfl ?_
      exact t_X12_world_39 hS F k0 h
    · rw [if_pos c] at h
      refine x_iconst (-1) dX12_world_20 (by decide) ?_
      obtain rfl := Option.some.inj h
      exact y_iret rfl dX12_world_21

theorem dX12_tie_0 : decode cX12_tie 0 = .ok (.iload_n 1, 1) := by decide +kernel
theorem dX12_tie_1 : decode cX12_tie 1 = .ok (.invokestatic 34, 3) := by decide +kernel
theorem dX12_tie_4 : decode cX12_tie 4 = .ok (.ifCond .eq 19, 3) := by decide +kernel
theorem dX12_tie_7 : decode cX12_tie 7 = .ok (.aload_n 0, 1) := by decide +kernel
theorem dX12_tie_8 : decode cX12_tie 8 = .ok (.iload_n 2, 1) := by decide +kernel
theorem dX12_tie_9 : decode cX12_tie 9 = .ok (.invokevirtual 38, 3) := by decide +kernel
theorem dX12_tie_12 : decode cX12_tie 12 = .ok (.ifCond .eq 11, 3) := by decide +kernel
theorem dX12_tie_15 : decode cX12_tie 15 = .ok (.aload_n 0, 1) := by decide +kernel
theorem dX12_tie_16 : decode cX12_tie 16 = .ok (.iload_n 3, 1) := by decide +kernel
theorem dX12_tie_17 : decode cX12_tie 17 = .ok (.invokevirtual 38, 3) := by decide +kernel
theorem dX12_tie_20 : decode cX12_tie 20 = .ok (.ifCond .ne 5, 3) := by decide +kernel
theorem dX12_tie_23 : decode cX12_tie 23 = .ok (.iconst (-1), 1) := by decide +kernel
theorem dX12_tie_24 : decode cX12_tie 24 = .ok (.ireturn, 1) := by decide +kernel
theorem dX12_tie_25 : decode cX12_tie 25 = .ok (.aload_n 0, 1) := by decide +kernel
theorem dX12_tie_26 : decode cX12_tie 26 = .ok (.iconst 0, 1) := by decide +kernel
theorem dX12_tie_27 : decode cX12_tie 27 = .ok (.putfield 28, 3) := by decide +kernel
theorem dX12_tie_30 : decode cX12_tie 30 = .ok (.aload_n 0, 1) := by decide +kernel
theorem dX12_tie_31 : decode cX12_tie 31 = .ok (.iload_n 1, 1) := by decide +kernel
theorem dX12_tie_32 : decode cX12_tie 32 = .ok (.iload_n 2, 1) := by decide +kernel
theorem dX12_tie_33 : decode cX12_tie 33 = .ok (.invokevirtual 41, 3) := by decide +kernel
theorem dX12_tie_36 : decode cX12_tie 36 = .ok (.aload_n 0, 1) := by decide +kernel
theorem dX12_tie_37 : decode cX12_tie 37 = .ok (.iload_n 1, 1) := by decide +kernel
theorem dX12_tie_38 : decode cX12_tie 38 = .ok (.iload_n 3, 1) := by decide +kernel
theorem dX12_tie_39 : decode cX12_tie 39 = .ok (.invokevirtual 41, 3) := by decide +kernel
theorem dX12_tie_42 : decode cX12_tie 42 = .ok (.lor, 1) := by decide +kernel
theorem dX12_tie_43 : decode cX12_tie 43 = .ok (.lstore 4, 2) := by decide +kernel
theorem dX12_tie_45 : decode cX12_tie 45 = .ok (.aload_n 0, 1) := by decide +kernel
theorem dX12_tie_46 : decode cX12_tie 46 = .ok (.iload_n 1, 1) := by decide +kernel
theorem dX12_tie_47 : decode cX12_tie 47 = .ok (.lload 4, 2) := by decide +kernel
theorem dX12_tie_49 : decode cX12_tie 49 = .ok (.invokevirtual 45, 3) := by decide +kernel
theorem dX12_tie_52 : decode cX12_tie 52 = .ok (.lload 4, 2) := by decide +kernel
theorem dX12_tie_54 : decode cX12_tie 54 = .ok (.invokestatic 49, 3) := by decide +kernel
theorem dX12_tie_57 : decode cX12_tie 57 = .ok (.ireturn, 1) := by decide +kernel
def f_X12_tie (F P : Nat) (S : xSt) (v0 : Nat) (v1 : Int32) (v2 : Int32) (v3 : Int32) (D : xDt) : Option (Int32 × xDt) :=
  (f_X12_isAgent F P S v1 D).bind fun q1 => if q1.1 = 0 then (some ((-1), q1.2)) else ((f_X12_isWorld F P S v0 v2 q1.2).bind fun q2 => if q2.1 = 0 then (some ((-1), q2.2)) else ((f_X12_isWorld F P S v0 v3 q2.2).bind fun q3 => if q3.1 = 0 then (some ((-1), q3.2)) else (xlet (xup q3.2.1 v0 7 0, q3.2.2) fun D4 => (f_X12_cellOf F P S v0 v1 v2 D4).bind fun q5 => (f_X12_cellOf F P S v0 v1 v3 q5.2).bind fun q6 => xlet (q5.1 ||| q6.1) fun v4_7 => (f_X12_gather F P S v0 v1 v4_7 q6.2).bind fun q8 => (f_X12_size F P S v4_7 q8).bind fun q9 => some (q9.1, q9.2))))
set_option maxHeartbeats 4000000 in
theorem S_X12_tie {F P : Nat} {S : xSt} (hS : xWF S) {v0 : Nat} {v1 : Int32} {v2 : Int32} {v3 : Int32} {D : xDt} {r : Int32 × xDt} (k0 : xK S v0 12) (h : f_X12_tie F P S v0 v1 v2 v3 D = some r) : xSp md_X12_tie (2, 0, 0) [.ref v0, .int v1, .int v2, .int v3] (S, D) (xQi S r) := by
  unfold f_X12_tie at h
  refine xEntry (by decide) (Nat.le_of_ble_eq_true rfl) ?_
  refine x_lv (lv' := [(0, .ref v0), (1, .int v1), (2, .int v2), (3, .int v3)]) [0, 1, 2, 3] rfl ?_
  refine x_iload_n dX12_tie_0 1 rfl ?_
  refine xbnd_e h (fun q1 e1 h => ?_)
  refine y_callSi (As := [.int v1]) (q := q1) cs_RX12_34 dX12_tie_1 rfl (Nat.le_of_ble_eq_true rfl) (by omega) (S_X12_isAgent hS e1) ?_
  refine x_if_eq 23 dX12_tie_4 (by decide) (fun c => ?_) (fun c => ?_)
  · rw [if_pos c] at h
    refine x_iconst (-1) dX12_tie_23 (by decide) ?_
    obtain rfl := Option.some.inj h
    exact y_iret rfl dX12_tie_24
  · rw [if_neg c] at h
    refine x_aload_n dX12_tie_7 0 rfl ?_
    refine x_iload_n dX12_tie_8 2 rfl ?_
    refine xbnd_e h (fun q2 e2 h => ?_)
    refine y_callVi (As := [.int v2]) (q := q2) cv_RX12_38 dX12_tie_9 k0 rfl (Nat.le_of_ble_eq_true rfl) (by omega) (S_X12_isWorld hS k0 e2) ?_
    refine x_if_eq 23 dX12_tie_12 (by decide) (fun c => ?_) (fun c => ?_)
    · rw [if_pos c] at h
      refine x_iconst (-1) dX12_tie_23 (by decide) ?_
      obtain rfl := Option.some.inj h
      exact y_iret rfl dX12_tie_24
    · rw [if_neg c] at h
      refine x_aload_n dX12_tie_15 0 rfl ?_
      refine x_iload_n dX12_tie_16 3 rfl ?_
      refine xbnd_e h (fun q3 e3 h => ?_)
      refine y_callVi (As := [.int v3]) (q := q3) cv_RX12_38 dX12_tie_17 k0 rfl (Nat.le_of_ble_eq_true rfl) (by omega) (S_X12_isWorld hS k0 e3) ?_
      refine x_if_ne 25 dX12_tie_20 (by decide) (fun c => ?_) (fun c => ?_)
      · rw [if_neg c] at h
        refine x_aload_n dX12_tie_25 0 rfl ?_
        refine x_iconst 0 dX12_tie_26 (by decide) ?_
        refine xlet_e h (fun D4 eD4 h => ?_)
        refine y_puti fp_RX12_28 dX12_tie_27 rfl k0 eD4 ?_
        refine x_aload_n dX12_tie_30 0 rfl ?_
        refine x_iload_n dX12_tie_31 1 rfl ?_
        refine x_iload_n dX12_tie_32 2 rfl ?_
        refine xbnd_e h (fun q5 e5 h => ?_)
        refine y_callVl (As := [.int v1, .int v2]) (q := q5) cv_RX12_41 dX12_tie_33 k0 rfl (Nat.le_of_ble_eq_true rfl) (by omega) (S_X12_cellOf hS k0 e5) ?_
        refine x_aload_n dX12_tie_36 0 rfl ?_
        refine x_iload_n dX12_tie_37 1 rfl ?_
        refine x_iload_n dX12_tie_38 3 rfl ?_
        refine xbnd_e h (fun q6 e6 h => ?_)
        refine y_callVl (As := [.int v1, .int v3]) (q := q6) cv_RX12_41 dX12_tie_39 k0 rfl (Nat.le_of_ble_eq_true rfl) (by omega) (S_X12_cellOf hS k0 e6) ?_
        refine x_lor dX12_tie_42 ?_
        refine xlet_e h (fun v4_7 ev4_7 h => ?_)
        refine y_lstore v4_7 ev4_7 [(4, .long v4_7), (0, .ref v0), (1, .int v1), (2, .int v2), (3, .int v3)] dX12_tie_43 (by show _ < 6; decide) rfl ?_
        refine x_aload_n dX12_tie_45 1 rfl ?_
        refine x_iload_n dX12_tie_46 2 rfl ?_
        refine x_lload dX12_tie_47 0 rfl ?_
        refine xbnd_e h (fun q8 e8 h => ?_)
        refine y_callVv (As := [.int v1, .long v4_7]) (q := q8) cv_RX12_45 dX12_tie_49 k0 rfl (Nat.le_of_ble_eq_true rfl) (by omega) (S_X12_gather hS k0 e8) ?_
        refine x_lload dX12_tie_52 0 rfl ?_
        refine xbnd_e h (fun q9 e9 h => ?_)
        refine y_callSi (As := [.long v4_7]) (q := q9) cs_RX12_49 dX12_tie_54 rfl (Nat.le_of_ble_eq_true rfl) (by omega) (S_X12_size hS e9) ?_
        obtain rfl := Option.some.inj h
        exact y_iret rfl dX12_tie_57
      · rw [if_pos c] at h
        refine x_iconst (-1) dX12_tie_23 (by decide) ?_
        obtain rfl := Option.some.inj h
        exact y_iret rfl dX12_tie_24

theorem dX12_alone_0 : decode cX12_alone 0 = .ok (.iload_n 1, 1) := by decide +kernel
theorem dX12_alone_1 : decode cX12_alone 1 = .ok (.invokestatic 34, 3) := by decide +kernel
theorem dX12_alone_4 : decode cX12_alone 4 = .ok (.ifCond .eq 11, 3) := by decide +kernel
theorem dX12_alone_7 : decode cX12_alone 7 = .ok (.aload_n 0, 1) := by decide +kernel
theorem dX12_alone_8 : decode cX12_alone 8 = .ok (.iload_n 2, 1) := by decide +kernel
theorem dX12_alone_9 : decode cX12_alone 9 = .ok (.invokevirtual 38, 3) := by decide +kernel
theorem dX12_alone_12 : decode cX12_alone 12 = .ok (.ifCond .ne 5, 3) := by decide +kernel
theorem dX12_alone_15 : decode cX12_alone 15 = .ok (.iconst (-1), 1) := by decide +kernel
theorem dX12_alone_16 : decode cX12_alone 16 = .ok (.ireturn, 1) := by decide +kernel
theorem dX12_alone_17 : decode cX12_alone 17 = .ok (.aload_n 0, 1) := by decide +kernel
theorem dX12_alone_18 : decode cX12_alone 18 = .ok (.iconst 0, 1) := by decide +kernel
theorem dX12_alone_19 : decode cX12_alone 19 = .ok (.putfield 28, 3) := by decide +kernel
theorem dX12_alone_22 : decode cX12_alone 22 = .ok (.aload_n 0, 1) := by decide +kernel
theorem dX12_alone_23 : decode cX12_alone 23 = .ok (.iload_n 1, 1) := by decide +kernel
theorem dX12_alone_24 : decode cX12_alone 24 = .ok (.iload_n 2, 1) := by decide +kernel
theorem dX12_alone_25 : decode cX12_alone 25 = .ok (.invokevirtual 41, 3) := by decide +kernel
theorem dX12_alone_28 : decode cX12_alone 28 = .ok (.lconst 1, 1) := by decide +kernel
theorem dX12_alone_29 : decode cX12_alone 29 = .ok (.iload_n 2, 1) := by decide +kernel
theorem dX12_alone_30 : decode cX12_alone 30 = .ok (.lshl, 1) := by decide +kernel
theorem dX12_alone_31 : decode cX12_alone 31 = .ok (.ldc2_w 26, 3) := by decide +kernel
theorem dX12_alone_34 : decode cX12_alone 34 = .ok (.lxor, 1) := by decide +kernel
theorem dX12_alone_35 : decode cX12_alone 35 = .ok (.land, 1) := by decide +kernel
theorem dX12_alone_36 : decode cX12_alone 36 = .ok (.lstore_n 3, 1) := by decide +kernel
theorem dX12_alone_37 : decode cX12_alone 37 = .ok (.aload_n 0, 1) := by decide +kernel
theorem dX12_alone_38 : decode cX12_alone 38 = .ok (.iload_n 1, 1) := by decide +kernel
theorem dX12_alone_39 : decode cX12_alone 39 = .ok (.lconst 1, 1) := by decide +kernel
theorem dX12_alone_40 : decode cX12_alone 40 = .ok (.iload_n 2, 1) := by decide +kernel
theorem dX12_alone_41 : decode cX12_alone 41 = .ok (.lshl, 1) := by decide +kernel
theorem dX12_alone_42 : decode cX12_alone 42 = .ok (.invokevirtual 45, 3) := by decide +kernel
theorem dX12_alone_45 : decode cX12_alone 45 = .ok (.lload_n 3, 1) := by decide +kernel
theorem dX12_alone_46 : decode cX12_alone 46 = .ok (.lconst 0, 1) := by decide +kernel
theorem dX12_alone_47 : decode cX12_alone 47 = .ok (.lcmp, 1) := by decide +kernel
theorem dX12_alone_48 : decode cX12_alone 48 = .ok (.ifCond .eq 9, 3) := by decide +kernel
theorem dX12_alone_51 : decode cX12_alone 51 = .ok (.aload_n 0, 1) := by decide +kernel
theorem dX12_alone_52 : decode cX12_alone 52 = .ok (.iload_n 1, 1) := by decide +kernel
theorem dX12_alone_53 : decode cX12_alone 53 = .ok (.lload_n 3, 1) := by decide +kernel
theorem dX12_alone_54 : decode cX12_alone 54 = .ok (.invokevirtual 45, 3) := by decide +kernel
theorem dX12_alone_57 : decode cX12_alone 57 = .ok (.lload_n 3, 1) := by decide +kernel
theorem dX12_alone_58 : decode cX12_alone 58 = .ok (.invokestatic 49, 3) := by decide +kernel
theorem dX12_alone_61 : decode cX12_alone 61 = .ok (.ireturn, 1) := by decide +kernel
def f_X12_alone_57 (F P : Nat) (S : xSt) (v3 : Int64) (D : xDt) : Option (Int32 × xDt) :=
  (f_X12_size F P S v3 D).bind fun q1 => some (q1.1, q1.2)
set_option maxHeartbeats 4000000 in
theorem t_X12_alone_57 {F P : Nat} {S : xSt} (hS : xWF S) {v3 : Int64} {D : xDt} {r : Int32 × xDt} (h : f_X12_alone_57 F P S v3 D = some r) : yEx md_X12_alone 2 57 [(3, .long v3)] [] S D (xQi S r) := by
  unfold f_X12_alone_57 at h
  refine x_lload_n dX12_alone_57 0 rfl ?_
  refine xbnd_e h (fun q1 e1 h => ?_)
  refine y_callSi (As := [.long v3]) (q := q1) cs_RX12_49 dX12_alone_58 rfl (Nat.le_of_ble_eq_true rfl) (by omega) (S_X12_size hS e1) ?_
  obtain rfl := Option.some.inj h
  exact y_iret rfl dX12_alone_61

def f_X12_alone (F P : Nat) (S : xSt) (v0 : Nat) (v1 : Int32) (v2 : Int32) (D : xDt) : Option (Int32 × xDt) :=
  (f_X12_isAgent F P S v1 D).bind fun q1 => if q1.1 = 0 then (some ((-1), q1.2)) else ((f_X12_isWorld F P S v0 v2 q1.2).bind fun q2 => if q2.1 = 0 then (some ((-1), q2.2)) else (xlet (xup q2.2.1 v0 7 0, q2.2.2) fun D3 => (f_X12_cellOf F P S v0 v1 v2 D3).bind fun q4 => xlet (q4.1 &&& ((jlshl 1 v2) ^^^ (-1))) fun v3_5 => (f_X12_gather F P S v0 v1 (jlshl 1 v2) q4.2).bind fun q6 => if (lg_cmp v3_5 0) = 0 then (f_X12_alone_57 F P S v3_5 q6) else ((f_X12_gather F P S v0 v1 v3_5 q6).bind fun q7 => f_X12_alone_57 F P S v3_5 q7)))
set_option maxHeartbeats 4000000 in
theorem S_X12_alone {F P : Nat} {S : xSt} (hS : xWF S) {v0 : Nat} {v1 : Int32} {v2 : Int32} {D : xDt} {r : Int32 × xDt} (k0 : xK S v0 12) (h : f_X12_alone F P S v0 v1 v2 D = some r) : xSp md_X12_alone (2, 0, 0) [.ref v0, .int v1, .int v2] (S, D) (xQi S r) := by
  unfold f_X12_alone at h
  refine xEntry (by decide) (Nat.le_of_ble_eq_true rfl) ?_
  refine x_lv (lv' := [(0, .ref v0), (1, .int v1), (2, .int v2)]) [0, 1, 2] rfl ?_
  refine x_iload_n dX12_alone_0 1 rfl ?_
  refine xbnd_e h (fun q1 e1 h => ?_)
  refine y_callSi (As := [.int v1]) (q := q1) cs_RX12_34 dX12_alone_1 rfl (Nat.le_of_ble_eq_true rfl) (by omega) (S_X12_isAgent hS e1) ?_
  refine x_if_eq 15 dX12_alone_4 (by decide) (fun c => ?_) (fun c => ?_)
  · rw [if_pos c] at h
    refine x_iconst (-1) dX12_alone_15 (by decide) ?_
    obtain rfl := Option.some.inj h
    exact y_iret rfl dX12_alone_16
  · rw [if_neg c] at h
    refine x_aload_n dX12_alone_7 0 rfl ?_
    refine x_iload_n dX12_alone_8 2 rfl ?_
    refine xbnd_e h (fun q2 e2 h => ?_)
    refine y_callVi (As := [.int v2]) (q := q2) cv_RX12_38 dX12_alone_9 k0 rfl (Nat.le_of_ble_eq_true rfl) (by omega) (S_X12_isWorld hS k0 e2) ?_
    refine x_if_ne 17 dX12_alone_12 (by decide) (fun c => ?_) (fun c => ?_)
    · rw [if_neg c] at h
      refine x_aload_n dX12_alone_17 0 rfl ?_
      refine x_iconst 0 dX12_alone_18 (by decide) ?_
      refine xlet_e h (fun D3 eD3 h => ?_)
      refine y_puti fp_RX12_28 dX12_alone_19 rfl k0 eD3 ?_
      refine x_aload_n dX12_alone_22 0 rfl ?_
      refine x_iload_n dX12_alone_23 1 rfl ?_
      refine x_iload_n dX12_alone_24 2 rfl ?_
      refine xbnd_e h (fun q4 e4 h => ?_)
      refine y_callVl (As := [.int v1, .int v2]) (q := q4) cv_RX12_41 dX12_alone_25 k0 rfl (Nat.le_of_ble_eq_true rfl) (by omega) (S_X12_cellOf hS k0 e4) ?_
      refine x_lconst 1 dX12_alone_28 (by decide) ?_
      refine x_iload_n dX12_alone_29 2 rfl ?_
      refine x_lshl dX12_alone_30 ?_
      refine x_ldc2 (-1) dX12_alone_31 wd_1127 ?_
      refine x_lxor dX12_alone_34 ?_
      refine x_land dX12_alone_35 ?_
      refine xlet_e h (fun v3_5 ev3_5 h => ?_)
      refine y_lstore_n v3_5 ev3_5 [(3, .long v3_5), (0, .ref v0), (1, .int v1), (2, .int v2)] dX12_alone_36 (by show _ < 5; decide) rfl ?_
      refine x_aload_n dX12_alone_37 1 rfl ?_
      refine x_iload_n dX12_alone_38 2 rfl ?_
      refine x_lconst 1 dX12_alone_39 (by decide) ?_
      refine x_iload_n dX12_alone_40 3 rfl ?_
      refine x_lshl dX12_alone_41 ?_
      refine xbnd_e h (fun q6 e6 h => ?_)
      refine y_callVv (As := [.int v1, .long (jlshl 1 v2)]) (q := q6) cv_RX12_45 dX12_alone_42 k0 rfl (Nat.le_of_ble_eq_true rfl) (by omega) (S_X12_gather hS k0 e6) ?_
      refine x_lload_n dX12_alone_45 0 rfl ?_
      refine x_lconst 0 dX12_alone_46 (by decide) ?_
      refine x_lcmp dX12_alone_47 ?_
      refine x_if_eq 57 dX12_alone_48 (by decide) (fun c => ?_) (fun c => ?_)
      · rw [if_pos c] at h
        refine x_lv (lv' := [(3, .long v3_5)]) [0] rfl ?_
        exact t_X12_alone_57 hS h
      · rw [if_neg c] at h
        refine x_aload_n dX12_alone_51 1 rfl ?_
        refine x_iload_n dX12_alone_52 2 rfl ?_
        refine x_lload_n dX12_alone_53 0 rfl ?_
        refine xbnd_e h (fun q7 e7 h => ?_)
        refine y_callVv (As := [.int v1, .long v3_5]) (q := q7) cv_RX12_45 dX12_alone_54 k0 rfl (Nat.le_of_ble_eq_true rfl) (by omega) (S_X12_gather hS k0 e7) ?_
        refine x_lv (lv' := [(3, .long v3_5)]) [0] rfl ?_
        exact t_X12_alone_57 hS h
    · rw [if_pos c] at h
      refine x_iconst (-1) dX12_alone_15 (by decide) ?_
      obtain rfl := Option.some.inj h
      exact y_iret rfl dX12_alone_16

theorem dX12_atom_0 : decode cX12_atom 0 = .ok (.aload_n 0, 1) := by decide +kernel
theorem dX12_atom_1 : decode cX12_atom 1 = .ok (.iload_n 1, 1) := by decide +kernel
theorem dX12_atom_2 : decode cX12_atom 2 = .ok (.invokevirtual 38, 3) := by decide +kernel
theorem dX12_atom_5 : decode cX12_atom 5 = .ok (.ifCond .eq 13, 3) := by decide +kernel
theorem dX12_atom_8 : decode cX12_atom 8 = .ok (.iload_n 2, 1) := by decide +kernel
theorem dX12_atom_9 : decode cX12_atom 9 = .ok (.iconst 0, 1) := by decide +kernel
theorem dX12_atom_10 : decode cX12_atom 10 = .ok (.bipush 7, 2) := by decide +kernel
theorem dX12_atom_12 : decode cX12_atom 12 = .ok (.invokestatic 10, 3) := by decide +kernel
theorem dX12_atom_15 : decode cX12_atom 15 = .ok (.ifCond .ne 5, 3) := by decide +kernel
theorem dX12_atom_18 : decode cX12_atom 18 = .ok (.iconst (-1), 1) := by decide +kernel
theorem dX12_atom_19 : decode cX12_atom 19 = .ok (.ireturn, 1) := by decide +kernel
theorem dX12_atom_20 : decode cX12_atom 20 = .ok (.aload_n 0, 1) := by decide +kernel
theorem dX12_atom_21 : decode cX12_atom 21 = .ok (.iconst 0, 1) := by decide +kernel
theorem dX12_atom_22 : decode cX12_atom 22 = .ok (.putfield 28, 3) := by decide +kernel
theorem dX12_atom_25 : decode cX12_atom 25 = .ok (.aload_n 0, 1) := by decide +kernel
theorem dX12_atom_26 : decode cX12_atom 26 = .ok (.getfield 31, 3) := by decide +kernel
theorem dX12_atom_29 : decode cX12_atom 29 = .ok (.iload_n 1, 1) := by decide +kernel
theorem dX12_atom_30 : decode cX12_atom 30 = .ok (.iaload, 1) := by decide +kernel
theorem dX12_atom_31 : decode cX12_atom 31 = .ok (.iload_n 2, 1) := by decide +kernel
theorem dX12_atom_32 : decode cX12_atom 32 = .ok (.ishr, 1) := by decide +kernel
theorem dX12_atom_33 : decode cX12_atom 33 = .ok (.iconst 1, 1) := by decide +kernel
theorem dX12_atom_34 : decode cX12_atom 34 = .ok (.iand, 1) := by decide +kernel
theorem dX12_atom_35 : decode cX12_atom 35 = .ok (.istore 4, 2) := by decide +kernel
theorem dX12_atom_37 : decode cX12_atom 37 = .ok (.aload_n 0, 1) := by decide +kernel
theorem dX12_atom_38 : decode cX12_atom 38 = .ok (.getfield 31, 3) := by decide +kernel
theorem dX12_atom_41 : decode cX12_atom 41 = .ok (.iload_n 1, 1) := by decide +kernel
theorem dX12_atom_42 : decode cX12_atom 42 = .ok (.aload_n 0, 1) := by decide +kernel
theorem dX12_atom_43 : decode cX12_atom 43 = .ok (.getfield 31, 3) := by decide +kernel
theorem dX12_atom_46 : decode cX12_atom 46 = .ok (.iload_n 1, 1) := by decide +kernel
theorem dX12_atom_47 : decode cX12_atom 47 = .ok (.iaload, 1) := by decide +kernel
theorem dX12_atom_48 : decode cX12_atom 48 = .ok (.iconst 1, 1) := by decide +kernel
theorem dX12_atom_49 : decode cX12_atom 49 = .ok (.iload_n 2, 1) := by decide +kernel
theorem dX12_atom_50 : decode cX12_atom 50 = .ok (.ishl, 1) := by decide +kernel
theorem dX12_atom_51 : decode cX12_atom 51 = .ok (.iconst (-1), 1) := by decide +kernel
theorem dX12_atom_52 : decode cX12_atom 52 = .ok (.ixor, 1) := by decide +kernel
theorem dX12_atom_53 : decode cX12_atom 53 = .ok (.iand, 1) := by decide +kernel
theorem dX12_atom_54 : decode cX12_atom 54 = .ok (.iload_n 3, 1) := by decide +kernel
theorem dX12_atom_55 : decode cX12_atom 55 = .ok (.ifCond .eq 9, 3) := by decide +kernel
theorem dX12_atom_58 : decode cX12_atom 58 = .ok (.iconst 1, 1) := by decide +kernel
theorem dX12_atom_59 : decode cX12_atom 59 = .ok (.iload_n 2, 1) := by decide +kernel
theorem dX12_atom_60 : decode cX12_atom 60 = .ok (.ishl, 1) := by decide +kernel
theorem dX12_atom_61 : decode cX12_atom 61 = .ok (.goto 4, 3) := by decide +kernel
theorem dX12_atom_64 : decode cX12_atom 64 = .ok (.iconst 0, 1) := by decide +kernel
theorem dX12_atom_65 : decode cX12_atom 65 = .ok (.ior, 1) := by decide +kernel
theorem dX12_atom_66 : decode cX12_atom 66 = .ok (.iastore, 1) := by decide +kernel
theorem dX12_atom_67 : decode cX12_atom 67 = .ok (.iload 4, 2) := by decide +kernel
theorem dX12_atom_69 : decode cX12_atom 69 = .ok (.ireturn, 1) := by decide +kernel
def f_X12_atom (F P : Nat) (S : xSt) (v0 : Nat) (v1 : Int32) (v2 : Int32) (v3 : Int32) (D : xDt) : Option (Int32 × xDt) :=
  (f_X12_isWorld F P S v0 v1 D).bind fun q1 => if q1.1 = 0 then (some ((-1), q1.2)) else ((f_X12_in F P S v2 0 7 q1.2).bind fun q2 => if q2.1 = 0 then (some ((-1), q2.2)) else (xlet (xup q2.2.1 v0 7 0, q2.2.2) fun D3 => xgrd (xin v1 (xl S (xr S v0 2))) (xlet ((jishr (D3.1 (xr S v0 2) (v1).toNatClampNeg) v2) &&& 1) fun v4_5 => xgrd (xin v1 (xl S (xr S v0 2))) (if v3 = 0 then (xgrd (xin v1 (xl S (xr S v0 2))) (xlet (xup D3.1 (xr S v0 2) (v1).toNatClampNeg (((D3.1 (xr S v0 2) (v1).toNatClampNeg) &&& ((jishl 1 v2) ^^^ (-1))) ||| 0), D3.2) fun D8 => some (v4_5, D8))) else (xgrd (xin v1 (xl S (xr S v0 2))) (xlet (xup D3.1 (xr S v0 2) (v1).toNatClampNeg (((D3.1 (xr S v0 2) (v1).toNatClampNeg) &&& ((jishl 1 v2) ^^^ (-1))) ||| (jishl 1 v2)), D3.2) fun D10 => some (v4_5, D10)))))))
set_option maxHeartbeats 4000000 in
theorem S_X12_atom {F P : Nat} {S : xSt} (hS : xWF S) {v0 : Nat} {v1 : Int32} {v2 : Int32} {v3 : Int32} {D : xDt} {r : Int32 × xDt} (k0 : xK S v0 12) (h : f_X12_atom F P S v0 v1 v2 v3 D = some r) : xSp md_X12_atom (2, 0, 0) [.ref v0, .int v1, .int v2, .int v3] (S, D) (xQi S r) := by
  unfold f_X12_atom at h
  refine xEntry (by decide) (Nat.le_of_ble_eq_true rfl) ?_
  refine x_lv (lv' := [(0, .ref v0), (1, .int v1), (2, .int v2), (3, .int v3)]) [0, 1, 2, 3] rfl ?_
  refine x_aload_n dX12_atom_0 0 rfl ?_
  refine x_iload_n dX12_atom_1 1 rfl ?_
  refine xbnd_e h (fun q1 e1 h => ?_)
  refine y_callVi (As := [.int v1]) (q := q1) cv_RX12_38 dX12_atom_2 k0 rfl (Nat.le_of_ble_eq_true rfl) (by omega) (S_X12_isWorld hS k0 e1) ?_
  refine x_if_eq 18 dX12_atom_5 (by decide) (fun c => ?_) (fun c => ?_)
  · rw [if_pos c] at h
    refine x_iconst (-1) dX12_atom_18 (by decide) ?_
    obtain rfl := Option.some.inj h
    exact y_iret rfl dX12_atom_19
  · rw [if_neg c] at h
    refine x_iload_n dX12_atom_8 2 rfl ?_
    refine x_iconst 0 dX12_atom_9 (by decide) ?_
    refine x_bipush 7 dX12_atom_10 (by decide) ?_
    refine xbnd_e h (fun q2 e2 h => ?_)
    refine y_callSi (As := [.int v2, .int 0, .int 7]) (q := q2) cs_RX12_10 dX12_atom_12 rfl (Nat.le_of_ble_eq_true rfl) (by omega) (S_X12_in hS e2) ?_
    refine x_if_ne 20 dX12_atom_15 (by decide) (fun c => ?_) (fun c => ?_)
    · rw [if_neg c] at h
      refine x_aload_n dX12_atom_20 0 rfl ?_
      refine x_iconst 0 dX12_atom_21 (by decide) ?_
      refine xlet_e h (fun D3 eD3 h => ?_)
      refine y_puti fp_RX12_28 dX12_atom_22 rfl k0 eD3 ?_
      refine x_aload_n dX12_atom_25 0 rfl ?_
      refine y_getr (kd := 100) hS fl_RX12_31 dX12_atom_26 rfl k0 ?_
      refine x_iload_n dX12_atom_29 1 rfl ?_
      refine xgrd_e h (fun g4 h => ?_)
      refine y_iald dX12_atom_30 ((hS.f k0 2 100 rfl).2) g4 ?_
      refine x_iload_n dX12_atom_31 2 rfl ?_
      refine x_ishr dX12_atom_32 ?_
      refine x_iconst 1 dX12_atom_33 (by decide) ?_
      refine x_iand dX12_atom_34 ?_
      refine xlet_e h (fun v4_5 ev4_5 h => ?_)
      refine y_istore v4_5 ev4_5 [(4, .int v4_5), (0, .ref v0), (1, .int v1), (2, .int v2), (3, .int v3)] dX12_atom_35 (by show _ < 5; decide) rfl ?_
      refine x_aload_n dX12_atom_37 1 rfl ?_
      refine y_getr (kd := 100) hS fl_RX12_31 dX12_atom_38 rfl k0 ?_
      refine x_iload_n dX12_atom_41 2 rfl ?_
      refine x_aload_n dX12_atom_42 1 rfl ?_
      refine y_getr (kd := 100) hS fl_RX12_31 dX12_atom_43 rfl k0 ?_
      refine x_iload_n dX12_atom_46 2 rfl ?_
      refine xgrd_e h (fun g6 h => ?_)
      refine y_iald dX12_atom_47 ((hS.f k0 2 100 rfl).2) g6 ?_
      refine x_iconst 1 dX12_atom_48 (by decide) ?_
      refine x_iload_n dX12_atom_49 3 rfl ?_
      refine x_ishl dX12_atom_50 ?_
      refine x_iconst (-1) dX12_atom_51 (by decide) ?_
      refine x_ixor dX12_atom_52 ?_
      refine x_iand dX12_atom_53 ?_
      refine x_iload_n dX12_atom_54 4 rfl ?_
      refine x_if_eq 64 dX12_atom_55 (by decide) (fun c => ?_) (fun c => ?_)
      · rw [if_pos c] at h
        refine x_iconst 0 dX12_atom_64 (by decide) ?_
        refine x_ior dX12_atom_65 ?_
        refine xgrd_e h (fun g7 h => ?_)
        refine xlet_e h (fun D8 eD8 h => ?_)
        refine y_iast dX12_atom_66 ((hS.f k0 2 100 rfl).2) g7 eD8 ?_
        refine x_iload dX12_atom_67 0 rfl ?_
        obtain rfl := Option.some.inj h
        exact y_iret rfl dX12_atom_69
      · rw [if_neg c] at h
        refine x_iconst 1 dX12_atom_58 (by decide) ?_
        refine x_iload_n dX12_atom_59 3 rfl ?_
        refine x_ishl dX12_atom_60 ?_
        refine x_goto 65 dX12_atom_61 (by decide) ?_
        refine x_ior dX12_atom_65 ?_
        refine xgrd_e h (fun g9 h => ?_)
        refine xlet_e h (fun D10 eD10 h => ?_)
        refine y_iast dX12_atom_66 ((hS.f k0 2 100 rfl).2) g9 eD10 ?_
        refine x_iload dX12_atom_67 0 rfl ?_
        obtain rfl := Option.some.inj h
        exact y_iret rfl dX12_atom_69
    · rw [if_pos c] at h
      refine x_iconst (-1) dX12_atom_18 (by decide) ?_
      obtain rfl := Option.some.inj h
      exact y_iret rfl dX12_atom_19

theorem dX12_told_0 : decode cX12_told 0 = .ok (.aload_n 0, 1) := by decide +kernel
theorem dX12_told_1 : decode cX12_told 1 = .ok (.iload_n 1, 1) := by decide +kernel
theorem dX12_told_2 : decode cX12_told 2 = .ok (.invokevirtual 38, 3) := by decide +kernel
theorem dX12_told_5 : decode cX12_told 5 = .ok (.ifCond .eq 12, 3) := by decide +kernel
theorem dX12_told_8 : decode cX12_told 8 = .ok (.iload_n 2, 1) := by decide +kernel
theorem dX12_told_9 : decode cX12_told 9 = .ok (.iconst 0, 1) := by decide +kernel
theorem dX12_told_10 : decode cX12_told 10 = .ok (.iconst 4, 1) := by decide +kernel
theorem dX12_told_11 : decode cX12_told 11 = .ok (.invokestatic 10, 3) := by decide +kernel
theorem dX12_told_14 : decode cX12_told 14 = .ok (.ifCond .ne 7, 3) := by decide +kernel
theorem dX12_told_17 : decode cX12_told 17 = .ok (.iconst (-1), 1) := by decide +kernel
theorem dX12_told_18 : decode cX12_told 18 = .ok (.goto 22, 3) := by decide +kernel
theorem dX12_told_21 : decode cX12_told 21 = .ok (.iload_n 2, 1) := by decide +kernel
theorem dX12_told_22 : decode cX12_told 22 = .ok (.ifCond .ne 12, 3) := by decide +kernel
theorem dX12_told_25 : decode cX12_told 25 = .ok (.aload_n 0, 1) := by decide +kernel
theorem dX12_told_26 : decode cX12_told 26 = .ok (.getfield 31, 3) := by decide +kernel
theorem dX12_told_29 : decode cX12_told 29 = .ok (.iload_n 1, 1) := by decide +kernel
theorem dX12_told_30 : decode cX12_told 30 = .ok (.iaload, 1) := by decide +kernel
theorem dX12_told_31 : decode cX12_told 31 = .ok (.goto 9, 3) := by decide +kernel
theorem dX12_told_34 : decode cX12_told 34 = .ok (.aload_n 0, 1) := by decide +kernel
theorem dX12_told_35 : decode cX12_told 35 = .ok (.iload_n 2, 1) := by decide +kernel
theorem dX12_told_36 : decode cX12_told 36 = .ok (.iload_n 1, 1) := by decide +kernel
theorem dX12_told_37 : decode cX12_told 37 = .ok (.invokevirtual 18, 3) := by decide +kernel
theorem dX12_told_40 : decode cX12_told 40 = .ok (.ireturn, 1) := by decide +kernel
def f_X12_told_17 (F P : Nat) (S : xSt) (D : xDt) : Option (Int32 × xDt) :=
  some ((-1), D)
set_option maxHeartbeats 4000000 in
theorem t_X12_told_17 {F P : Nat} {S : xSt} (hS : xWF S) {D : xDt} {r : Int32 × xDt} (h : f_X12_told_17 F P S D = some r) : yEx md_X12_told 2 17 [] [] S D (xQi S r) := by
  unfold f_X12_told_17 at h
  refine x_iconst (-1) dX12_told_17 (by decide) ?_
  refine x_goto 40 dX12_told_18 (by decide) ?_
  obtain rfl := Option.some.inj h
  exact y_iret rfl dX12_told_40

def f_X12_told (F P : Nat) (S : xSt) (v0 : Nat) (v1 : Int32) (v2 : Int32) (D : xDt) : Option (Int32 × xDt) :=
  (f_X12_isWorld F P S v0 v1 D).bind fun q1 => if q1.1 = 0 then (f_X12_told_17 F P S q1.2) else ((f_X12_in F P S v2 0 4 q1.2).bind fun q2 => if q2.1 = 0 then (f_X12_told_17 F P S q2.2) else (if v2 = 0 then (xgrd (xin v1 (xl S (xr S v0 2))) (some (q2.2.1 (xr S v0 2) (v1).toNatClampNeg, q2.2))) else ((f_X12_cell F P S v0 v2 v1 q2.2).bind fun q3 => some (q3.1, q3.2))))
set_option maxHeartbeats 4000000 in
theorem S_X12_told {F P : Nat} {S : xSt} (hS : xWF S) {v0 : Nat} {v1 : Int32} {v2 : Int32} {D : xDt} {r : Int32 × xDt} (k0 : xK S v0 12) (h : f_X12_told F P S v0 v1 v2 D = some r) : xSp md_X12_told (2, 0, 0) [.ref v0, .int v1, .int v2] (S, D) (xQi S r) := by
  unfold f_X12_told at h
  refine xEntry (by decide) (Nat.le_of_ble_eq_true rfl) ?_
  refine x_lv (lv' := [(0, .ref v0), (1, .int v1), (2, .int v2)]) [0, 1, 2] rfl ?_
  refine x_aload_n dX12_told_0 0 rfl ?_
  refine x_iload_n dX12_told_1 1 rfl ?_
  refine xbnd_e h (fun q1 e1 h => ?_)
  refine y_callVi (As := [.int v1]) (q := q1) cv_RX12_38 dX12_told_2 k0 rfl (Nat.le_of_ble_eq_true rfl) (by omega) (S_X12_isWorld hS k0 e1) ?_
  refine x_if_eq 17 dX12_told_5 (by decide) (fun c => ?_) (fun c => ?_)
  · rw [if_pos c] at h
    refine x_lv (lv' := []) [] rfl ?_
    exact t_X12_told_17 hS h
  · rw [if_neg c] at h
    refine x_iload_n dX12_told_8 2 rfl ?_
    refine x_iconst 0 dX12_told_9 (by decide) ?_
    refine x_iconst 4 dX12_told_10 (by decide) ?_
    refine xbnd_e h (fun q2 e2 h => ?_)
    refine y_callSi (As := [.int v2, .int 0, .int 4]) (q := q2) cs_RX12_10 dX12_told_11 rfl (Nat.le_of_ble_eq_true rfl) (by omega) (S_X12_in hS e2) ?_
    refine x_if_ne 21 dX12_told_14 (by decide) (fun c => ?_) (fun c => ?_)
    · rw [if_neg c] at h
      refine x_iload_n dX12_told_21 2 rfl ?_
      refine x_if_ne 34 dX12_told_22 (by decide) (fun c => ?_) (fun c => ?_)
      · rw [if_neg c] at h
        refine x_aload_n dX12_told_34 0 rfl ?_
        refine x_iload_n dX12_told_35 2 rfl ?_
        refine x_iload_n dX12_told_36 1 rfl ?_
        refine xbnd_e h (fun q3 e3 h => ?_)
        refine y_callVi (As := [.int v2, .int v1]) (q := q3) cv_RX12_18 dX12_told_37 k0 rfl (Nat.le_of_ble_eq_true rfl) (by omega) (S_X12_cell hS k0 e3) ?_
        obtain rfl := Option.some.inj h
        exact y_iret rfl dX12_told_40
      · rw [if_pos c] at h
        refine x_aload_n dX12_told_25 0 rfl ?_
        refine y_getr (kd := 100) hS fl_RX12_31 dX12_told_26 rfl k0 ?_
        refine x_iload_n dX12_told_29 1 rfl ?_
        refine xgrd_e h (fun g4 h => ?_)
        refine y_iald dX12_told_30 ((hS.f k0 2 100 rfl).2) g4 ?_
        refine x_goto 40 dX12_told_31 (by decide) ?_
        obtain rfl := Option.some.inj h
        exact y_iret rfl dX12_told_40
    · rw [if_pos c] at h
      refine x_lv (lv' := []) [] rfl ?_
      exact t_X12_told_17 hS h

theorem dX12_moveKept_0 : decode cX12_moveKept 0 = .ok (.aload_n 0, 1) := by decide +kernel
theorem dX12_moveKept_1 : decode cX12_moveKept 1 = .ok (.getfield 56, 3) := by decide +kernel
theorem dX12_moveKept_4 : decode cX12_moveKept 4 = .ok (.iload_n 2, 1) := by decide +kernel
theorem dX12_moveKept_5 : decode cX12_moveKept 5 = .ok (.aload_n 0, 1) := by decide +kernel
theorem dX12_moveKept_6 : decode cX12_moveKept 6 = .ok (.getfield 56, 3) := by decide +kernel
theorem dX12_moveKept_9 : decode cX12_moveKept 9 = .ok (.iload_n 1, 1) := by decide +kernel
theorem dX12_moveKept_10 : decode cX12_moveKept 10 = .ok (.iaload, 1) := by decide +kernel
theorem dX12_moveKept_11 : decode cX12_moveKept 11 = .ok (.iastore, 1) := by decide +kernel
theorem dX12_moveKept_12 : decode cX12_moveKept 12 = .ok (.iconst 0, 1) := by decide +kernel
theorem dX12_moveKept_13 : decode cX12_moveKept 13 = .ok (.istore_n 3, 1) := by decide +kernel
theorem dX12_moveKept_14 : decode cX12_moveKept 14 = .ok (.iload_n 3, 1) := by decide +kernel
theorem dX12_moveKept_15 : decode cX12_moveKept 15 = .ok (.bipush 64, 2) := by decide +kernel
theorem dX12_moveKept_17 : decode cX12_moveKept 17 = .ok (.if_icmp .ge 31, 3) := by decide +kernel
theorem dX12_moveKept_20 : decode cX12_moveKept 20 = .ok (.aload_n 0, 1) := by decide +kernel
theorem dX12_moveKept_21 : decode cX12_moveKept 21 = .ok (.getfield 59, 3) := by decide +kernel
theorem dX12_moveKept_24 : decode cX12_moveKept 24 = .ok (.bipush 64, 2) := by decide +kernel
theorem dX12_moveKept_26 : decode cX12_moveKept 26 = .ok (.iload_n 2, 1) := by decide +kernel
theorem dX12_moveKept_27 : decode cX12_moveKept 27 = .ok (.imul, 1) := by decide +kernel
theorem dX12_moveKept_28 : decode cX12_moveKept 28 = .ok (.iload_n 3, 1) := by decide +kernel
theorem dX12_moveKept_29 : decode cX12_moveKept 29 = .ok (.iadd, 1) := by decide +kernel
theorem dX12_moveKept_30 : decode cX12_moveKept 30 = .ok (.aload_n 0, 1) := by decide +kernel
theorem dX12_moveKept_31 : decode cX12_moveKept 31 = .ok (.getfield 59, 3) := by decide +kernel
theorem dX12_moveKept_34 : decode cX12_moveKept 34 = .ok (.bipush 64, 2) := by decide +kernel
theorem dX12_moveKept_36 : decode cX12_moveKept 36 = .ok (.iload_n 1, 1) := by decide +kernel
theorem dX12_moveKept_37 : decode cX12_moveKept 37 = .ok (.imul, 1) := by decide +kernel
theorem dX12_moveKept_38 : decode cX12_moveKept 38 = .ok (.iload_n 3, 1) := by decide +kernel
theorem dX12_moveKept_39 : decode cX12_moveKept 39 = .ok (.iadd, 1) := by decide +kernel
theorem dX12_moveKept_40 : decode cX12_moveKept 40 = .ok (.iaload, 1) := by decide +kernel
theorem dX12_moveKept_41 : decode cX12_moveKept 41 = .ok (.iastore, 1) := by decide +kernel
theorem dX12_moveKept_42 : decode cX12_moveKept 42 = .ok (.iinc 3 1, 3) := by decide +kernel
theorem dX12_moveKept_45 : decode cX12_moveKept 45 = .ok (.goto (-31), 3) := by decide +kernel
theorem dX12_moveKept_48 : decode cX12_moveKept 48 = .ok (.iconst 0, 1) := by decide +kernel
theorem dX12_moveKept_49 : decode cX12_moveKept 49 = .ok (.istore_n 3, 1) := by decide +kernel
theorem dX12_moveKept_50 : decode cX12_moveKept 50 = .ok (.iload_n 3, 1) := by decide +kernel
theorem dX12_moveKept_51 : decode cX12_moveKept 51 = .ok (.sipush 256, 3) := by decide +kernel
theorem dX12_moveKept_54 : decode cX12_moveKept 54 = .ok (.if_icmp .ge 33, 3) := by decide +kernel
theorem dX12_moveKept_57 : decode cX12_moveKept 57 = .ok (.aload_n 0, 1) := by decide +kernel
theorem dX12_moveKept_58 : decode cX12_moveKept 58 = .ok (.getfield 62, 3) := by decide +kernel
theorem dX12_moveKept_61 : decode cX12_moveKept 61 = .ok (.sipush 256, 3) := by decide +kernel
theorem dX12_moveKept_64 : decode cX12_moveKept 64 = .ok (.iload_n 2, 1) := by decide +kernel
theorem dX12_moveKept_65 : decode cX12_moveKept 65 = .ok (.imul, 1) := by decide +kernel
theorem dX12_moveKept_66 : decode cX12_moveKept 66 = .ok (.iload_n 3, 1) := by decide +kernel
theorem dX12_moveKept_67 : decode cX12_moveKept 67 = .ok (.iadd, 1) := by decide +kernel
theorem dX12_moveKept_68 : decode cX12_moveKept 68 = .ok (.aload_n 0, 1) := by decide +kernel
theorem dX12_moveKept_69 : decode cX12_moveKept 69 = .ok (.getfield 62, 3) := by decide +kernel
theorem dX12_moveKept_72 : decode cX12_moveKept 72 = .ok (.sipush 256, 3) := by decide +kernel
theorem dX12_moveKept_75 : decode cX12_moveKept 75 = .ok (.iload_n 1, 1) := by decide +kernel
theorem dX12_moveKept_76 : decode cX12_moveKept 76 = .ok (.imul, 1) := by decide +kernel
theorem dX12_moveKept_77 : decode cX12_moveKept 77 = .ok (.iload_n 3, 1) := by decide +kernel
theorem dX12_moveKept_78 : decode cX12_moveKept 78 = .ok (.iadd, 1) := by decide +kernel
theorem dX12_moveKept_79 : decode cX12_moveKept 79 = .ok (.iaload, 1) := by decide +kernel
theorem dX12_moveKept_80 : decode cX12_moveKept 80 = .ok (.iastore, 1) := by decide +kernel
theorem dX12_moveKept_81 : decode cX12_moveKept 81 = .ok (.iinc 3 1, 3) := by decide +kernel
theorem dX12_moveKept_84 : decode cX12_moveKept 84 = .ok (.goto (-34), 3) := by decide +kernel
theorem dX12_moveKept_87 : decode cX12_moveKept 87 = .ok (.return_, 1) := by decide +kernel
def f_X12_moveKept_50s (F P : Nat) (S : xSt) (rec_50 : Nat → Int32 → Int32 → Int32 → xDt → Option (xDt)) (v0 : Nat) (v1 : Int32) (v2 : Int32) (v3 : Int32) (D : xDt) : Option (xDt) :=
  if 256 ≤ v3 then (some D) else (xgrd (xin ((256 * v1) + v3) (xl S (xr S v0 6))) (xgrd (xin ((256 * v2) + v3) (xl S (xr S v0 6))) (xlet (xup D.1 (xr S v0 6) ((256 * v2) + v3).toNatClampNeg (D.1 (xr S v0 6) ((256 * v1) + v3).toNatClampNeg), D.2) fun D3 => xlet (v3 + 1) fun v3_4 => rec_50 v0 v1 v2 v3_4 D3)))
def f_X12_moveKept_50 (F P : Nat) (S : xSt) : Nat → Nat → Int32 → Int32 → Int32 → xDt → Option (xDt)
  | 0 => fun _ _ _ _ _ => none
  | n + 1 => f_X12_moveKept_50s F P S (f_X12_moveKept_50 F P S n)
set_option maxHeartbeats 4000000 in
theorem t_X12_moveKept_50s {F P : Nat} {S : xSt} (hS : xWF S) {rec_50 : Nat → Int32 → Int32 → Int32 → xDt → Option (xDt)} (hrec_50 : ∀ {v0 : Nat} {v1 : Int32} {v2 : Int32} {v3 : Int32} {D : xDt} {r : xDt}, xK S v0 12 → rec_50 v0 v1 v2 v3 D = some r → yEx md_X12_moveKept 0 50 [(0, .ref v0), (1, .int v1), (2, .int v2), (3, .int v3)] [] S D (xQv S r)) {v0 : Nat} {v1 : Int32} {v2 : Int32} {v3 : Int32} {D : xDt} {r : xDt} (k0 : xK S v0 12) (h : f_X12_moveKept_50s F P S rec_50 v0 v1 v2 v3 D = some r) : yEx md_X12_moveKept 0 50 [(0, .ref v0), (1, .int v1), (2, .int v2), (3, .int v3)] [] S D (xQv S r) := by
  unfold f_X12_moveKept_50s at h
  refine x_iload_n dX12_moveKept_50 3 rfl ?_
  refine x_sipush 256 dX12_moveKept_51 (by decide) ?_
  refine x_icmp_ge 87 dX12_moveKept_54 (by decide) (fun c => ?_) (fun c => ?_)
  · rw [if_pos c] at h
    obtain rfl := Option.some.inj h
    exact y_vret rfl dX12_moveKept_87
  · rw [if_neg c] at h
    refine x_aload_n dX12_moveKept_57 0 rfl ?_
    refine y_getr (kd := 100) hS fl_RX12_62 dX12_moveKept_58 rfl k0 ?_
    refine x_sipush 256 dX12_moveKept_61 (by decide) ?_
    refine x_iload_n dX12_moveKept_64 2 rfl ?_
    refine x_imul dX12_moveKept_65 ?_
    refine x_iload_n dX12_moveKept_66 3 rfl ?_
    refine x_iadd dX12_moveKept_67 ?_
    refine x_aload_n dX12_moveKept_68 0 rfl ?_
    refine y_getr (kd := 100) hS fl_RX12_62 dX12_moveKept_69 rfl k0 ?_
    refine x_sipush 256 dX12_moveKept_72 (by decide) ?_
    refine x_iload_n dX12_moveKept_75 1 rfl ?_
    refine x_imul dX12_moveKept_76 ?_
    refine x_iload_n dX12_moveKept_77 3 rfl ?_
    refine x_iadd dX12_moveKept_78 ?_
    refine xgrd_e h (fun g1 h => ?_)
    refine y_iald dX12_moveKept_79 ((hS.f k0 6 100 rfl).2) g1 ?_
    refine xgrd_e h (fun g2 h => ?_)
    refine xlet_e h (fun D3 eD3 h => ?_)
    refine y_iast dX12_moveKept_80 ((hS.f k0 6 100 rfl).2) g2 eD3 ?_
    refine xlet_e h (fun v3_4 ev3_4 h => ?_)
    refine y_iinc v3_4 ev3_4 (by decide) [(3, .int v3_4), (0, .ref v0), (1, .int v1), (2, .int v2)] dX12_moveKept_81 3 rfl (by show _ < 4; decide) rfl ?_
    refine x_goto 50 dX12_moveKept_84 (by decide) ?_
    refine x_lv (lv' := [(0, .ref v0), (1, .int v1), (2, .int v2), (3, .int v3_4)]) [1, 2, 3, 0] rfl ?_
    exact hrec_50 k0 h
theorem t_X12_moveKept_50 {F P : Nat} {S : xSt} (hS : xWF S) : ∀ (n : Nat) {v0 : Nat} {v1 : Int32} {v2 : Int32} {v3 : Int32} {D : xDt} {r : xDt}, xK S v0 12 → f_X12_moveKept_50 F P S n v0 v1 v2 v3 D = some r → yEx md_X12_moveKept 0 50 [(0, .ref v0), (1, .int v1), (2, .int v2), (3, .int v3)] [] S D (xQv S r) := by
  intro n
  induction n with
  | zero => intros; rename_i h; cases h
  | succ n ih =>
    intro v0 v1 v2 v3 D r k0 h
    exact t_X12_moveKept_50s hS (fun k0 h => ih k0 h) k0 h

def f_X12_moveKept_14s (F P : Nat) (S : xSt) (rec_14 : Nat → Int32 → Int32 → Int32 → xDt → Option (xDt)) (v0 : Nat) (v1 : Int32) (v2 : Int32) (v3 : Int32) (D : xDt) : Option (xDt) :=
  if 64 ≤ v3 then (f_X12_moveKept_50 F P S F v0 v1 v2 0 D) else (xgrd (xin ((64 * v1) + v3) (xl S (xr S v0 5))) (xgrd (xin ((64 * v2) + v3) (xl S (xr S v0 5))) (xlet (xup D.1 (xr S v0 5) ((64 * v2) + v3).toNatClampNeg (D.1 (xr S v0 5) ((64 * v1) + v3).toNatClampNeg), D.2) fun D3 => xlet (v3 + 1) fun v3_4 => rec_14 v0 v1 v2 v3_4 D3)))
def f_X12_moveKept_14 (F P : Nat) (S : xSt) : Nat → Nat → Int32 → Int32 → Int32 → xDt → Option (xDt)
  | 0 => fun _ _ _ _ _ => none
  | n + 1 => f_X12_moveKept_14s F P S (f_X12_moveKept_14 F P S n)
set_option maxHeartbeats 4000000 in
theorem t_X12_moveKept_14s {F P : Nat} {S : xSt} (hS : xWF S) {rec_14 : Nat → Int32 → Int32 → Int32 → xDt → Option (xDt)} (hrec_14 : ∀ {v0 : Nat} {v1 : Int32} {v2 : Int32} {v3 : Int32} {D : xDt} {r : xDt}, xK S v0 12 → rec_14 v0 v1 v2 v3 D = some r → yEx md_X12_moveKept 0 14 [(0, .ref v0), (1, .int v1), (2, .int v2), (3, .int v3)] [] S D (xQv S r)) {v0 : Nat} {v1 : Int32} {v2 : Int32} {v3 : Int32} {D : xDt} {r : xDt} (k0 : xK S v0 12) (h : f_X12_moveKept_14s F P S rec_14 v0 v1 v2 v3 D = some r) : yEx md_X12_moveKept 0 14 [(0, .ref v0), (1, .int v1), (2, .int v2), (3, .int v3)] [] S D (xQv S r) := by
  unfold f_X12_moveKept_14s at h
  refine x_iload_n dX12_moveKept_14 3 rfl ?_
  refine x_bipush 64 dX12_moveKept_15 (by decide) ?_
  refine x_icmp_ge 48 dX12_moveKept_17 (by decide) (fun c => ?_) (fun c => ?_)
  · rw [if_pos c] at h
    refine x_iconst 0 dX12_moveKept_48 (by decide) ?_
    refine y_istore_n 0 rfl [(3, .int 0), (0, .ref v0), (1, .int v1), (2, .int v2)] dX12_moveKept_49 (by show _ < 4; decide) rfl ?_
    refine x_lv (lv' := [(0, .ref v0), (1, .int v1), (2, .int v2), (3, .int 0)]) [1, 2, 3, 0] rfl ?_
    exact t_X12_moveKept_50 hS F k0 h
  · rw [if_neg c] at h
    refine x_aload_n dX12_moveKept_20 0 rfl ?_
    refine y_getr (kd := 100) hS fl_RX12_59 dX12_moveKept_21 rfl k0 ?_
    refine x_bipush 64 dX12_moveKept_24 (by decide) ?_
    refine x_iload_n dX12_moveKept_26 2 rfl ?_
    refine x_imul dX12_moveKept_27 ?_
    refine x_iload_n dX12_moveKept_28 3 rfl ?_
    refine x_iadd dX12_moveKept_29 ?_
    refine x_aload_n dX12_moveKept_30 0 rfl ?_
    refine y_getr (kd := 100) hS fl_RX12_59 dX12_moveKept_31 rfl k0 ?_
    refine x_bipush 64 dX12_moveKept_34 (by decide) ?_
    refine x_iload_n dX12_moveKept_36 1 rfl ?_
    refine x_imul dX12_moveKept_37 ?_
    refine x_iload_n dX12_moveKept_38 3 rfl ?_
    refine x_iadd dX12_moveKept_39 ?_
    refine xgrd_e h (fun g1 h => ?_)
    refine y_iald dX12_moveKept_40 ((hS.f k0 5 100 rfl).2) g1 ?_
    refine xgrd_e h (fun g2 h => ?_)
    refine xlet_e h (fun D3 eD3 h => ?_)
    refine y_iast dX12_moveKept_41 ((hS.f k0 5 100 rfl).2) g2 eD3 ?_
    refine xlet_e h (fun v3_4 ev3_4 h => ?_)
    refine y_iinc v3_4 ev3_4 (by decide) [(3, .int v3_4), (0, .ref v0), (1, .int v1), (2, .int v2)] dX12_moveKept_42 3 rfl (by show _ < 4; decide) rfl ?_
    refine x_goto 14 dX12_moveKept_45 (by decide) ?_
    refine x_lv (lv' := [(0, .ref v0), (1, .int v1), (2, .int v2), (3, .int v3_4)]) [1, 2, 3, 0] rfl ?_
    exact hrec_14 k0 h
theorem t_X12_moveKept_14 {F P : Nat} {S : xSt} (hS : xWF S) : ∀ (n : Nat) {v0 : Nat} {v1 : Int32} {v2 : Int32} {v3 : Int32} {D : xDt} {r : xDt}, xK S v0 12 → f_X12_moveKept_14 F P S n v0 v1 v2 v3 D = some r → yEx md_X12_moveKept 0 14 [(0, .ref v0), (1, .int v1), (2, .int v2), (3, .int v3)] [] S D (xQv S r) := by
  intro n
  induction n with
  | zero => intros; rename_i h; cases h
  | succ n ih =>
    intro v0 v1 v2 v3 D r k0 h
    exact t_X12_moveKept_14s hS (fun k0 h => ih k0 h) k0 h

def f_X12_moveKept (F P : Nat) (S : xSt) (v0 : Nat) (v1 : Int32) (v2 : Int32) (D : xDt) : Option (xDt) :=
  xgrd (xin v1 (xl S (xr S v0 4))) (xgrd (xin v2 (xl S (xr S v0 4))) (xlet (xup D.1 (xr S v0 4) (v2).toNatClampNeg (D.1 (xr S v0 4) (v1).toNatClampNeg), D.2) fun D3 => f_X12_moveKept_14 F P S F v0 v1 v2 0 D3))
set_option maxHeartbeats 4000000 in
theorem S_X12_moveKept {F P : Nat} {S : xSt} (hS : xWF S) {v0 : Nat} {v1 : Int32} {v2 : Int32} {D : xDt} {r : xDt} (k0 : xK S v0 12) (h : f_X12_moveKept F P S v0 v1 v2 D = some r) : xSp md_X12_moveKept (0, 0, 0) [.ref v0, .int v1, .int v2] (S, D) (xQv S r) := by
  unfold f_X12_moveKept at h
  refine xEntry (by decide) (Nat.le_of_ble_eq_true rfl) ?_
  refine x_lv (lv' := [(0, .ref v0), (1, .int v1), (2, .int v2)]) [0, 1, 2] rfl ?_
  refine x_aload_n dX12_moveKept_0 0 rfl ?_
  refine y_getr (kd := 100) hS fl_RX12_56 dX12_moveKept_1 rfl k0 ?_
  refine x_iload_n dX12_moveKept_4 2 rfl ?_
  refine x_aload_n dX12_moveKept_5 0 rfl ?_
  refine y_getr (kd := 100) hS fl_RX12_56 dX12_moveKept_6 rfl k0 ?_
  refine x_iload_n dX12_moveKept_9 1 rfl ?_
  refine xgrd_e h (fun g1 h => ?_)
  refine y_iald dX12_moveKept_10 ((hS.f k0 4 100 rfl).2) g1 ?_
  refine xgrd_e h (fun g2 h => ?_)
  refine xlet_e h (fun D3 eD3 h => ?_)
  refine y_iast dX12_moveKept_11 ((hS.f k0 4 100 rfl).2) g2 eD3 ?_
  refine x_iconst 0 dX12_moveKept_12 (by decide) ?_
  refine y_istore_n 0 rfl [(3, .int 0), (0, .ref v0), (1, .int v1), (2, .int v2)] dX12_moveKept_13 (by show _ < 4; decide) rfl ?_
  refine x_lv (lv' := [(0, .ref v0), (1, .int v1), (2, .int v2), (3, .int 0)]) [1, 2, 3, 0] rfl ?_
  exact t_X12_moveKept_14 hS F k0 h

theorem dX12_keep_0 : decode cX12_keep 0 = .ok (.aload_n 0, 1) := by decide +kernel
theorem dX12_keep_1 : decode cX12_keep 1 = .ok (.getfield 28, 3) := by decide +kernel
theorem dX12_keep_4 : decode cX12_keep 4 = .ok (.bipush 12, 2) := by decide +kernel
theorem dX12_keep_6 : decode cX12_keep 6 = .ok (.if_icmp .ne 37, 3) := by decide +kernel
theorem dX12_keep_9 : decode cX12_keep 9 = .ok (.iconst 0, 1) := by decide +kernel
theorem dX12_keep_10 : decode cX12_keep 10 = .ok (.istore_n 1, 1) := by decide +kernel
theorem dX12_keep_11 : decode cX12_keep 11 = .ok (.iload_n 1, 1) := by decide +kernel
theorem dX12_keep_12 : decode cX12_keep 12 = .ok (.iconst 1, 1) := by decide +kernel
theorem dX12_keep_13 : decode cX12_keep 13 = .ok (.iadd, 1) := by decide +kernel
theorem dX12_keep_14 : decode cX12_keep 14 = .ok (.bipush 12, 2) := by decide +kernel
theorem dX12_keep_16 : decode cX12_keep 16 = .ok (.if_icmp .ge 17, 3) := by decide +kernel
theorem dX12_keep_19 : decode cX12_keep 19 = .ok (.aload_n 0, 1) := by decide +kernel
theorem dX12_keep_20 : decode cX12_keep 20 = .ok (.iload_n 1, 1) := by decide +kernel
theorem dX12_keep_21 : decode cX12_keep 21 = .ok (.iconst 1, 1) := by decide +kernel
theorem dX12_keep_22 : decode cX12_keep 22 = .ok (.iadd, 1) := by decide +kernel
theorem dX12_keep_23 : decode cX12_keep 23 = .ok (.iload_n 1, 1) := by decide +kernel
theorem dX12_keep_24 : decode cX12_keep 24 = .ok (.invokevirtual 52, 3) := by decide +kernel
theorem dX12_keep_27 : decode cX12_keep 27 = .ok (.iinc 1 1, 3) := by decide +kernel
theorem dX12_keep_30 : decode cX12_keep 30 = .ok (.goto (-19), 3) := by decide +kernel
theorem dX12_keep_33 : decode cX12_keep 33 = .ok (.aload_n 0, 1) := by decide +kernel
theorem dX12_keep_34 : decode cX12_keep 34 = .ok (.dup, 1) := by decide +kernel
theorem dX12_keep_35 : decode cX12_keep 35 = .ok (.getfield 28, 3) := by decide +kernel
theorem dX12_keep_38 : decode cX12_keep 38 = .ok (.iconst 1, 1) := by decide +kernel
theorem dX12_keep_39 : decode cX12_keep 39 = .ok (.isub, 1) := by decide +kernel
theorem dX12_keep_40 : decode cX12_keep 40 = .ok (.putfield 28, 3) := by decide +kernel
theorem dX12_keep_43 : decode cX12_keep 43 = .ok (.aload_n 0, 1) := by decide +kernel
theorem dX12_keep_44 : decode cX12_keep 44 = .ok (.getfield 56, 3) := by decide +kernel
theorem dX12_keep_47 : decode cX12_keep 47 = .ok (.aload_n 0, 1) := by decide +kernel
theorem dX12_keep_48 : decode cX12_keep 48 = .ok (.getfield 28, 3) := by decide +kernel
theorem dX12_keep_51 : decode cX12_keep 51 = .ok (.aload_n 0, 1) := by decide +kernel
theorem dX12_keep_52 : decode cX12_keep 52 = .ok (.getfield 7, 3) := by decide +kernel
theorem dX12_keep_55 : decode cX12_keep 55 = .ok (.iastore, 1) := by decide +kernel
theorem dX12_keep_56 : decode cX12_keep 56 = .ok (.iconst 0, 1) := by decide +kernel
theorem dX12_keep_57 : decode cX12_keep 57 = .ok (.istore_n 1, 1) := by decide +kernel
theorem dX12_keep_58 : decode cX12_keep 58 = .ok (.iload_n 1, 1) := by decide +kernel
theorem dX12_keep_59 : decode cX12_keep 59 = .ok (.bipush 64, 2) := by decide +kernel
theorem dX12_keep_61 : decode cX12_keep 61 = .ok (.if_icmp .ge 29, 3) := by decide +kernel
theorem dX12_keep_64 : decode cX12_keep 64 = .ok (.aload_n 0, 1) := by decide +kernel
theorem dX12_keep_65 : decode cX12_keep 65 = .ok (.getfield 59, 3) := by decide +kernel
theorem dX12_keep_68 : decode cX12_keep 68 = .ok (.bipush 64, 2) := by decide +kernel
theorem dX12_keep_70 : decode cX12_keep 70 = .ok (.aload_n 0, 1) := by decide +kernel
theorem dX12_keep_71 : decode cX12_keep 71 = .ok (.getfield 28, 3) := by decide +kernel
theorem dX12_keep_74 : decode cX12_keep 74 = .ok (.imul, 1) := by decide +kernel
theorem dX12_keep_75 : decode cX12_keep 75 = .ok (.iload_n 1, 1) := by decide +kernel
theorem dX12_keep_76 : decode cX12_keep 76 = .ok (.iadd, 1) := by decide +kernel
theorem dX12_keep_77 : decode cX12_keep 77 = .ok (.aload_n 0, 1) := by decide +kernel
theorem dX12_keep_78 : decode cX12_keep 78 = .ok (.getfield 31, 3) := by decide +kernel
theorem dX12_keep_81 : decode cX12_keep 81 = .ok (.iload_n 1, 1) := by decide +kernel
theorem dX12_keep_82 : decode cX12_keep 82 = .ok (.iaload, 1) := by decide +kernel
theorem dX12_keep_83 : decode cX12_keep 83 = .ok (.iastore, 1) := by decide +kernel
theorem dX12_keep_84 : decode cX12_keep 84 = .ok (.iinc 1 1, 3) := by decide +kernel
theorem dX12_keep_87 : decode cX12_keep 87 = .ok (.goto (-29), 3) := by decide +kernel
theorem dX12_keep_90 : decode cX12_keep 90 = .ok (.iconst 0, 1) := by decide +kernel
theorem dX12_keep_91 : decode cX12_keep 91 = .ok (.istore_n 1, 1) := by decide +kernel
theorem dX12_keep_92 : decode cX12_keep 92 = .ok (.iload_n 1, 1) := by decide +kernel
theorem dX12_keep_93 : decode cX12_keep 93 = .ok (.sipush 256, 3) := by decide +kernel
theorem dX12_keep_96 : decode cX12_keep 96 = .ok (.if_icmp .ge 30, 3) := by decide +kernel
theorem dX12_keep_99 : decode cX12_keep 99 = .ok (.aload_n 0, 1) := by decide +kernel
theorem dX12_keep_100 : decode cX12_keep 100 = .ok (.getfield 62, 3) := by decide +kernel
theorem dX12_keep_103 : decode cX12_keep 103 = .ok (.sipush 256, 3) := by decide +kernel
theorem dX12_keep_106 : decode cX12_keep 106 = .ok (.aload_n 0, 1) := by decide +kernel
theorem dX12_keep_107 : decode cX12_keep 107 = .ok (.getfield 28, 3) := by decide +kernel
theorem dX12_keep_110 : decode cX12_keep 110 = .ok (.imul, 1) := by decide +kernel
theorem dX12_keep_111 : decode cX12_keep 111 = .ok (.iload_n 1, 1) := by decide +kernel
theorem dX12_keep_112 : decode cX12_keep 112 = .ok (.iadd, 1) := by decide +kernel
theorem dX12_keep_113 : decode cX12_keep 113 = .ok (.aload_n 0, 1) := by decide +kernel
theorem dX12_keep_114 : decode cX12_keep 114 = .ok (.getfield 14, 3) := by decide +kernel
theorem dX12_keep_117 : decode cX12_keep 117 = .ok (.iload_n 1, 1) := by decide +kernel
theorem dX12_keep_118 : decode cX12_keep 118 = .ok (.iaload, 1) := by decide +kernel
theorem dX12_keep_119 : decode cX12_keep 119 = .ok (.iastore, 1) := by decide +kernel
theorem dX12_keep_120 : decode cX12_keep 120 = .ok (.iinc 1 1, 3) := by decide +kernel
theorem dX12_keep_123 : decode cX12_keep 123 = .ok (.goto (-31), 3) := by decide +kernel
theorem dX12_keep_126 : decode cX12_keep 126 = .ok (.aload_n 0, 1) := by decide +kernel
theorem dX12_keep_127 : decode cX12_keep 127 = .ok (.dup, 1) := by decide +kernel
theorem dX12_keep_128 : decode cX12_keep 128 = .ok (.getfield 28, 3) := by decide +kernel
theorem dX12_keep_131 : decode cX12_keep 131 = .ok (.iconst 1, 1) := by decide +kernel
theorem dX12_keep_132 : decode cX12_keep 132 = .ok (.iadd, 1) := by decide +kernel
theorem dX12_keep_133 : decode cX12_keep 133 = .ok (.putfield 28, 3) := by decide +kernel
theorem dX12_keep_136 : decode cX12_keep 136 = .ok (.return_, 1) := by decide +kernel
def f_X12_keep_92s (F P : Nat) (S : xSt) (rec_92 : Nat → Int32 → xDt → Option (xDt)) (v0 : Nat) (v1 : Int32) (D : xDt) : Option (xDt) :=
  if 256 ≤ v1 then (xlet (xup D.1 v0 7 ((D.1 v0 7) + 1), D.2) fun D1 => some D1) else (xgrd (xin v1 (xl S (xr S v0 3))) (xgrd (xin ((256 * (D.1 v0 7)) + v1) (xl S (xr S v0 6))) (xlet (xup D.1 (xr S v0 6) ((256 * (D.1 v0 7)) + v1).toNatClampNeg (D.1 (xr S v0 3) (v1).toNatClampNeg), D.2) fun D4 => xlet (v1 + 1) fun v1_5 => rec_92 v0 v1_5 D4)))
def f_X12_keep_92 (F P : Nat) (S : xSt) : Nat → Nat → Int32 → xDt → Option (xDt)
  | 0 => fun _ _ _ => none
  | n + 1 => f_X12_keep_92s F P S (f_X12_keep_92 F P S n)
set_option maxHeartbeats 4000000 in
theorem t_X12_keep_92s {F P : Nat} {S : xSt} (hS : xWF S) {rec_92 : Nat → Int32 → xDt → Option (xDt)} (hrec_92 : ∀ {v0 : Nat} {v1 : Int32} {D : xDt} {r : xDt}, xK S v0 12 → rec_92 v0 v1 D = some r → yEx md_X12_keep 1 92 [(0, .ref v0), (1, .int v1)] [] S D (xQv S r)) {v0 : Nat} {v1 : Int32} {D : xDt} {r : xDt} (k0 : xK S v0 12) (h : f_X12_keep_92s F P S rec_92 v0 v1 D = some r) : yEx md_X12_keep 1 92 [(0, .ref v0), (1, .int v1)] [] S D (xQv S r) := by
  unfold f_X12_keep_92s at h
  refine x_iload_n dX12_keep_92 1 rfl ?_
  refine x_sipush 256 dX12_keep_93 (by decide) ?_
  refine x_icmp_ge 126 dX12_keep_96 (by decide) (fun c => ?_) (fun c => ?_)
  · rw [if_pos c] at h
    refine x_aload_n dX12_keep_126 0 rfl ?_
    refine x_dup dX12_keep_127 rfl ?_
    refine y_geti fl_RX12_28 dX12_keep_128 rfl k0 ?_
    refine x_iconst 1 dX12_keep_131 (by decide) ?_
    refine x_iadd dX12_keep_132 ?_
    refine xlet_e h (fun D1 eD1 h => ?_)
    refine y_puti fp_RX12_28 dX12_keep_133 rfl k0 eD1 ?_
    obtain rfl := Option.some.inj h
    exact y_vret rfl dX12_keep_136
  · rw [if_neg c] at h
    refine x_aload_n dX12_keep_99 0 rfl ?_
    refine y_getr (kd := 100) hS fl_RX12_62 dX12_keep_100 rfl k0 ?_
    refine x_sipush 256 dX12_keep_103 (by decide) ?_
    refine x_aload_n dX12_keep_106 0 rfl ?_
    refine y_geti fl_RX12_28 dX12_keep_107 rfl k0 ?_
    refine x_imul dX12_keep_110 ?_
    refine x_iload_n dX12_keep_111 1 rfl ?_
    refine x_iadd dX12_keep_112 ?_
    refine x_aload_n dX12_keep_113 0 rfl ?_
    refine y_getr (kd := 100) hS fl_RX12_14 dX12_keep_114 rfl k0 ?_
    refine x_iload_n dX12_keep_117 1 rfl ?_
    refine xgrd_e h (fun g2 h => ?_)
    refine y_iald dX12_keep_118 ((hS.f k0 3 100 rfl).2) g2 ?_
    refine xgrd_e h (fun g3 h => ?_)
    refine xlet_e h (fun D4 eD4 h => ?_)
    refine y_iast dX12_keep_119 ((hS.f k0 6 100 rfl).2) g3 eD4 ?_
    refine xlet_e h (fun v1_5 ev1_5 h => ?_)
    refine y_iinc v1_5 ev1_5 (by decide) [(1, .int v1_5), (0, .ref v0)] dX12_keep_120 1 rfl (by show _ < 2; decide) rfl ?_
    refine x_goto 92 dX12_keep_123 (by decide) ?_
    refine x_lv (lv' := [(0, .ref v0), (1, .int v1_5)]) [1, 0] rfl ?_
    exact hrec_92 k0 h
theorem t_X12_keep_92 {F P : Nat} {S : xSt} (hS : xWF S) : ∀ (n : Nat) {v0 : Nat} {v1 : Int32} {D : xDt} {r : xDt}, xK S v0 12 → f_X12_keep_92 F P S n v0 v1 D = some r → yEx md_X12_keep 1 92 [(0, .ref v0), (1, .int v1)] [] S D (xQv S r) := by
  intro n
  induction n with
  | zero => intros; rename_i h; cases h
  | succ n ih =>
    intro v0 v1 D r k0 h
    exact t_X12_keep_92s hS (fun k0 h => ih k0 h) k0 h

def f_X12_keep_58s (F P : Nat) (S : xSt) (rec_58 : Nat → Int32 → xDt → Option (xDt)) (v0 : Nat) (v1 : Int32) (D : xDt) : Option (xDt) :=
  if 64 ≤ v1 then (f_X12_keep_92 F P S F v0 0 D) else (xgrd (xin v1 (xl S (xr S v0 2))) (xgrd (xin ((64 * (D.1 v0 7)) + v1) (xl S (xr S v0 5))) (xlet (xup D.1 (xr S v0 5) ((64 * (D.1 v0 7)) + v1).toNatClampNeg (D.1 (xr S v0 2) (v1).toNatClampNeg), D.2) fun D3 => xlet (v1 + 1) fun v1_4 => rec_58 v0 v1_4 D3)))
def f_X12_keep_58 (F P : Nat) (S : xSt) : Nat → Nat → Int32 → xDt → Option (xDt)
  | 0 => fun _ _ _ => none
  | n + 1 => f_X12_keep_58s F P S (f_X12_keep_58 F P S n)
set_option maxHeartbeats 4000000 in
theorem t_X12_keep_58s {F P : Nat} {S : xSt} (hS : xWF S) {rec_58 : Nat → Int32 → xDt → Option (xDt)} (hrec_58 : ∀ {v0 : Nat} {v1 : Int32} {D : xDt} {r : xDt}, xK S v0 12 → rec_58 v0 v1 D = some r → yEx md_X12_keep 1 58 [(0, .ref v0), (1, .int v1)] [] S D (xQv S r)) {v0 : Nat} {v1 : Int32} {D : xDt} {r : xDt} (k0 : xK S v0 12) (h : f_X12_keep_58s F P S rec_58 v0 v1 D = some r) : yEx md_X12_keep 1 58 [(0, .ref v0), (1, .int v1)] [] S D (xQv S r) := by
  unfold f_X12_keep_58s at h
  refine x_iload_n dX12_keep_58 1 rfl ?_
  refine x_bipush 64 dX12_keep_59 (by decide) ?_
  refine x_icmp_ge 90 dX12_keep_61 (by decide) (fun c => ?_) (fun c => ?_)
  · rw [if_pos c] at h
    refine x_iconst 0 dX12_keep_90 (by decide) ?_
    refine y_istore_n 0 rfl [(1, .int 0), (0, .ref v0)] dX12_keep_91 (by show _ < 2; decide) rfl ?_
    refine x_lv (lv' := [(0, .ref v0), (1, .int 0)]) [1, 0] rfl ?_
    exact t_X12_keep_92 hS F k0 h
  · rw [if_neg c] at h
    refine x_aload_n dX12_keep_64 0 rfl ?_
    refine y_getr (kd := 100) hS fl_RX12_59 dX12_keep_65 rfl k0 ?_
    refine x_bipush 64 dX12_keep_68 (by decide) ?_
    refine x_aload_n dX12_keep_70 0 rfl ?_
    refine y_geti fl_RX12_28 dX12_keep_71 rfl k0 ?_
    refine x_imul dX12_keep_74 ?_
    refine x_iload_n dX12_keep_75 1 rfl ?_
    refine x_iadd dX12_keep_76 ?_
    refine x_aload_n dX12_keep_77 0 rfl ?_
    refine y_getr (kd := 100) hS fl_RX12_31 dX12_keep_78 rfl k0 ?_
    refine x_iload_n dX12_keep_81 1 rfl ?_
    refine xgrd_e h (fun g1 h => ?_)
    refine y_iald dX12_keep_82 ((hS.f k0 2 100 rfl).2) g1 ?_
    refine xgrd_e h (fun g2 h => ?_)
    refine xlet_e h (fun D3 eD3 h => ?_)
    refine y_iast dX12_keep_83 ((hS.f k0 5 100 rfl).2) g2 eD3 ?_
    refine xlet_e h (fun v1_4 ev1_4 h => ?_)
    refine y_iinc v1_4 ev1_4 (by decide) [(1, .int v1_4), (0, .ref v0)] dX12_keep_84 1 rfl (by show _ < 2; decide) rfl ?_
    refine x_goto 58 dX12_keep_87 (by decide) ?_
    refine x_lv (lv' := [(0, .ref v0), (1, .int v1_4)]) [1, 0] rfl ?_
    exact hrec_58 k0 h
theorem t_X12_keep_58 {F P : Nat} {S : xSt} (hS : xWF S) : ∀ (n : Nat) {v0 : Nat} {v1 : Int32} {D : xDt} {r : xDt}, xK S v0 12 → f_X12_keep_58 F P S n v0 v1 D = some r → yEx md_X12_keep 1 58 [(0, .ref v0), (1, .int v1)] [] S D (xQv S r) := by
  intro n
  induction n with
  | zero => intros; rename_i h; cases h
  | succ n ih =>
    intro v0 v1 D r k0 h
    exact t_X12_keep_58s hS (fun k0 h => ih k0 h) k0 h

def f_X12_keep_43 (F P : Nat) (S : xSt) (v0 : Nat) (D : xDt) : Option (xDt) :=
  xgrd (xin (D.1 v0 7) (xl S (xr S v0 4))) (xlet (xup D.1 (xr S v0 4) (D.1 v0 7).toNatClampNeg (D.1 v0 1), D.2) fun D2 => f_X12_keep_58 F P S F v0 0 D2)
set_option maxHeartbeats 4000000 in
theorem t_X12_keep_43 {F P : Nat} {S : xSt} (hS : xWF S) {v0 : Nat} {D : xDt} {r : xDt} (k0 : xK S v0 12) (h : f_X12_keep_43 F P S v0 D = some r) : yEx md_X12_keep 1 43 [(0, .ref v0)] [] S D (xQv S r) := by
  unfold f_X12_keep_43 at h
  refine x_aload_n dX12_keep_43 0 rfl ?_
  refine y_getr (kd := 100) hS fl_RX12_56 dX12_keep_44 rfl k0 ?_
  refine x_aload_n dX12_keep_47 0 rfl ?_
  refine y_geti fl_RX12_28 dX12_keep_48 rfl k0 ?_
  refine x_aload_n dX12_keep_51 0 rfl ?_
  refine y_geti fl_RX12_7 dX12_keep_52 rfl k0 ?_
  refine xgrd_e h (fun g1 h => ?_)
  refine xlet_e h (fun D2 eD2 h => ?_)
  refine y_iast dX12_keep_55 ((hS.f k0 4 100 rfl).2) g1 eD2 ?_
  refine x_iconst 0 dX12_keep_56 (by decide) ?_
  refine y_istore_n 0 rfl [(1, .int 0), (0, .ref v0)] dX12_keep_57 (by show _ < 2; decide) rfl ?_
  refine x_lv (lv' := [(0, .ref v0), (1, .int 0)]) [1, 0] rfl ?_
  exact t_X12_keep_58 hS F k0 h

def f_X12_keep_11s (F P : Nat) (S : xSt) (rec_11 : Nat → Int32 → xDt → Option (xDt)) (v0 : Nat) (v1 : Int32) (D : xDt) : Option (xDt) :=
  if 12 ≤ (v1 + 1) then (xlet (xup D.1 v0 7 ((D.1 v0 7) - 1), D.2) fun D1 => f_X12_keep_43 F P S v0 D1) else ((f_X12_moveKept F P S v0 (v1 + 1) v1 D).bind fun q2 => xlet (v1 + 1) fun v1_3 => rec_11 v0 v1_3 q2)
def f_X12_keep_11 (F P : Nat) (S : xSt) : Nat → Nat → Int32 → xDt → Option (xDt)
  | 0 => fun _ _ _ => none
  | n + 1 => f_X12_keep_11s F P S (f_X12_keep_11 F P S n)
set_option maxHeartbeats 4000000 in
theorem t_X12_keep_11s {F P : Nat} {S : xSt} (hS : xWF S) {rec_11 : Nat → Int32 → xDt → Option (xDt)} (hrec_11 : ∀ {v0 : Nat} {v1 : Int32} {D : xDt} {r : xDt}, xK S v0 12 → rec_11 v0 v1 D = some r → yEx md_X12_keep 1 11 [(0, .ref v0), (1, .int v1)] [] S D (xQv S r)) {v0 : Nat} {v1 : Int32} {D : xDt} {r : xDt} (k0 : xK S v0 12) (h : f_X12_keep_11s F P S rec_11 v0 v1 D = some r) : yEx md_X12_keep 1 11 [(0, .ref v0), (1, .int v1)] [] S D (xQv S r) := by
  unfold f_X12_keep_11s at h
  refine x_iload_n dX12_keep_11 1 rfl ?_
  refine x_iconst 1 dX12_keep_12 (by decide) ?_
  refine x_iadd dX12_keep_13 ?_
  refine x_bipush 12 dX12_keep_14 (by decide) ?_
  refine x_icmp_ge 33 dX12_keep_16 (by decide) (fun c => ?_) (fun c => ?_)
  · rw [if_pos c] at h
    refine x_aload_n dX12_keep_33 0 rfl ?_
    refine x_dup dX12_keep_34 rfl ?_
    refine y_geti fl_RX12_28 dX12_keep_35 rfl k0 ?_
    refine x_iconst 1 dX12_keep_38 (by decide) ?_
    refine x_isub dX12_keep_39 ?_
    refine xlet_e h (fun D1 eD1 h => ?_)
    refine y_puti fp_RX12_28 dX12_keep_40 rfl k0 eD1 ?_
    refine x_lv (lv' := [(0, .ref v0)]) [0] rfl ?_
    exact t_X12_keep_43 hS k0 h
  · rw [if_neg c] at h
    refine x_aload_n dX12_keep_19 0 rfl ?_
    refine x_iload_n dX12_keep_20 1 rfl ?_
    refine x_iconst 1 dX12_keep_21 (by decide) ?_
    refine x_iadd dX12_keep_22 ?_
    refine x_iload_n dX12_keep_23 1 rfl ?_
    refine xbnd_e h (fun q2 e2 h => ?_)
    refine y_callVv (As := [.int (v1 + 1), .int v1]) (q := q2) cv_RX12_52 dX12_keep_24 k0 rfl (Nat.le_of_ble_eq_true rfl) (by omega) (S_X12_moveKept hS k0 e2) ?_
    refine xlet_e h (fun v1_3 ev1_3 h => ?_)
    refine y_iinc v1_3 ev1_3 (by decide) [(1, .int v1_3), (0, .ref v0)] dX12_keep_27 1 rfl (by show _ < 2; decide) rfl ?_
    refine x_goto 11 dX12_keep_30 (by decide) ?_
    refine x_lv (lv' := [(0, .ref v0), (1, .int v1_3)]) [1, 0] rfl ?_
    exact hrec_11 k0 h
theorem t_X12_keep_11 {F P : Nat} {S : xSt} (hS : xWF S) : ∀ (n : Nat) {v0 : Nat} {v1 : Int32} {D : xDt} {r : xDt}, xK S v0 12 → f_X12_keep_11 F P S n v0 v1 D = some r → yEx md_X12_keep 1 11 [(0, .ref v0), (1, .int v1)] [] S D (xQv S r) := by
  intro n
  induction n with
  | zero => intros; rename_i h; cases h
  | succ n ih =>
    intro v0 v1 D r k0 h
    exact t_X12_keep_11s hS (fun k0 h => ih k0 h) k0 h

def f_X12_keep (F P : Nat) (S : xSt) (v0 : Nat) (D : xDt) : Option (xDt) :=
  if (D.1 v0 7) = 12 then (f_X12_keep_11 F P S F v0 0 D) else (f_X12_keep_43 F P S v0 D)
set_option maxHeartbeats 4000000 in
theorem S_X12_keep {F P : Nat} {S : xSt} (hS : xWF S) {v0 : Nat} {D : xDt} {r : xDt} (k0 : xK S v0 12) (h : f_X12_keep F P S v0 D = some r) : xSp md_X12_keep (1, 0, 0) [.ref v0] (S, D) (xQv S r) := by
  unfold f_X12_keep at h
  refine xEntry (by decide) (Nat.le_of_ble_eq_true rfl) ?_
  refine x_lv (lv' := [(0, .ref v0)]) [0] rfl ?_
  refine x_aload_n dX12_keep_0 0 rfl ?_
  refine y_geti fl_RX12_28 dX12_keep_1 rfl k0 ?_
  refine x_bipush 12 dX12_keep_4 (by decide) ?_
  refine x_icmp_ne 43 dX12_keep_6 (by decide) (fun c => ?_) (fun c => ?_)
  · rw [if_neg c] at h
    exact t_X12_keep_43 hS k0 h
  · rw [if_pos c] at h
    refine x_iconst 0 dX12_keep_9 (by decide) ?_
    refine y_istore_n 0 rfl [(1, .int 0), (0, .ref v0)] dX12_keep_10 (by show _ < 2; decide) rfl ?_
    refine x_lv (lv' := [(0, .ref v0), (1, .int 0)]) [1, 0] rfl ?_
    exact t_X12_keep_11 hS F k0 h

theorem dX12_back_0 : decode cX12_back 0 = .ok (.aload_n 0, 1) := by decide +kernel
theorem dX12_back_1 : decode cX12_back 1 = .ok (.getfield 28, 3) := by decide +kernel
theorem dX12_back_4 : decode cX12_back 4 = .ok (.ifCond .ne 5, 3) := by decide +kernel
theorem dX12_back_7 : decode cX12_back 7 = .ok (.iconst (-1), 1) := by decide +kernel
theorem dX12_back_8 : decode cX12_back 8 = .ok (.ireturn, 1) := by decide +kernel
theorem dX12_back_9 : decode cX12_back 9 = .ok (.aload_n 0, 1) := by decide +kernel
theorem dX12_back_10 : decode cX12_back 10 = .ok (.dup, 1) := by decide +kernel
theorem dX12_back_11 : decode cX12_back 11 = .ok (.getfield 28, 3) := by decide +kernel
theorem dX12_back_14 : decode cX12_back 14 = .ok (.iconst 1, 1) := by decide +kernel
theorem dX12_back_15 : decode cX12_back 15 = .ok (.isub, 1) := by decide +kernel
theorem dX12_back_16 : decode cX12_back 16 = .ok (.putfield 28, 3) := by decide +kernel
theorem dX12_back_19 : decode cX12_back 19 = .ok (.aload_n 0, 1) := by decide +kernel
theorem dX12_back_20 : decode cX12_back 20 = .ok (.aload_n 0, 1) := by decide +kernel
theorem dX12_back_21 : decode cX12_back 21 = .ok (.getfield 56, 3) := by decide +kernel
theorem dX12_back_24 : decode cX12_back 24 = .ok (.aload_n 0, 1) := by decide +kernel
theorem dX12_back_25 : decode cX12_back 25 = .ok (.getfield 28, 3) := by decide +kernel
theorem dX12_back_28 : decode cX12_back 28 = .ok (.iaload, 1) := by decide +kernel
theorem dX12_back_29 : decode cX12_back 29 = .ok (.putfield 7, 3) := by decide +kernel
theorem dX12_back_32 : decode cX12_back 32 = .ok (.iconst 0, 1) := by decide +kernel
theorem dX12_back_33 : decode cX12_back 33 = .ok (.istore_n 1, 1) := by decide +kernel
theorem dX12_back_34 : decode cX12_back 34 = .ok (.iload_n 1, 1) := by decide +kernel
theorem dX12_back_35 : decode cX12_back 35 = .ok (.bipush 64, 2) := by decide +kernel
theorem dX12_back_37 : decode cX12_back 37 = .ok (.if_icmp .ge 29, 3) := by decide +kernel
theorem dX12_back_40 : decode cX12_back 40 = .ok (.aload_n 0, 1) := by decide +kernel
theorem dX12_back_41 : decode cX12_back 41 = .ok (.getfield 31, 3) := by decide +kernel
theorem dX12_back_44 : decode cX12_back 44 = .ok (.iload_n 1, 1) := by decide +kernel
theorem dX12_back_45 : decode cX12_back 45 = .ok (.aload_n 0, 1) := by decide +kernel
theorem dX12_back_46 : decode cX12_back 46 = .ok (.getfield 59, 3) := by decide +kernel
theorem dX12_back_49 : decode cX12_back 49 = .ok (.bipush 64, 2) := by decide +kernel
theorem dX12_back_51 : decode cX12_back 51 = .ok (.aload_n 0, 1) := by decide +kernel
theorem dX12_back_52 : decode cX12_back 52 = .ok (.getfield 28, 3) := by decide +kernel
theorem dX12_back_55 : decode cX12_back 55 = .ok (.imul, 1) := by decide +kernel
theorem dX12_back_56 : decode cX12_back 56 = .ok (.iload_n 1, 1) := by decide +kernel
theorem dX12_back_57 : decode cX12_back 57 = .ok (.iadd, 1) := by decide +kernel
theorem dX12_back_58 : decode cX12_back 58 = .ok (.iaload, 1) := by decide +kernel
theorem dX12_back_59 : decode cX12_back 59 = .ok (.iastore, 1) := by decide +kernel
theorem dX12_back_60 : decode cX12_back 60 = .ok (.iinc 1 1, 3) := by decide +kernel
theorem dX12_back_63 : decode cX12_back 63 = .ok (.goto (-29), 3) := by decide +kernel
theorem dX12_back_66 : decode cX12_back 66 = .ok (.iconst 0, 1) := by decide +kernel
theorem dX12_back_67 : decode cX12_back 67 = .ok (.istore_n 1, 1) := by decide +kernel
theorem dX12_back_68 : decode cX12_back 68 = .ok (.iload_n 1, 1) := by decide +kernel
theorem dX12_back_69 : decode cX12_back 69 = .ok (.sipush 256, 3) := by decide +kernel
theorem dX12_back_72 : decode cX12_back 72 = .ok (.if_icmp .ge 30, 3) := by decide +kernel
theorem dX12_back_75 : decode cX12_back 75 = .ok (.aload_n 0, 1) := by decide +kernel
theorem dX12_back_76 : decode cX12_back 76 = .ok (.getfield 14, 3) := by decide +kernel
theorem dX12_back_79 : decode cX12_back 79 = .ok (.iload_n 1, 1) := by decide +kernel
theorem dX12_back_80 : decode cX12_back 80 = .ok (.aload_n 0, 1) := by decide +kernel
theorem dX12_back_81 : decode cX12_back 81 = .ok (.getfield 62, 3) := by decide +kernel
theorem dX12_back_84 : decode cX12_back 84 = .ok (.sipush 256, 3) := by decide +kernel
theorem dX12_back_87 : decode cX12_back 87 = .ok (.aload_n 0, 1) := by decide +kernel
theorem dX12_back_88 : decode cX12_back 88 = .ok (.getfield 28, 3) := by decide +kernel
theorem dX12_back_91 : decode cX12_back 91 = .ok (.imul, 1) := by decide +kernel
theorem dX12_back_92 : decode cX12_back 92 = .ok (.iload_n 1, 1) := by decide +kernel
theorem dX12_back_93 : decode cX12_back 93 = .ok (.iadd, 1) := by decide +kernel
theorem dX12_back_94 : decode cX12_back 94 = .ok (.iaload, 1) := by decide +kernel
theorem dX12_back_95 : decode cX12_back 95 = .ok (.iastore, 1) := by decide +kernel
theorem dX12_back_96 : decode cX12_back 96 = .ok (.iinc 1 1, 3) := by decide +kernel
theorem dX12_back_99 : decode cX12_back 99 = .ok (.goto (-31), 3) := by decide +kernel
theorem dX12_back_102 : decode cX12_back 102 = .ok (.aload_n 0, 1) := by decide +kernel
theorem dX12_back_103 : decode cX12_back 103 = .ok (.getfield 7, 3) := by decide +kernel
theorem dX12_back_106 : decode cX12_back 106 = .ok (.ireturn, 1) := by decide +kernel
def f_X12_back_68s (F P : Nat) (S : xSt) (rec_68 : Nat → Int32 → xDt → Option (Int32 × xDt)) (v0 : Nat) (v1 : Int32) (D : xDt) : Option (Int32 × xDt) :=
  if 256 ≤ v1 then (some (D.1 v0 1, D)) else (xgrd (xin ((256 * (D.1 v0 7)) + v1) (xl S (xr S v0 6))) (xgrd (xin v1 (xl S (xr S v0 3))) (xlet (xup D.1 (xr S v0 3) (v1).toNatClampNeg (D.1 (xr S v0 6) ((256 * (D.1 v0 7)) + v1).toNatClampNeg), D.2) fun D3 => xlet (v1 + 1) fun v1_4 => rec_68 v0 v1_4 D3)))
def f_X12_back_68 (F P : Nat) (S : xSt) : Nat → Nat → Int32 → xDt → Option (Int32 × xDt)
  | 0 => fun _ _ _ => none
  | n + 1 => f_X12_back_68s F P S (f_X12_back_68 F P S n)
set_option maxHeartbeats 4000000 in
theorem t_X12_back_68s {F P : Nat} {S : xSt} (hS : xWF S) {rec_68 : Nat → Int32 → xDt → Option (Int32 × xDt)} (hrec_68 : ∀ {v0 : Nat} {v1 : Int32} {D : xDt} {r : Int32 × xDt}, xK S v0 12 → rec_68 v0 v1 D = some r → yEx md_X12_back 0 68 [(0, .ref v0), (1, .int v1)] [] S D (xQi S r)) {v0 : Nat} {v1 : Int32} {D : xDt} {r : Int32 × xDt} (k0 : xK S v0 12) (h : f_X12_back_68s F P S rec_68 v0 v1 D = some r) : yEx md_X12_back 0 68 [(0, .ref v0), (1, .int v1)] [] S D (xQi S r) := by
  unfold f_X12_back_68s at h
  refine x_iload_n dX12_back_68 1 rfl ?_
  refine x_sipush 256 dX12_back_69 (by decide) ?_
  refine x_icmp_ge 102 dX12_back_72 (by decide) (fun c => ?_) (fun c => ?_)
  · rw [if_pos c] at h
    refine x_aload_n dX12_back_102 0 rfl ?_
    refine y_geti fl_RX12_7 dX12_back_103 rfl k0 ?_
    obtain rfl := Option.some.inj h
    exact y_iret rfl dX12_back_106
  · rw [if_neg c] at h
    refine x_aload_n dX12_back_75 0 rfl ?_
    refine y_getr (kd := 100) hS fl_RX12_14 dX12_back_76 rfl k0 ?_
    refine x_iload_n dX12_back_79 1 rfl ?_
    refine x_aload_n dX12_back_80 0 rfl ?_
    refine y_getr (kd := 100) hS fl_RX12_62 dX12_back_81 rfl k0 ?_
    refine x_sipush 256 dX12_back_84 (by decide) ?_
    refine x_aload_n dX12_back_87 0 rfl ?_
    refine y_geti fl_RX12_28 dX12_back_88 rfl k0 ?_
    refine x_imul dX12_back_91 ?_
    refine x_iload_n dX12_back_92 1 rfl ?_
    refine x_iadd dX12_back_93 ?_
    refine xgrd_e h (fun g1 h => ?_)
    refine y_iald dX12_back_94 ((hS.f k0 6 100 rfl).2) g1 ?_
    refine xgrd_e h (fun g2 h => ?_)
    refine xlet_e h (fun D3 eD3 h => ?_)
    refine y_iast dX12_back_95 ((hS.f k0 3 100 rfl).2) g2 eD3 ?_
    refine xlet_e h (fun v1_4 ev1_4 h => ?_)
    refine y_iinc v1_4 ev1_4 (by decide) [(1, .int v1_4), (0, .ref v0)] dX12_back_96 1 rfl (by show _ < 2; decide) rfl ?_
    refine x_goto 68 dX12_back_99 (by decide) ?_
    refine x_lv (lv' := [(0, .ref v0), (1, .int v1_4)]) [1, 0] rfl ?_
    exact hrec_68 k0 h
theorem t_X12_back_68 {F P : Nat} {S : xSt} (hS : xWF S) : ∀ (n : Nat) {v0 : Nat} {v1 : Int32} {D : xDt} {r : Int32 × xDt}, xK S v0 12 → f_X12_back_68 F P S n v0 v1 D = some r → yEx md_X12_back 0 68 [(0, .ref v0), (1, .int v1)] [] S D (xQi S r) := by
  intro n
  induction n with
  | zero => intros; rename_i h; cases h
  | succ n ih =>
    intro v0 v1 D r k0 h
    exact t_X12_back_68s hS (fun k0 h => ih k0 h) k0 h

def f_X12_back_34s (F P : Nat) (S : xSt) (rec_34 : Nat → Int32 → xDt → Option (Int32 × xDt)) (v0 : Nat) (v1 : Int32) (D : xDt) : Option (Int32 × xDt) :=
  if 64 ≤ v1 then (f_X12_back_68 F P S F v0 0 D) else (xgrd (xin ((64 * (D.1 v0 7)) + v1) (xl S (xr S v0 5))) (xgrd (xin v1 (xl S (xr S v0 2))) (xlet (xup D.1 (xr S v0 2) (v1).toNatClampNeg (D.1 (xr S v0 5) ((64 * (D.1 v0 7)) + v1).toNatClampNeg), D.2) fun D3 => xlet (v1 + 1) fun v1_4 => rec_34 v0 v1_4 D3)))
def f_X12_back_34 (F P : Nat) (S : xSt) : Nat → Nat → Int32 → xDt → Option (Int32 × xDt)
  | 0 => fun _ _ _ => none
  | n + 1 => f_X12_back_34s F P S (f_X12_back_34 F P S n)
set_option maxHeartbeats 4000000 in
theorem t_X12_back_34s {F P : Nat} {S : xSt} (hS : xWF S) {rec_34 : Nat → Int32 → xDt → Option (Int32 × xDt)} (hrec_34 : ∀ {v0 : Nat} {v1 : Int32} {D : xDt} {r : Int32 × xDt}, xK S v0 12 → rec_34 v0 v1 D = some r → yEx md_X12_back 0 34 [(0, .ref v0), (1, .int v1)] [] S D (xQi S r)) {v0 : Nat} {v1 : Int32} {D : xDt} {r : Int32 × xDt} (k0 : xK S v0 12) (h : f_X12_back_34s F P S rec_34 v0 v1 D = some r) : yEx md_X12_back 0 34 [(0, .ref v0), (1, .int v1)] [] S D (xQi S r) := by
  unfold f_X12_back_34s at h
  refine x_iload_n dX12_back_34 1 rfl ?_
  refine x_bipush 64 dX12_back_35 (by decide) ?_
  refine x_icmp_ge 66 dX12_back_37 (by decide) (fun c => ?_) (fun c => ?_)
  · rw [if_pos c] at h
    refine x_iconst 0 dX12_back_66 (by decide) ?_
    refine y_istore_n 0 rfl [(1, .int 0), (0, .ref v0)] dX12_back_67 (by show _ < 2; decide) rfl ?_
    refine x_lv (lv' := [(0, .ref v0), (1, .int 0)]) [1, 0] rfl ?_
    exact t_X12_back_68 hS F k0 h
  · rw [if_neg c] at h
    refine x_aload_n dX12_back_40 0 rfl ?_
    refine y_getr (kd := 100) hS fl_RX12_31 dX12_back_41 rfl k0 ?_
    refine x_iload_n dX12_back_44 1 rfl ?_
    refine x_aload_n dX12_back_45 0 rfl ?_
    refine y_getr (kd := 100) hS fl_RX12_59 dX12_back_46 rfl k0 ?_
    refine x_bipush 64 dX12_back_49 (by decide) ?_
    refine x_aload_n dX12_back_51 0 rfl ?_
    refine y_geti fl_RX12_28 dX12_back_52 rfl k0 ?_
    refine x_imul dX12_back_55 ?_
    refine x_iload_n dX12_back_56 1 rfl ?_
    refine x_iadd dX12_back_57 ?_
    refine xgrd_e h (fun g1 h => ?_)
    refine y_iald dX12_back_58 ((hS.f k0 5 100 rfl).2) g1 ?_
    refine xgrd_e h (fun g2 h => ?_)
    refine xlet_e h (fun D3 eD3 h => ?_)
    refine y_iast dX12_back_59 ((hS.f k0 2 100 rfl).2) g2 eD3 ?_
    refine xlet_e h (fun v1_4 ev1_4 h => ?_)
    refine y_iinc v1_4 ev1_4 (by decide) [(1, .int v1_4), (0, .ref v0)] dX12_back_60 1 rfl (by show _ < 2; decide) rfl ?_
    refine x_goto 34 dX12_back_63 (by decide) ?_
    refine x_lv (lv' := [(0, .ref v0), (1, .int v1_4)]) [1, 0] rfl ?_
    exact hrec_34 k0 h
theorem t_X12_back_34 {F P : Nat} {S : xSt} (hS : xWF S) : ∀ (n : Nat) {v0 : Nat} {v1 : Int32} {D : xDt} {r : Int32 × xDt}, xK S v0 12 → f_X12_back_34 F P S n v0 v1 D = some r → yEx md_X12_back 0 34 [(0, .ref v0), (1, .int v1)] [] S D (xQi S r) := by
  intro n
  induction n with
  | zero => intros; rename_i h; cases h
  | succ n ih =>
    intro v0 v1 D r k0 h
    exact t_X12_back_34s hS (fun k0 h => ih k0 h) k0 h

def f_X12_back (F P : Nat) (S : xSt) (v0 : Nat) (D : xDt) : Option (Int32 × xDt) :=
  if (D.1 v0 7) = 0 then (some ((-1), D)) else (xlet (xup D.1 v0 7 ((D.1 v0 7) - 1), D.2) fun D1 => xgrd (xin (D1.1 v0 7) (xl S (xr S v0 4))) (xlet (xup D1.1 v0 1 (D1.1 (xr S v0 4) (D1.1 v0 7).toNatClampNeg), D1.2) fun D3 => f_X12_back_34 F P S F v0 0 D3))
set_option maxHeartbeats 4000000 in
theorem S_X12_back {F P : Nat} {S : xSt} (hS : xWF S) {v0 : Nat} {D : xDt} {r : Int32 × xDt} (k0 : xK S v0 12) (h : f_X12_back F P S v0 D = some r) : xSp md_X12_back (0, 0, 0) [.ref v0] (S, D) (xQi S r) := by
  unfold f_X12_back at h
  refine xEntry (by decide) (Nat.le_of_ble_eq_true rfl) ?_
  refine x_lv (lv' := [(0, .ref v0)]) [0] rfl ?_
  refine x_aload_n dX12_back_0 0 rfl ?_
  refine y_geti fl_RX12_28 dX12_back_1 rfl k0 ?_
  refine x_if_ne 9 dX12_back_4 (by decide) (fun c => ?_) (fun c => ?_)
  · rw [if_neg c] at h
    refine x_aload_n dX12_back_9 0 rfl ?_
    refine x_dup dX12_back_10 rfl ?_
    refine y_geti fl_RX12_28 dX12_back_11 rfl k0 ?_
    refine x_iconst 1 dX12_back_14 (by decide) ?_
    refine x_isub dX12_back_15 ?_
    refine xlet_e h (fun D1 eD1 h => ?_)
    refine y_puti fp_RX12_28 dX12_back_16 rfl k0 eD1 ?_
    refine x_aload_n dX12_back_19 0 rfl ?_
    refine x_aload_n dX12_back_20 0 rfl ?_
    refine y_getr (kd := 100) hS fl_RX12_56 dX12_back_21 rfl k0 ?_
    refine x_aload_n dX12_back_24 0 rfl ?_
    refine y_geti fl_RX12_28 dX12_back_25 rfl k0 ?_
    refine xgrd_e h (fun g2 h => ?_)
    refine y_iald dX12_back_28 ((hS.f k0 4 100 rfl).2) g2 ?_
    refine xlet_e h (fun D3 eD3 h => ?_)
    refine y_puti fp_RX12_7 dX12_back_29 rfl k0 eD3 ?_
    refine x_iconst 0 dX12_back_32 (by decide) ?_
    refine y_istore_n 0 rfl [(1, .int 0), (0, .ref v0)] dX12_back_33 (by show _ < 2; decide) rfl ?_
    refine x_lv (lv' := [(0, .ref v0), (1, .int 0)]) [1, 0] rfl ?_
    exact t_X12_back_34 hS F k0 h
  · rw [if_pos c] at h
    refine x_iconst (-1) dX12_back_7 (by decide) ?_
    obtain rfl := Option.some.inj h
    exact y_iret rfl dX12_back_8

theorem dX12_node_0 : decode cX12_node 0 = .ok (.aload_n 0, 1) := by decide +kernel
theorem dX12_node_1 : decode cX12_node 1 = .ok (.getfield 72, 3) := by decide +kernel
theorem dX12_node_4 : decode cX12_node 4 = .ok (.aload_n 0, 1) := by decide +kernel
theorem dX12_node_5 : decode cX12_node 5 = .ok (.getfield 153, 3) := by decide +kernel
theorem dX12_node_8 : decode cX12_node 8 = .ok (.iload_n 1, 1) := by decide +kernel
theorem dX12_node_9 : decode cX12_node 9 = .ok (.iastore, 1) := by decide +kernel
theorem dX12_node_10 : decode cX12_node 10 = .ok (.aload_n 0, 1) := by decide +kernel
theorem dX12_node_11 : decode cX12_node 11 = .ok (.getfield 75, 3) := by decide +kernel
theorem dX12_node_14 : decode cX12_node 14 = .ok (.aload_n 0, 1) := by decide +kernel
theorem dX12_node_15 : decode cX12_node 15 = .ok (.getfield 153, 3) := by decide +kernel
theorem dX12_node_18 : decode cX12_node 18 = .ok (.iload_n 2, 1) := by decide +kernel
theorem dX12_node_19 : decode cX12_node 19 = .ok (.iastore, 1) := by decide +kernel
theorem dX12_node_20 : decode cX12_node 20 = .ok (.aload_n 0, 1) := by decide +kernel
theorem dX12_node_21 : decode cX12_node 21 = .ok (.getfield 78, 3) := by decide +kernel
theorem dX12_node_24 : decode cX12_node 24 = .ok (.aload_n 0, 1) := by decide +kernel
theorem dX12_node_25 : decode cX12_node 25 = .ok (.getfield 153, 3) := by decide +kernel
theorem dX12_node_28 : decode cX12_node 28 = .ok (.iload_n 3, 1) := by decide +kernel
theorem dX12_node_29 : decode cX12_node 29 = .ok (.iastore, 1) := by decide +kernel
theorem dX12_node_30 : decode cX12_node 30 = .ok (.aload_n 0, 1) := by decide +kernel
theorem dX12_node_31 : decode cX12_node 31 = .ok (.getfield 81, 3) := by decide +kernel
theorem dX12_node_34 : decode cX12_node 34 = .ok (.aload_n 0, 1) := by decide +kernel
theorem dX12_node_35 : decode cX12_node 35 = .ok (.getfield 153, 3) := by decide +kernel
theorem dX12_node_38 : decode cX12_node 38 = .ok (.iload 4, 2) := by decide +kernel
theorem dX12_node_40 : decode cX12_node 40 = .ok (.iastore, 1) := by decide +kernel
theorem dX12_node_41 : decode cX12_node 41 = .ok (.iconst 1, 1) := by decide +kernel
theorem dX12_node_42 : decode cX12_node 42 = .ok (.iload_n 2, 1) := by decide +kernel
theorem dX12_node_43 : decode cX12_node 43 = .ok (.ifCond .ge 7, 3) := by decide +kernel
theorem dX12_node_46 : decode cX12_node 46 = .ok (.iconst 0, 1) := by decide +kernel
theorem dX12_node_47 : decode cX12_node 47 = .ok (.goto 9, 3) := by decide +kernel
theorem dX12_node_50 : decode cX12_node 50 = .ok (.aload_n 0, 1) := by decide +kernel
theorem dX12_node_51 : decode cX12_node 51 = .ok (.getfield 84, 3) := by decide +kernel
theorem dX12_node_54 : decode cX12_node 54 = .ok (.iload_n 2, 1) := by decide +kernel
theorem dX12_node_55 : decode cX12_node 55 = .ok (.iaload, 1) := by decide +kernel
theorem dX12_node_56 : decode cX12_node 56 = .ok (.iadd, 1) := by decide +kernel
theorem dX12_node_57 : decode cX12_node 57 = .ok (.iload_n 3, 1) := by decide +kernel
theorem dX12_node_58 : decode cX12_node 58 = .ok (.ifCond .ge 7, 3) := by decide +kernel
theorem dX12_node_61 : decode cX12_node 61 = .ok (.iconst 0, 1) := by decide +kernel
theorem dX12_node_62 : decode cX12_node 62 = .ok (.goto 9, 3) := by decide +kernel
theorem dX12_node_65 : decode cX12_node 65 = .ok (.aload_n 0, 1) := by decide +kernel
theorem dX12_node_66 : decode cX12_node 66 = .ok (.getfield 84, 3) := by decide +kernel
theorem dX12_node_69 : decode cX12_node 69 = .ok (.iload_n 3, 1) := by decide +kernel
theorem dX12_node_70 : decode cX12_node 70 = .ok (.iaload, 1) := by decide +kernel
theorem dX12_node_71 : decode cX12_node 71 = .ok (.iadd, 1) := by decide +kernel
theorem dX12_node_72 : decode cX12_node 72 = .ok (.istore 5, 2) := by decide +kernel
theorem dX12_node_74 : decode cX12_node 74 = .ok (.aload_n 0, 1) := by decide +kernel
theorem dX12_node_75 : decode cX12_node 75 = .ok (.getfield 84, 3) := by decide +kernel
theorem dX12_node_78 : decode cX12_node 78 = .ok (.aload_n 0, 1) := by decide +kernel
theorem dX12_node_79 : decode cX12_node 79 = .ok (.getfield 153, 3) := by decide +kernel
theorem dX12_node_82 : decode cX12_node 82 = .ok (.iload 5, 2) := by decide +kernel
theorem dX12_node_84 : decode cX12_node 84 = .ok (.ldc 163, 2) := by decide +kernel
theorem dX12_node_86 : decode cX12_node 86 = .ok (.if_icmp .le 8, 3) := by decide +kernel
theorem dX12_node_89 : decode cX12_node 89 = .ok (.ldc 163, 2) := by decide +kernel
theorem dX12_node_91 : decode cX12_node 91 = .ok (.goto 5, 3) := by decide +kernel
theorem dX12_node_94 : decode cX12_node 94 = .ok (.iload 5, 2) := by decide +kernel
theorem dX12_node_96 : decode cX12_node 96 = .ok (.iastore, 1) := by decide +kernel
theorem dX12_node_97 : decode cX12_node 97 = .ok (.aload_n 0, 1) := by decide +kernel
theorem dX12_node_98 : decode cX12_node 98 = .ok (.dup, 1) := by decide +kernel
theorem dX12_node_99 : decode cX12_node 99 = .ok (.getfield 153, 3) := by decide +kernel
theorem dX12_node_102 : decode cX12_node 102 = .ok (.iconst 1, 1) := by decide +kernel
theorem dX12_node_103 : decode cX12_node 103 = .ok (.iadd, 1) := by decide +kernel
theorem dX12_node_104 : decode cX12_node 104 = .ok (.putfield 153, 3) := by decide +kernel
theorem dX12_node_107 : decode cX12_node 107 = .ok (.aload_n 0, 1) := by decide +kernel
theorem dX12_node_108 : decode cX12_node 108 = .ok (.getfield 153, 3) := by decide +kernel
theorem dX12_node_111 : decode cX12_node 111 = .ok (.iconst 1, 1) := by decide +kernel
theorem dX12_node_112 : decode cX12_node 112 = .ok (.isub, 1) := by decide +kernel
theorem dX12_node_113 : decode cX12_node 113 = .ok (.ireturn, 1) := by decide +kernel
def f_X12_node_96 (F P : Nat) (S : xSt) (v0 : Nat) (s0 : Int32) (s1 : Int32) (s2 : Nat) (D : xDt) : Option (Int32 × xDt) :=
  xgrd (xin s1 (xl S s2)) (xlet (xup D.1 s2 (s1).toNatClampNeg s0, D.2) fun D2 => xlet (xup D2.1 v0 13 ((D2.1 v0 13) + 1), D2.2) fun D3 => some ((D3.1 v0 13) - 1, D3))
set_option maxHeartbeats 4000000 in
theorem t_X12_node_96 {F P : Nat} {S : xSt} (hS : xWF S) {v0 : Nat} {s0 : Int32} {s1 : Int32} {s2 : Nat} {D : xDt} {r : Int32 × xDt} (k0 : xK S v0 12) (ks2 : xK S s2 100) (h : f_X12_node_96 F P S v0 s0 s1 s2 D = some r) : yEx md_X12_node 0 96 [(0, .ref v0)] [.int s0, .int s1, .ref s2] S D (xQi S r) := by
  unfold f_X12_node_96 at h
  refine xgrd_e h (fun g1 h => ?_)
  refine xlet_e h (fun D2 eD2 h => ?_)
  refine y_iast dX12_node_96 ks2 g1 eD2 ?_
  refine x_aload_n dX12_node_97 0 rfl ?_
  refine x_dup dX12_node_98 rfl ?_
  refine y_geti fl_RX12_153 dX12_node_99 rfl k0 ?_
  refine x_iconst 1 dX12_node_102 (by decide) ?_
  refine x_iadd dX12_node_103 ?_
  refine xlet_e h (fun D3 eD3 h => ?_)
  refine y_puti fp_RX12_153 dX12_node_104 rfl k0 eD3 ?_
  refine x_aload_n dX12_node_107 0 rfl ?_
  refine y_geti fl_RX12_153 dX12_node_108 rfl k0 ?_
  refine x_iconst 1 dX12_node_111 (by decide) ?_
  refine x_isub dX12_node_112 ?_
  obtain rfl := Option.some.inj h
  exact y_iret rfl dX12_node_113

def f_X12_node_71 (F P : Nat) (S : xSt) (v0 : Nat) (s0 : Int32) (s1 : Int32) (D : xDt) : Option (Int32 × xDt) :=
  xlet (s1 + s0) fun v5_1 => if v5_1 ≤ 1000000 then (f_X12_node_96 F P S v0 v5_1 (D.1 v0 13) (xr S v0 12) D) else (f_X12_node_96 F P S v0 1000000 (D.1 v0 13) (xr S v0 12) D)
set_option maxHeartbeats 4000000 in
theorem t_X12_node_71 {F P : Nat} {S : xSt} (hS : xWF S) {v0 : Nat} {s0 : Int32} {s1 : Int32} {D : xDt} {r : Int32 × xDt} (k0 : xK S v0 12) (h : f_X12_node_71 F P S v0 s0 s1 D = some r) : yEx md_X12_node 0 71 [(0, .ref v0)] [.int s0, .int s1] S D (xQi S r) := by
  unfold f_X12_node_71 at h
  refine x_iadd dX12_node_71 ?_
  refine xlet_e h (fun v5_1 ev5_1 h => ?_)
  refine y_istore v5_1 ev5_1 [(5, .int v5_1), (0, .ref v0)] dX12_node_72 (by show _ < 6; decide) rfl ?_
  refine x_aload_n dX12_node_74 1 rfl ?_
  refine y_getr (kd := 100) hS fl_RX12_84 dX12_node_75 rfl k0 ?_
  refine x_aload_n dX12_node_78 1 rfl ?_
  refine y_geti fl_RX12_153 dX12_node_79 rfl k0 ?_
  refine x_iload dX12_node_82 0 rfl ?_
  refine x_ldc 1000000 dX12_node_84 wd_1150 ?_
  refine x_icmp_le 94 dX12_node_86 (by decide) (fun c => ?_) (fun c => ?_)
  · rw [if_pos c] at h
    refine x_iload dX12_node_94 0 rfl ?_
    refine x_lv (lv' := [(0, .ref v0)]) [1] rfl ?_
    exact t_X12_node_96 hS k0 ((hS.f k0 12 100 rfl).2) h
  · rw [if_neg c] at h
    refine x_ldc 1000000 dX12_node_89 wd_1150 ?_
    refine x_goto 96 dX12_node_91 (by decide) ?_
    refine x_lv (lv' := [(0, .ref v0)]) [1] rfl ?_
    exact t_X12_node_96 hS k0 ((hS.f k0 12 100 rfl).2) h

def f_X12_node_56 (F P : Nat) (S : xSt) (v0 : Nat) (v3 : Int32) (s0 : Int32) (s1 : Int32) (D : xDt) : Option (Int32 × xDt) :=
  if 0 ≤ v3 then (xgrd (xin v3 (xl S (xr S v0 12))) (f_X12_node_71 F P S v0 (D.1 (xr S v0 12) (v3).toNatClampNeg) (s1 + s0) D)) else (f_X12_node_71 F P S v0 0 (s1 + s0) D)
set_option maxHeartbeats 4000000 in
theorem t_X12_node_56 {F P : Nat} {S : xSt} (hS : xWF S) {v0 : Nat} {v3 : Int32} {s0 : Int32} {s1 : Int32} {D : xDt} {r : Int32 × xDt} (k0 : xK S v0 12) (h : f_X12_node_56 F P S v0 v3 s0 s1 D = some r) : yEx md_X12_node 0 56 [(0, .ref v0), (3, .int v3)] [.int s0, .int s1] S D (xQi S r) := by
  unfold f_X12_node_56 at h
  refine x_iadd dX12_node_56 ?_
  refine x_iload_n dX12_node_57 1 rfl ?_
  refine x_if_ge 65 dX12_node_58 (by decide) (fun c => ?_) (fun c => ?_)
  · rw [if_pos c] at h
    refine x_aload_n dX12_node_65 0 rfl ?_
    refine y_getr (kd := 100) hS fl_RX12_84 dX12_node_66 rfl k0 ?_
    refine x_iload_n dX12_node_69 1 rfl ?_
    refine xgrd_e h (fun g1 h => ?_)
    refine y_iald dX12_node_70 ((hS.f k0 12 100 rfl).2) g1 ?_
    refine x_lv (lv' := [(0, .ref v0)]) [0] rfl ?_
    exact t_X12_node_71 hS k0 h
  · rw [if_neg c] at h
    refine x_iconst 0 dX12_node_61 (by decide) ?_
    refine x_goto 71 dX12_node_62 (by decide) ?_
    refine x_lv (lv' := [(0, .ref v0)]) [0] rfl ?_
    exact t_X12_node_71 hS k0 h

def f_X12_node (F P : Nat) (S : xSt) (v0 : Nat) (v1 : Int32) (v2 : Int32) (v3 : Int32) (v4 : Int32) (D : xDt) : Option (Int32 × xDt) :=
  xgrd (xin (D.1 v0 13) (xl S (xr S v0 8))) (xlet (xup D.1 (xr S v0 8) (D.1 v0 13).toNatClampNeg v1, D.2) fun D2 => xgrd (xin (D2.1 v0 13) (xl S (xr S v0 9))) (xlet (xup D2.1 (xr S v0 9) (D2.1 v0 13).toNatClampNeg v2, D2.2) fun D4 => xgrd (xin (D4.1 v0 13) (xl S (xr S v0 10))) (xlet (xup D4.1 (xr S v0 10) (D4.1 v0 13).toNatClampNeg v3, D4.2) fun D6 => xgrd (xin (D6.1 v0 13) (xl S (xr S v0 11))) (xlet (xup D6.1 (xr S v0 11) (D6.1 v0 13).toNatClampNeg v4, D6.2) fun D8 => if 0 ≤ v2 then (xgrd (xin v2 (xl S (xr S v0 12))) (f_X12_node_56 F P S v0 v3 (D8.1 (xr S v0 12) (v2).toNatClampNeg) 1 D8)) else (f_X12_node_56 F P S v0 v3 0 1 D8)))))
set_option maxHeartbeats 4000000 in
theorem S_X12_node {F P : Nat} {S : xSt} (hS : xWF S) {v0 : Nat} {v1 : Int32} {v2 : Int32} {v3 : Int32} {v4 : Int32} {D : xDt} {r : Int32 × xDt} (k0 : xK S v0 12) (h : f_X12_node F P S v0 v1 v2 v3 v4 D = some r) : xSp md_X12_node (0, 0, 0) [.ref v0, .int v1, .int v2, .int v3, .int v4] (S, D) (xQi S r) := by
  unfold f_X12_node at h
  refine xEntry (by decide) (Nat.le_of_ble_eq_true rfl) ?_
  refine x_lv (lv' := [(0, .ref v0), (1, .int v1), (2, .int v2), (3, .int v3), (4, .int v4)]) [0, 1, 2, 3, 4] rfl ?_
  refine x_aload_n dX12_node_0 0 rfl ?_
  refine y_getr (kd := 100) hS fl_RX12_72 dX12_node_1 rfl k0 ?_
  refine x_aload_n dX12_node_4 0 rfl ?_
  refine y_geti fl_RX12_153 dX12_node_5 rfl k0 ?_
  refine x_iload_n dX12_node_8 1 rfl ?_
  refine xgrd_e h (fun g1 h => ?_)
  refine xlet_e h (fun D2 eD2 h => ?_)
  refine y_iast dX12_node_9 ((hS.f k0 8 100 rfl).2) g1 eD2 ?_
  refine x_aload_n dX12_node_10 0 rfl ?_
  refine y_getr (kd := 100) hS fl_RX12_75 dX12_node_11 rfl k0 ?_
  refine x_aload_n dX12_node_14 0 rfl ?_
  refine y_geti fl_RX12_153 dX12_node_15 rfl k0 ?_
  refine x_iload_n dX12_node_18 2 rfl ?_
  refine xgrd_e h (fun g3 h => ?_)
  refine xlet_e h (fun D4 eD4 h => ?_)
  refine y_iast dX12_node_19 ((hS.f k0 9 100 rfl).2) g3 eD4 ?_
  refine x_aload_n dX12_node_20 0 rfl ?_
  refine y_getr (kd := 100) hS fl_RX12_78 dX12_node_21 rfl k0 ?_
  refine x_aload_n dX12_node_24 0 rfl ?_
  refine y_geti fl_RX12_153 dX12_node_25 rfl k0 ?_
  refine x_iload_n dX12_node_28 3 rfl ?_
  refine xgrd_e h (fun g5 h => ?_)
  refine xlet_e h (fun D6 eD6 h => ?_)
  refine y_iast dX12_node_29 ((hS.f k0 10 100 rfl).2) g5 eD6 ?_
  refine x_aload_n dX12_node_30 0 rfl ?_
  refine y_getr (kd := 100) hS fl_RX12_81 dX12_node_31 rfl k0 ?_
  refine x_aload_n dX12_node_34 0 rfl ?_
  refine y_geti fl_RX12_153 dX12_node_35 rfl k0 ?_
  refine x_iload dX12_node_38 4 rfl ?_
  refine xgrd_e h (fun g7 h => ?_)
  refine xlet_e h (fun D8 eD8 h => ?_)
  refine y_iast dX12_node_40 ((hS.f k0 11 100 rfl).2) g7 eD8 ?_
  refine x_iconst 1 dX12_node_41 (by decide) ?_
  refine x_iload_n dX12_node_42 2 rfl ?_
  refine x_if_ge 50 dX12_node_43 (by decide) (fun c => ?_) (fun c => ?_)
  · rw [if_pos c] at h
    refine x_aload_n dX12_node_50 0 rfl ?_
    refine y_getr (kd := 100) hS fl_RX12_84 dX12_node_51 rfl k0 ?_
    refine x_iload_n dX12_node_54 2 rfl ?_
    refine xgrd_e h (fun g9 h => ?_)
    refine y_iald dX12_node_55 ((hS.f k0 12 100 rfl).2) g9 ?_
    refine x_lv (lv' := [(0, .ref v0), (3, .int v3)]) [0, 3] rfl ?_
    exact t_X12_node_56 hS k0 h
  · rw [if_neg c] at h
    refine x_iconst 0 dX12_node_46 (by decide) ?_
    refine x_goto 56 dX12_node_47 (by decide) ?_
    refine x_lv (lv' := [(0, .ref v0), (3, .int v3)]) [0, 3] rfl ?_
    exact t_X12_node_56 hS k0 h

theorem dX12_copied_0 : decode cX12_copied 0 = .ok (.aload_n 0, 1) := by decide +kernel
theorem dX12_copied_1 : decode cX12_copied 1 = .ok (.getfield 75, 3) := by decide +kernel
theorem dX12_copied_4 : decode cX12_copied 4 = .ok (.iload_n 1, 1) := by decide +kernel
theorem dX12_copied_5 : decode cX12_copied 5 = .ok (.iaload, 1) := by decide +kernel
theorem dX12_copied_6 : decode cX12_copied 6 = .ok (.ifCond .ge 8, 3) := by decide +kernel
theorem dX12_copied_9 : decode cX12_copied 9 = .ok (.bipush (-2), 2) := by decide +kernel
theorem dX12_copied_11 : decode cX12_copied 11 = .ok (.goto 13, 3) := by decide +kernel
theorem dX12_copied_14 : decode cX12_copied 14 = .ok (.aload_n 0, 1) := by decide +kernel
theorem dX12_copied_15 : decode cX12_copied 15 = .ok (.aload_n 0, 1) := by decide +kernel
theorem dX12_copied_16 : decode cX12_copied 16 = .ok (.getfield 75, 3) := by decide +kernel
theorem dX12_copied_19 : decode cX12_copied 19 = .ok (.iload_n 1, 1) := by decide +kernel
theorem dX12_copied_20 : decode cX12_copied 20 = .ok (.iaload, 1) := by decide +kernel
theorem dX12_copied_21 : decode cX12_copied 21 = .ok (.invokevirtual 164, 3) := by decide +kernel
theorem dX12_copied_24 : decode cX12_copied 24 = .ok (.istore_n 2, 1) := by decide +kernel
theorem dX12_copied_25 : decode cX12_copied 25 = .ok (.aload_n 0, 1) := by decide +kernel
theorem dX12_copied_26 : decode cX12_copied 26 = .ok (.getfield 78, 3) := by decide +kernel
theorem dX12_copied_29 : decode cX12_copied 29 = .ok (.iload_n 1, 1) := by decide +kernel
theorem dX12_copied_30 : decode cX12_copied 30 = .ok (.iaload, 1) := by decide +kernel
theorem dX12_copied_31 : decode cX12_copied 31 = .ok (.ifCond .ge 8, 3) := by decide +kernel
theorem dX12_copied_34 : decode cX12_copied 34 = .ok (.bipush (-2), 2) := by decide +kernel
theorem dX12_copied_36 : decode cX12_copied 36 = .ok (.goto 13, 3) := by decide +kernel
theorem dX12_copied_39 : decode cX12_copied 39 = .ok (.aload_n 0, 1) := by decide +kernel
theorem dX12_copied_40 : decode cX12_copied 40 = .ok (.aload_n 0, 1) := by decide +kernel
theorem dX12_copied_41 : decode cX12_copied 41 = .ok (.getfield 78, 3) := by decide +kernel
theorem dX12_copied_44 : decode cX12_copied 44 = .ok (.iload_n 1, 1) := by decide +kernel
theorem dX12_copied_45 : decode cX12_copied 45 = .ok (.iaload, 1) := by decide +kernel
theorem dX12_copied_46 : decode cX12_copied 46 = .ok (.invokevirtual 164, 3) := by decide +kernel
theorem dX12_copied_49 : decode cX12_copied 49 = .ok (.istore_n 3, 1) := by decide +kernel
theorem dX12_copied_50 : decode cX12_copied 50 = .ok (.aload_n 0, 1) := by decide +kernel
theorem dX12_copied_51 : decode cX12_copied 51 = .ok (.aload_n 0, 1) := by decide +kernel
theorem dX12_copied_52 : decode cX12_copied 52 = .ok (.getfield 72, 3) := by decide +kernel
theorem dX12_copied_55 : decode cX12_copied 55 = .ok (.iload_n 1, 1) := by decide +kernel
theorem dX12_copied_56 : decode cX12_copied 56 = .ok (.iaload, 1) := by decide +kernel
theorem dX12_copied_57 : decode cX12_copied 57 = .ok (.iload_n 2, 1) := by decide +kernel
theorem dX12_copied_58 : decode cX12_copied 58 = .ok (.iload_n 3, 1) := by decide +kernel
theorem dX12_copied_59 : decode cX12_copied 59 = .ok (.aload_n 0, 1) := by decide +kernel
theorem dX12_copied_60 : decode cX12_copied 60 = .ok (.getfield 81, 3) := by decide +kernel
theorem dX12_copied_63 : decode cX12_copied 63 = .ok (.iload_n 1, 1) := by decide +kernel
theorem dX12_copied_64 : decode cX12_copied 64 = .ok (.iaload, 1) := by decide +kernel
theorem dX12_copied_65 : decode cX12_copied 65 = .ok (.invokevirtual 156, 3) := by decide +kernel
theorem dX12_copied_68 : decode cX12_copied 68 = .ok (.ireturn, 1) := by decide +kernel
def f_X12_copied_49 (F P : Nat) (S : xSt) (self_X12_copied : Nat → Int32 → xDt → Option (Int32 × xDt)) (v0 : Nat) (v1 : Int32) (v2 : Int32) (s0 : Int32) (D : xDt) : Option (Int32 × xDt) :=
  xgrd (xin v1 (xl S (xr S v0 8))) (xgrd (xin v1 (xl S (xr S v0 11))) ((f_X12_node F P S v0 (D.1 (xr S v0 8) (v1).toNatClampNeg) v2 s0 (D.1 (xr S v0 11) (v1).toNatClampNeg) D).bind fun q3 => some (q3.1, q3.2)))
set_option maxHeartbeats 4000000 in
theorem t_X12_copied_49 {F P : Nat} {S : xSt} (hS : xWF S) {hh : Nat} (hhc : 1 ≤ hh) {self_X12_copied : Nat → Int32 → xDt → Option (Int32 × xDt)} (hself_X12_copied : ∀ {v0 : Nat} {v1 : Int32} {D : xDt} {r : Int32 × xDt}, xK S v0 12 → self_X12_copied v0 v1 D = some r → xSp md_X12_copied (hh, 0, 0) [.ref v0, .int v1] (S, D) (xQi S r)) {v0 : Nat} {v1 : Int32} {v2 : Int32} {s0 : Int32} {D : xDt} {r : Int32 × xDt} (k0 : xK S v0 12) (h : f_X12_copied_49 F P S self_X12_copied v0 v1 v2 s0 D = some r) : yEx md_X12_copied (hh + 1) 49 [(0, .ref v0), (1, .int v1), (2, .int v2)] [.int s0] S D (xQi S r) := by
  unfold f_X12_copied_49 at h
  refine y_istore_n s0 rfl [(3, .int s0), (0, .ref v0), (1, .int v1), (2, .int v2)] dX12_copied_49 (by show _ < 4; decide) rfl ?_
  refine x_aload_n dX12_copied_50 1 rfl ?_
  refine x_aload_n dX12_copied_51 1 rfl ?_
  refine y_getr (kd := 100) hS fl_RX12_72 dX12_copied_52 rfl k0 ?_
  refine x_iload_n dX12_copied_55 2 rfl ?_
  refine xgrd_e h (fun g1 h => ?_)
  refine y_iald dX12_copied_56 ((hS.f k0 8 100 rfl).2) g1 ?_
  refine x_iload_n dX12_copied_57 3 rfl ?_
  refine x_iload_n dX12_copied_58 0 rfl ?_
  refine x_aload_n dX12_copied_59 1 rfl ?_
  refine y_getr (kd := 100) hS fl_RX12_81 dX12_copied_60 rfl k0 ?_
  refine x_iload_n dX12_copied_63 2 rfl ?_
  refine xgrd_e h (fun g2 h => ?_)
  refine y_iald dX12_copied_64 ((hS.f k0 11 100 rfl).2) g2 ?_
  refine xbnd_e h (fun q3 e3 h => ?_)
  refine y_callVi (As := [.int (D.1 (xr S v0 8) (v1).toNatClampNeg), .int v2, .int s0, .int (D.1 (xr S v0 11) (v1).toNatClampNeg)]) (q := q3) cv_RX12_156 dX12_copied_65 k0 rfl (Nat.le_of_ble_eq_true rfl) (by omega) (S_X12_node hS k0 e3) ?_
  obtain rfl := Option.some.inj h
  exact y_iret rfl dX12_copied_68

def f_X12_copied_24 (F P : Nat) (S : xSt) (self_X12_copied : Nat → Int32 → xDt → Option (Int32 × xDt)) (v0 : Nat) (v1 : Int32) (s0 : Int32) (D : xDt) : Option (Int32 × xDt) :=
  xgrd (xin v1 (xl S (xr S v0 10))) (if 0 ≤ (D.1 (xr S v0 10) (v1).toNatClampNeg) then (xgrd (xin v1 (xl S (xr S v0 10))) ((self_X12_copied v0 (D.1 (xr S v0 10) (v1).toNatClampNeg) D).bind fun q3 => f_X12_copied_49 F P S self_X12_copied v0 v1 s0 q3.1 q3.2)) else (f_X12_copied_49 F P S self_X12_copied v0 v1 s0 (-2) D))
set_option maxHeartbeats 4000000 in
theorem t_X12_copied_24 {F P : Nat} {S : xSt} (hS : xWF S) {hh : Nat} (hhc : 1 ≤ hh) {self_X12_copied : Nat → Int32 → xDt → Option (Int32 × xDt)} (hself_X12_copied : ∀ {v0 : Nat} {v1 : Int32} {D : xDt} {r : Int32 × xDt}, xK S v0 12 → self_X12_copied v0 v1 D = some r → xSp md_X12_copied (hh, 0, 0) [.ref v0, .int v1] (S, D) (xQi S r)) {v0 : Nat} {v1 : Int32} {s0 : Int32} {D : xDt} {r : Int32 × xDt} (k0 : xK S v0 12) (h : f_X12_copied_24 F P S self_X12_copied v0 v1 s0 D = some r) : yEx md_X12_copied (hh + 1) 24 [(0, .ref v0), (1, .int v1)] [.int s0] S D (xQi S r) := by
  unfold f_X12_copied_24 at h
  refine y_istore_n s0 rfl [(2, .int s0), (0, .ref v0), (1, .int v1)] dX12_copied_24 (by show _ < 4; decide) rfl ?_
  refine x_aload_n dX12_copied_25 1 rfl ?_
  refine y_getr (kd := 100) hS fl_RX12_78 dX12_copied_26 rfl k0 ?_
  refine x_iload_n dX12_copied_29 2 rfl ?_
  refine xgrd_e h (fun g1 h => ?_)
  refine y_iald dX12_copied_30 ((hS.f k0 10 100 rfl).2) g1 ?_
  refine x_if_ge 39 dX12_copied_31 (by decide) (fun c => ?_) (fun c => ?_)
  · rw [if_pos c] at h
    refine x_aload_n dX12_copied_39 1 rfl ?_
    refine x_aload_n dX12_copied_40 1 rfl ?_
    refine y_getr (kd := 100) hS fl_RX12_78 dX12_copied_41 rfl k0 ?_
    refine x_iload_n dX12_copied_44 2 rfl ?_
    refine xgrd_e h (fun g2 h => ?_)
    refine y_iald dX12_copied_45 ((hS.f k0 10 100 rfl).2) g2 ?_
    refine xbnd_e h (fun q3 e3 h => ?_)
    refine y_callVi (As := [.int (D.1 (xr S v0 10) (v1).toNatClampNeg)]) (q := q3) cv_RX12_164 dX12_copied_46 k0 rfl (Nat.le_of_ble_eq_true rfl) (by omega) (hself_X12_copied k0 e3) ?_
    refine x_lv (lv' := [(0, .ref v0), (1, .int v1), (2, .int s0)]) [1, 2, 0] rfl ?_
    exact t_X12_copied_49 hS hhc hself_X12_copied k0 h
  · rw [if_neg c] at h
    refine x_bipush (-2) dX12_copied_34 (by decide) ?_
    refine x_goto 49 dX12_copied_36 (by decide) ?_
    refine x_lv (lv' := [(0, .ref v0), (1, .int v1), (2, .int s0)]) [1, 2, 0] rfl ?_
    exact t_X12_copied_49 hS hhc hself_X12_copied k0 h

def f_X12_copied_o (F P : Nat) (S : xSt) (self_X12_copied : Nat → Int32 → xDt → Option (Int32 × xDt)) (v0 : Nat) (v1 : Int32) (D : xDt) : Option (Int32 × xDt) :=
  xgrd (xin v1 (xl S (xr S v0 9))) (if 0 ≤ (D.1 (xr S v0 9) (v1).toNatClampNeg) then (xgrd (xin v1 (xl S (xr S v0 9))) ((self_X12_copied v0 (D.1 (xr S v0 9) (v1).toNatClampNeg) D).bind fun q3 => f_X12_copied_24 F P S self_X12_copied v0 v1 q3.1 q3.2)) else (f_X12_copied_24 F P S self_X12_copied v0 v1 (-2) D))
set_option maxHeartbeats 4000000 in
theorem S_X12_copied_o {F P : Nat} {S : xSt} (hS : xWF S) {hh : Nat} (hhc : 1 ≤ hh) {self_X12_copied : Nat → Int32 → xDt → Option (Int32 × xDt)} (hself_X12_copied : ∀ {v0 : Nat} {v1 : Int32} {D : xDt} {r : Int32 × xDt}, xK S v0 12 → self_X12_copied v0 v1 D = some r → xSp md_X12_copied (hh, 0, 0) [.ref v0, .int v1] (S, D) (xQi S r)) {v0 : Nat} {v1 : Int32} {D : xDt} {r : Int32 × xDt} (k0 : xK S v0 12) (h : f_X12_copied_o F P S self_X12_copied v0 v1 D = some r) : xSp md_X12_copied ((hh + 1), 0, 0) [.ref v0, .int v1] (S, D) (xQi S r) := by
  unfold f_X12_copied_o at h
  refine xEntry (by decide) (Nat.le_of_ble_eq_true rfl) ?_
  refine x_lv (lv' := [(0, .ref v0), (1, .int v1)]) [0, 1] rfl ?_
  refine x_aload_n dX12_copied_0 0 rfl ?_
  refine y_getr (kd := 100) hS fl_RX12_75 dX12_copied_1 rfl k0 ?_
  refine x_iload_n dX12_copied_4 1 rfl ?_
  refine xgrd_e h (fun g1 h => ?_)
  refine y_iald dX12_copied_5 ((hS.f k0 9 100 rfl).2) g1 ?_
  refine x_if_ge 14 dX12_copied_6 (by decide) (fun c => ?_) (fun c => ?_)
  · rw [if_pos c] at h
    refine x_aload_n dX12_copied_14 0 rfl ?_
    refine x_aload_n dX12_copied_15 0 rfl ?_
    refine y_getr (kd := 100) hS fl_RX12_75 dX12_copied_16 rfl k0 ?_
    refine x_iload_n dX12_copied_19 1 rfl ?_
    refine xgrd_e h (fun g2 h => ?_)
    refine y_iald dX12_copied_20 ((hS.f k0 9 100 rfl).2) g2 ?_
    refine xbnd_e h (fun q3 e3 h => ?_)
    refine y_callVi (As := [.int (D.1 (xr S v0 9) (v1).toNatClampNeg)]) (q := q3) cv_RX12_164 dX12_copied_21 k0 rfl (Nat.le_of_ble_eq_true rfl) (by omega) (hself_X12_copied k0 e3) ?_
    exact t_X12_copied_24 hS hhc hself_X12_copied k0 h
  · rw [if_neg c] at h
    refine x_bipush (-2) dX12_copied_9 (by decide) ?_
    refine x_goto 24 dX12_copied_11 (by decide) ?_
    exact t_X12_copied_24 hS hhc hself_X12_copied k0 h

def f_X12_copied (F P : Nat) (S : xSt) : Nat → Nat → Int32 → xDt → Option (Int32 × xDt)
  | 0 => fun _ _ _ => none
  | n + 1 => f_X12_copied_o F P S (f_X12_copied F P S n)
theorem S_X12_copied {F P : Nat} {S : xSt} (hS : xWF S) : ∀ (n : Nat) {v0 : Nat} {v1 : Int32} {D : xDt} {r : Int32 × xDt}, xK S v0 12 → f_X12_copied F P S n v0 v1 D = some r → xSp md_X12_copied (n + 1, 0, 0) [.ref v0, .int v1] (S, D) (xQi S r) := by
  intro n
  induction n with
  | zero => intros; rename_i h; cases h
  | succ n ih =>
    intro v0 v1 D r k0 h
    have := S_X12_copied_o hS (hh := n + 1) (by omega) (fun k0 h => ih k0 h) k0 h
    rw [show n + 1 + 1 = n + 1 + 1 by omega]
    exact this

