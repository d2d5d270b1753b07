/-! printed by wip/whole/gen.py: the methods as plain functions, each proved to be what its bytecode does -/
theorem dX6_enter_0 : decode cX6_enter 0 = .ok (.aload_n 0, 1) := by decide +kernel
theorem dX6_enter_1 : decode cX6_enter 1 = .ok (.dup, 1) := by decide +kernel
theorem dX6_enter_2 : decode cX6_enter 2 = .ok (.getfield 57, 3) := by decide +kernel
theorem dX6_enter_5 : decode cX6_enter 5 = .ok (.iconst 1, 1) := by decide +kernel
theorem dX6_enter_6 : decode cX6_enter 6 = .ok (.iadd, 1) := by decide +kernel
theorem dX6_enter_7 : decode cX6_enter 7 = .ok (.putfield 57, 3) := by decide +kernel
theorem dX6_enter_10 : decode cX6_enter 10 = .ok (.aload_n 0, 1) := by decide +kernel
theorem dX6_enter_11 : decode cX6_enter 11 = .ok (.getfield 24, 3) := by decide +kernel
theorem dX6_enter_14 : decode cX6_enter 14 = .ok (.aload_n 0, 1) := by decide +kernel
theorem dX6_enter_15 : decode cX6_enter 15 = .ok (.getfield 57, 3) := by decide +kernel
theorem dX6_enter_18 : decode cX6_enter 18 = .ok (.iload_n 1, 1) := by decide +kernel
theorem dX6_enter_19 : decode cX6_enter 19 = .ok (.castore, 1) := by decide +kernel
theorem dX6_enter_20 : decode cX6_enter 20 = .ok (.aload_n 0, 1) := by decide +kernel
theorem dX6_enter_21 : decode cX6_enter 21 = .ok (.getfield 37, 3) := by decide +kernel
theorem dX6_enter_24 : decode cX6_enter 24 = .ok (.aload_n 0, 1) := by decide +kernel
theorem dX6_enter_25 : decode cX6_enter 25 = .ok (.getfield 57, 3) := by decide +kernel
theorem dX6_enter_28 : decode cX6_enter 28 = .ok (.aload_n 0, 1) := by decide +kernel
theorem dX6_enter_29 : decode cX6_enter 29 = .ok (.getfield 89, 3) := by decide +kernel
theorem dX6_enter_32 : decode cX6_enter 32 = .ok (.iastore, 1) := by decide +kernel
theorem dX6_enter_33 : decode cX6_enter 33 = .ok (.aload_n 0, 1) := by decide +kernel
theorem dX6_enter_34 : decode cX6_enter 34 = .ok (.getfield 40, 3) := by decide +kernel
theorem dX6_enter_37 : decode cX6_enter 37 = .ok (.aload_n 0, 1) := by decide +kernel
theorem dX6_enter_38 : decode cX6_enter 38 = .ok (.getfield 57, 3) := by decide +kernel
theorem dX6_enter_41 : decode cX6_enter 41 = .ok (.iconst 0, 1) := by decide +kernel
theorem dX6_enter_42 : decode cX6_enter 42 = .ok (.bastore, 1) := by decide +kernel
theorem dX6_enter_43 : decode cX6_enter 43 = .ok (.aload_n 0, 1) := by decide +kernel
theorem dX6_enter_44 : decode cX6_enter 44 = .ok (.getfield 27, 3) := by decide +kernel
theorem dX6_enter_47 : decode cX6_enter 47 = .ok (.aload_n 0, 1) := by decide +kernel
theorem dX6_enter_48 : decode cX6_enter 48 = .ok (.getfield 57, 3) := by decide +kernel
theorem dX6_enter_51 : decode cX6_enter 51 = .ok (.aload_n 0, 1) := by decide +kernel
theorem dX6_enter_52 : decode cX6_enter 52 = .ok (.getfield 20, 3) := by decide +kernel
theorem dX6_enter_55 : decode cX6_enter 55 = .ok (.getfield 56, 3) := by decide +kernel
theorem dX6_enter_58 : decode cX6_enter 58 = .ok (.iastore, 1) := by decide +kernel
theorem dX6_enter_59 : decode cX6_enter 59 = .ok (.aload_n 0, 1) := by decide +kernel
theorem dX6_enter_60 : decode cX6_enter 60 = .ok (.getfield 31, 3) := by decide +kernel
theorem dX6_enter_63 : decode cX6_enter 63 = .ok (.aload_n 0, 1) := by decide +kernel
theorem dX6_enter_64 : decode cX6_enter 64 = .ok (.getfield 57, 3) := by decide +kernel
theorem dX6_enter_67 : decode cX6_enter 67 = .ok (.aload_n 0, 1) := by decide +kernel
theorem dX6_enter_68 : decode cX6_enter 68 = .ok (.getfield 20, 3) := by decide +kernel
theorem dX6_enter_71 : decode cX6_enter 71 = .ok (.getfield 56, 3) := by decide +kernel
theorem dX6_enter_74 : decode cX6_enter 74 = .ok (.iastore, 1) := by decide +kernel
theorem dX6_enter_75 : decode cX6_enter 75 = .ok (.aload_n 0, 1) := by decide +kernel
theorem dX6_enter_76 : decode cX6_enter 76 = .ok (.getfield 34, 3) := by decide +kernel
theorem dX6_enter_79 : decode cX6_enter 79 = .ok (.aload_n 0, 1) := by decide +kernel
theorem dX6_enter_80 : decode cX6_enter 80 = .ok (.getfield 57, 3) := by decide +kernel
theorem dX6_enter_83 : decode cX6_enter 83 = .ok (.aload_n 0, 1) := by decide +kernel
theorem dX6_enter_84 : decode cX6_enter 84 = .ok (.getfield 20, 3) := by decide +kernel
theorem dX6_enter_87 : decode cX6_enter 87 = .ok (.getfield 56, 3) := by decide +kernel
theorem dX6_enter_90 : decode cX6_enter 90 = .ok (.iastore, 1) := by decide +kernel
theorem dX6_enter_91 : decode cX6_enter 91 = .ok (.aload_n 0, 1) := by decide +kernel
theorem dX6_enter_92 : decode cX6_enter 92 = .ok (.invokevirtual 111, 3) := by decide +kernel
theorem dX6_enter_95 : decode cX6_enter 95 = .ok (.return_, 1) := by decide +kernel
def f_X6_enter (F P : Nat) (S : xSt) (v0 : Nat) (v1 : Int32) (D : xDt) : Option (xDt) :=
  xlet (xup D.1 v0 9 ((D.1 v0 9) + 1), D.2) fun D1 => xgrd (xin (D1.1 v0 9) (xl S (xr S v0 3))) (xlet (xup D1.1 (xr S v0 3) (D1.1 v0 9).toNatClampNeg (ji2c v1), D1.2) fun D3 => xgrd (xin (D3.1 v0 9) (xl S (xr S v0 7))) (xlet (xup D3.1 (xr S v0 7) (D3.1 v0 9).toNatClampNeg (D3.1 v0 10), D3.2) fun D5 => xgrd (xin (D5.1 v0 9) (xl S (xr S v0 8))) (xlet (xup D5.1 (xr S v0 8) (D5.1 v0 9).toNatClampNeg (0 &&& 1), D5.2) fun D7 => xgrd (xin (D7.1 v0 9) (xl S (xr S v0 4))) (xlet (xup D7.1 (xr S v0 4) (D7.1 v0 9).toNatClampNeg (D7.1 (xr S v0 2) 1), D7.2) fun D9 => xgrd (xin (D9.1 v0 9) (xl S (xr S v0 5))) (xlet (xup D9.1 (xr S v0 5) (D9.1 v0 9).toNatClampNeg (D9.1 (xr S v0 2) 1), D9.2) fun D11 => xgrd (xin (D11.1 v0 9) (xl S (xr S v0 6))) (xlet (xup D11.1 (xr S v0 6) (D11.1 v0 9).toNatClampNeg (D11.1 (xr S v0 2) 1), D11.2) fun D13 => (f_X6_wantFirstOne F P S v0 D13).bind fun q14 => some q14))))))
set_option maxHeartbeats 4000000 in
theorem S_X6_enter {F P : Nat} {S : xSt} (hS : xWF S) {v0 : Nat} {v1 : Int32} {D : xDt} {r : xDt} (k0 : xK S v0 6) (h : f_X6_enter F P S v0 v1 D = some r) : xSp md_X6_enter (1, 0, 0) [.ref v0, .int v1] (S, D) (xQv S r) := by
  unfold f_X6_enter at h
  refine xEntry (by decide) (Nat.le_of_ble_eq_true rfl) ?_
  refine x_lv (lv' := [(0, .ref v0), (1, .int v1)]) [0, 1] rfl ?_
  refine x_aload_n dX6_enter_0 0 rfl ?_
  refine x_dup dX6_enter_1 rfl ?_
  refine y_geti fl_RX6_57 dX6_enter_2 rfl k0 ?_
  refine x_iconst 1 dX6_enter_5 (by decide) ?_
  refine x_iadd dX6_enter_6 ?_
  refine xlet_e h (fun D1 eD1 h => ?_)
  refine y_puti fp_RX6_57 dX6_enter_7 rfl k0 eD1 ?_
  refine x_aload_n dX6_enter_10 0 rfl ?_
  refine y_getr (kd := 102) hS fl_RX6_24 dX6_enter_11 rfl k0 ?_
  refine x_aload_n dX6_enter_14 0 rfl ?_
  refine y_geti fl_RX6_57 dX6_enter_15 rfl k0 ?_
  refine x_iload_n dX6_enter_18 1 rfl ?_
  refine xgrd_e h (fun g2 h => ?_)
  refine xlet_e h (fun D3 eD3 h => ?_)
  refine y_cast dX6_enter_19 ((hS.f k0 3 102 rfl).2) g2 eD3 ?_
  refine x_aload_n dX6_enter_20 0 rfl ?_
  refine y_getr (kd := 100) hS fl_RX6_37 dX6_enter_21 rfl k0 ?_
  refine x_aload_n dX6_enter_24 0 rfl ?_
  refine y_geti fl_RX6_57 dX6_enter_25 rfl k0 ?_
  refine x_aload_n dX6_enter_28 0 rfl ?_
  refine y_geti fl_RX6_89 dX6_enter_29 rfl k0 ?_
  refine xgrd_e h (fun g4 h => ?_)
  refine xlet_e h (fun D5 eD5 h => ?_)
  refine y_iast dX6_enter_32 ((hS.f k0 7 100 rfl).2) g4 eD5 ?_
  refine x_aload_n dX6_enter_33 0 rfl ?_
  refine y_getr (kd := 104) hS fl_RX6_40 dX6_enter_34 rfl k0 ?_
  refine x_aload_n dX6_enter_37 0 rfl ?_
  refine y_geti fl_RX6_57 dX6_enter_38 rfl k0 ?_
  refine x_iconst 0 dX6_enter_41 (by decide) ?_
  refine xgrd_e h (fun g6 h => ?_)
  refine xlet_e h (fun D7 eD7 h => ?_)
  refine y_zast dX6_enter_42 ((hS.f k0 8 104 rfl).2) g6 eD7 ?_
  refine x_aload_n dX6_enter_43 0 rfl ?_
  refine y_getr (kd := 100) hS fl_RX6_27 dX6_enter_44 rfl k0 ?_
  refine x_aload_n dX6_enter_47 0 rfl ?_
  refine y_geti fl_RX6_57 dX6_enter_48 rfl k0 ?_
  refine x_aload_n dX6_enter_51 0 rfl ?_
  refine y_getr (kd := 2) hS fl_RX6_20 dX6_enter_52 rfl k0 ?_
  refine y_geti fl_RX6_56 dX6_enter_55 rfl ((hS.f k0 2 2 rfl).2) ?_
  refine xgrd_e h (fun g8 h => ?_)
  refine xlet_e h (fun D9 eD9 h => ?_)
  refine y_iast dX6_enter_58 ((hS.f k0 4 100 rfl).2) g8 eD9 ?_
  refine x_aload_n dX6_enter_59 0 rfl ?_
  refine y_getr (kd := 100) hS fl_RX6_31 dX6_enter_60 rfl k0 ?_
  refine x_aload_n dX6_enter_63 0 rfl ?_
  refine y_geti fl_RX6_57 dX6_enter_64 rfl k0 ?_
  refine x_aload_n dX6_enter_67 0 rfl ?_
  refine y_getr (kd := 2) hS fl_RX6_20 dX6_enter_68 rfl k0 ?_
  refine y_geti fl_RX6_56 dX6_enter_71 rfl ((hS.f k0 2 2 rfl).2) ?_
  refine xgrd_e h (fun g10 h => ?_)
  refine xlet_e h (fun D11 eD11 h => ?_)
  refine y_iast dX6_enter_74 ((hS.f k0 5 100 rfl).2) g10 eD11 ?_
  refine x_aload_n dX6_enter_75 0 rfl ?_
  refine y_getr (kd := 100) hS fl_RX6_34 dX6_enter_76 rfl k0 ?_
  refine x_aload_n dX6_enter_79 0 rfl ?_
  refine y_geti fl_RX6_57 dX6_enter_80 rfl k0 ?_
  refine x_aload_n dX6_enter_83 0 rfl ?_
  refine y_getr (kd := 2) hS fl_RX6_20 dX6_enter_84 rfl k0 ?_
  refine y_geti fl_RX6_56 dX6_enter_87 rfl ((hS.f k0 2 2 rfl).2) ?_
  refine xgrd_e h (fun g12 h => ?_)
  refine xlet_e h (fun D13 eD13 h => ?_)
  refine y_iast dX6_enter_90 ((hS.f k0 6 100 rfl).2) g12 eD13 ?_
  refine x_aload_n dX6_enter_91 0 rfl ?_
  refine xbnd_e h (fun q14 e14 h => ?_)
  refine y_callVv (As := []) (q := q14) cv_RX6_111 dX6_enter_92 k0 rfl (Nat.le_of_ble_eq_true rfl) (by omega) (S_X6_wantFirstOne hS k0 e14) ?_
  obtain rfl := Option.some.inj h
  exact y_vret rfl dX6_enter_95

theorem dX6_toSign_0 : decode cX6_toSign 0 = .ok (.aload_n 0, 1) := by decide +kernel
theorem dX6_toSign_1 : decode cX6_toSign 1 = .ok (.iload_n 1, 1) := by decide +kernel
theorem dX6_toSign_2 : decode cX6_toSign 2 = .ok (.putfield 71, 3) := by decide +kernel
theorem dX6_toSign_5 : decode cX6_toSign 5 = .ok (.aload_n 0, 1) := by decide +kernel
theorem dX6_toSign_6 : decode cX6_toSign 6 = .ok (.getfield 71, 3) := by decide +kernel
theorem dX6_toSign_9 : decode cX6_toSign 9 = .ok (.aload_n 0, 1) := by decide +kernel
theorem dX6_toSign_10 : decode cX6_toSign 10 = .ok (.getfield 48, 3) := by decide +kernel
theorem dX6_toSign_13 : decode cX6_toSign 13 = .ok (.if_icmp .ge 30, 3) := by decide +kernel
theorem dX6_toSign_16 : decode cX6_toSign 16 = .ok (.aload_n 0, 1) := by decide +kernel
theorem dX6_toSign_17 : decode cX6_toSign 17 = .ok (.getfield 9, 3) := by decide +kernel
theorem dX6_toSign_20 : decode cX6_toSign 20 = .ok (.aload_n 0, 1) := by decide +kernel
theorem dX6_toSign_21 : decode cX6_toSign 21 = .ok (.getfield 71, 3) := by decide +kernel
theorem dX6_toSign_24 : decode cX6_toSign 24 = .ok (.caload, 1) := by decide +kernel
theorem dX6_toSign_25 : decode cX6_toSign 25 = .ok (.bipush 32, 2) := by decide +kernel
theorem dX6_toSign_27 : decode cX6_toSign 27 = .ok (.if_icmp .ne 16, 3) := by decide +kernel
theorem dX6_toSign_30 : decode cX6_toSign 30 = .ok (.aload_n 0, 1) := by decide +kernel
theorem dX6_toSign_31 : decode cX6_toSign 31 = .ok (.dup, 1) := by decide +kernel
theorem dX6_toSign_32 : decode cX6_toSign 32 = .ok (.getfield 71, 3) := by decide +kernel
theorem dX6_toSign_35 : decode cX6_toSign 35 = .ok (.iconst 1, 1) := by decide +kernel
theorem dX6_toSign_36 : decode cX6_toSign 36 = .ok (.iadd, 1) := by decide +kernel
theorem dX6_toSign_37 : decode cX6_toSign 37 = .ok (.putfield 71, 3) := by decide +kernel
theorem dX6_toSign_40 : decode cX6_toSign 40 = .ok (.goto (-35), 3) := by decide +kernel
theorem dX6_toSign_43 : decode cX6_toSign 43 = .ok (.return_, 1) := by decide +kernel
def f_X6_toSign_5s (F P : Nat) (S : xSt) (rec_5 : Nat → xDt → Option (xDt)) (v0 : Nat) (D : xDt) : Option (xDt) :=
  if (D.1 v0 1) ≤ (D.1 v0 12) then (some D) else (xgrd (xin (D.1 v0 12) (xl S (xr S v0 0))) (if (D.1 (xr S v0 0) (D.1 v0 12).toNatClampNeg) = 32 then (xlet (xup D.1 v0 12 ((D.1 v0 12) + 1), D.2) fun D2 => rec_5 v0 D2) else (some D)))
def f_X6_toSign_5 (F P : Nat) (S : xSt) : Nat → Nat → xDt → Option (xDt)
  | 0 => fun _ _ => none
  | n + 1 => f_X6_toSign_5s F P S (f_X6_toSign_5 F P S n)
set_option maxHeartbeats 4000000 in
theorem t_X6_toSign_5s {F P : Nat} {S : xSt} (hS : xWF S) {rec_5 : Nat → xDt → Option (xDt)} (hrec_5 : ∀ {v0 : Nat} {D : xDt} {r : xDt}, xK S v0 6 → rec_5 v0 D = some r → yEx md_X6_toSign 0 5 [(0, .ref v0)] [] S D (xQv S r)) {v0 : Nat} {D : xDt} {r : xDt} (k0 : xK S v0 6) (h : f_X6_toSign_5s F P S rec_5 v0 D = some r) : yEx md_X6_toSign 0 5 [(0, .ref v0)] [] S D (xQv S r) := by
  unfold f_X6_toSign_5s at h
  refine x_aload_n dX6_toSign_5 0 rfl ?_
  refine y_geti fl_RX6_71 dX6_toSign_6 rfl k0 ?_
  refine x_aload_n dX6_toSign_9 0 rfl ?_
  refine y_geti fl_RX6_48 dX6_toSign_10 rfl k0 ?_
  refine x_icmp_ge 43 dX6_toSign_13 (by decide) (fun c => ?_) (fun c => ?_)
  · rw [if_pos c] at h
    obtain rfl := Option.some.inj h
    exact y_vret rfl dX6_toSign_43
  · rw [if_neg c] at h
    refine x_aload_n dX6_toSign_16 0 rfl ?_
    refine y_getr (kd := 102) hS fl_RX6_9 dX6_toSign_17 rfl k0 ?_
    refine x_aload_n dX6_toSign_20 0 rfl ?_
    refine y_geti fl_RX6_71 dX6_toSign_21 rfl k0 ?_
    refine xgrd_e h (fun g1 h => ?_)
    refine y_cald dX6_toSign_24 ((hS.f k0 0 102 rfl).2) g1 ?_
    refine x_bipush 32 dX6_toSign_25 (by decide) ?_
    refine x_icmp_ne 43 dX6_toSign_27 (by decide) (fun c => ?_) (fun c => ?_)
    · rw [if_neg c] at h
      obtain rfl := Option.some.inj h
      exact y_vret rfl dX6_toSign_43
    · rw [if_pos c] at h
      refine x_aload_n dX6_toSign_30 0 rfl ?_
      refine x_dup dX6_toSign_31 rfl ?_
      refine y_geti fl_RX6_71 dX6_toSign_32 rfl k0 ?_
      refine x_iconst 1 dX6_toSign_35 (by decide) ?_
      refine x_iadd dX6_toSign_36 ?_
      refine xlet_e h (fun D2 eD2 h => ?_)
      refine y_puti fp_RX6_71 dX6_toSign_37 rfl k0 eD2 ?_
      refine x_goto 5 dX6_toSign_40 (by decide) ?_
      exact hrec_5 k0 h
theorem t_X6_toSign_5 {F P : Nat} {S : xSt} (hS : xWF S) : ∀ (n : Nat) {v0 : Nat} {D : xDt} {r : xDt}, xK S v0 6 → f_X6_toSign_5 F P S n v0 D = some r → yEx md_X6_toSign 0 5 [(0, .ref v0)] [] S D (xQv S r) := by
  intro n
  induction n with
  | zero => intros; rename_i h; cases h
  | succ n ih =>
    intro v0 D r k0 h
    exact t_X6_toSign_5s hS (fun k0 h => ih k0 h) k0 h

def f_X6_toSign (F P : Nat) (S : xSt) (v0 : Nat) (v1 : Int32) (D : xDt) : Option (xDt) :=
  xlet (xup D.1 v0 12 v1, D.2) fun D1 => f_X6_toSign_5 F P S F v0 D1
set_option maxHeartbeats 4000000 in
theorem S_X6_toSign {F P : Nat} {S : xSt} (hS : xWF S) {v0 : Nat} {v1 : Int32} {D : xDt} {r : xDt} (k0 : xK S v0 6) (h : f_X6_toSign F P S v0 v1 D = some r) : xSp md_X6_toSign (0, 0, 0) [.ref v0, .int v1] (S, D) (xQv S r) := by
  unfold f_X6_toSign at h
  refine xEntry (by decide) (Nat.le_of_ble_eq_true rfl) ?_
  refine x_lv (lv' := [(0, .ref v0), (1, .int v1)]) [0, 1] rfl ?_
  refine x_aload_n dX6_toSign_0 0 rfl ?_
  refine x_iload_n dX6_toSign_1 1 rfl ?_
  refine xlet_e h (fun D1 eD1 h => ?_)
  refine y_puti fp_RX6_71 dX6_toSign_2 rfl k0 eD1 ?_
  refine x_lv (lv' := [(0, .ref v0)]) [0] rfl ?_
  exact t_X6_toSign_5 hS F k0 h

theorem dX6_takeOpening_0 : decode cX6_takeOpening 0 = .ok (.aload_n 0, 1) := by decide +kernel
theorem dX6_takeOpening_1 : decode cX6_takeOpening 1 = .ok (.getfield 57, 3) := by decide +kernel
theorem dX6_takeOpening_4 : decode cX6_takeOpening 4 = .ok (.bipush 15, 2) := by decide +kernel
theorem dX6_takeOpening_6 : decode cX6_takeOpening 6 = .ok (.if_icmp .lt 5, 3) := by decide +kernel
theorem dX6_takeOpening_9 : decode cX6_takeOpening 9 = .ok (.iconst 0, 1) := by decide +kernel
theorem dX6_takeOpening_10 : decode cX6_takeOpening 10 = .ok (.ireturn, 1) := by decide +kernel
theorem dX6_takeOpening_11 : decode cX6_takeOpening 11 = .ok (.iload_n 1, 1) := by decide +kernel
theorem dX6_takeOpening_12 : decode cX6_takeOpening 12 = .ok (.bipush 40, 2) := by decide +kernel
theorem dX6_takeOpening_14 : decode cX6_takeOpening 14 = .ok (.if_icmp .eq 12, 3) := by decide +kernel
theorem dX6_takeOpening_17 : decode cX6_takeOpening 17 = .ok (.aload_n 0, 1) := by decide +kernel
theorem dX6_takeOpening_18 : decode cX6_takeOpening 18 = .ok (.getfield 20, 3) := by decide +kernel
theorem dX6_takeOpening_21 : decode cX6_takeOpening 21 = .ok (.iload_n 1, 1) := by decide +kernel
theorem dX6_takeOpening_22 : decode cX6_takeOpening 22 = .ok (.invokevirtual 108, 3) := by decide +kernel
theorem dX6_takeOpening_25 : decode cX6_takeOpening 25 = .ok (.pop, 1) := by decide +kernel
theorem dX6_takeOpening_26 : decode cX6_takeOpening 26 = .ok (.aload_n 0, 1) := by decide +kernel
theorem dX6_takeOpening_27 : decode cX6_takeOpening 27 = .ok (.iload_n 2, 1) := by decide +kernel
theorem dX6_takeOpening_28 : decode cX6_takeOpening 28 = .ok (.invokevirtual 60, 3) := by decide +kernel
theorem dX6_takeOpening_31 : decode cX6_takeOpening 31 = .ok (.aload_n 0, 1) := by decide +kernel
theorem dX6_takeOpening_32 : decode cX6_takeOpening 32 = .ok (.aload_n 0, 1) := by decide +kernel
theorem dX6_takeOpening_33 : decode cX6_takeOpening 33 = .ok (.getfield 71, 3) := by decide +kernel
theorem dX6_takeOpening_36 : decode cX6_takeOpening 36 = .ok (.iconst 1, 1) := by decide +kernel
theorem dX6_takeOpening_37 : decode cX6_takeOpening 37 = .ok (.iadd, 1) := by decide +kernel
theorem dX6_takeOpening_38 : decode cX6_takeOpening 38 = .ok (.invokevirtual 64, 3) := by decide +kernel
theorem dX6_takeOpening_41 : decode cX6_takeOpening 41 = .ok (.iconst 1, 1) := by decide +kernel
theorem dX6_takeOpening_42 : decode cX6_takeOpening 42 = .ok (.ireturn, 1) := by decide +kernel
def f_X6_takeOpening_26 (F P : Nat) (S : xSt) (v0 : Nat) (v2 : Int32) (D : xDt) : Option (Int32 × xDt) :=
  (f_X6_enter F P S v0 v2 D).bind fun q1 => (f_X6_toSign F P S v0 ((q1.1 v0 12) + 1) q1).bind fun q2 => some (1, q2)
set_option maxHeartbeats 4000000 in
theorem t_X6_takeOpening_26 {F P : Nat} {S : xSt} (hS : xWF S) {v0 : Nat} {v2 : Int32} {D : xDt} {r : Int32 × xDt} (k0 : xK S v0 6) (h : f_X6_takeOpening_26 F P S v0 v2 D = some r) : yEx md_X6_takeOpening 2 26 [(0, .ref v0), (2, .int v2)] [] S D (xQi S r) := by
  unfold f_X6_takeOpening_26 at h
  refine x_aload_n dX6_takeOpening_26 0 rfl ?_
  refine x_iload_n dX6_takeOpening_27 1 rfl ?_
  refine xbnd_e h (fun q1 e1 h => ?_)
  refine y_callVv (As := [.int v2]) (q := q1) cv_RX6_60 dX6_takeOpening_28 k0 rfl (Nat.le_of_ble_eq_true rfl) (by omega) (S_X6_enter hS k0 e1) ?_
  refine x_aload_n dX6_takeOpening_31 0 rfl ?_
  refine x_aload_n dX6_takeOpening_32 0 rfl ?_
  refine y_geti fl_RX6_71 dX6_takeOpening_33 rfl k0 ?_
  refine x_iconst 1 dX6_takeOpening_36 (by decide) ?_
  refine x_iadd dX6_takeOpening_37 ?_
  refine xbnd_e h (fun q2 e2 h => ?_)
  refine y_callVv (As := [.int ((q1.1 v0 12) + 1)]) (q := q2) cv_RX6_64 dX6_takeOpening_38 k0 rfl (Nat.le_of_ble_eq_true rfl) (by omega) (S_X6_toSign hS k0 e2) ?_
  refine x_iconst 1 dX6_takeOpening_41 (by decide) ?_
  obtain rfl := Option.some.inj h
  exact y_zret rfl rfl dX6_takeOpening_42

def f_X6_takeOpening (F P : Nat) (S : xSt) (v0 : Nat) (v1 : Int32) (v2 : Int32) (D : xDt) : Option (Int32 × xDt) :=
  if (D.1 v0 9) < 15 then (if v1 = 40 then (f_X6_takeOpening_26 F P S v0 v2 D) else ((f_X2_add F P S (xr S v0 2) v1 D).bind fun q1 => f_X6_takeOpening_26 F P S v0 v2 q1.2)) else (some (0, D))
set_option maxHeartbeats 4000000 in
theorem S_X6_takeOpening {F P : Nat} {S : xSt} (hS : xWF S) {v0 : Nat} {v1 : Int32} {v2 : Int32} {D : xDt} {r : Int32 × xDt} (k0 : xK S v0 6) (h : f_X6_takeOpening F P S v0 v1 v2 D = some r) : xSp md_X6_takeOpening (2, 0, 0) [.ref v0, .int v1, .int v2] (S, D) (xQi S r) := by
  unfold f_X6_takeOpening at h
  refine xEntry (by decide) (Nat.le_of_ble_eq_true rfl) ?_
  refine x_lv (lv' := [(0, .ref v0), (1, .int v1), (2, .int v2)]) [0, 1, 2] rfl ?_
  refine x_aload_n dX6_takeOpening_0 0 rfl ?_
  refine y_geti fl_RX6_57 dX6_takeOpening_1 rfl k0 ?_
  refine x_bipush 15 dX6_takeOpening_4 (by decide) ?_
  refine x_icmp_lt 11 dX6_takeOpening_6 (by decide) (fun c => ?_) (fun c => ?_)
  · rw [if_pos c] at h
    refine x_iload_n dX6_takeOpening_11 1 rfl ?_
    refine x_bipush 40 dX6_takeOpening_12 (by decide) ?_
    refine x_icmp_eq 26 dX6_takeOpening_14 (by decide) (fun c => ?_) (fun c => ?_)
    · rw [if_pos c] at h
      refine x_lv (lv' := [(0, .ref v0), (2, .int v2)]) [0, 2] rfl ?_
      exact t_X6_takeOpening_26 hS k0 h
    · rw [if_neg c] at h
      refine x_aload_n dX6_takeOpening_17 0 rfl ?_
      refine y_getr (kd := 2) hS fl_RX6_20 dX6_takeOpening_18 rfl k0 ?_
      refine x_iload_n dX6_takeOpening_21 1 rfl ?_
      refine xbnd_e h (fun q1 e1 h => ?_)
      refine y_callVi (As := [.int v1]) (q := q1) cv_RX6_108 dX6_takeOpening_22 ((hS.f k0 2 2 rfl).2) rfl (Nat.le_of_ble_eq_true rfl) (by omega) (S_X2_add hS ((hS.f k0 2 2 rfl).2) e1) ?_
      refine x_pop dX6_takeOpening_25 rfl ?_
      refine x_lv (lv' := [(0, .ref v0), (2, .int v2)]) [0, 2] rfl ?_
      exact t_X6_takeOpening_26 hS k0 h
  · rw [if_neg c] at h
    refine x_iconst 0 dX6_takeOpening_9 (by decide) ?_
    obtain rfl := Option.some.inj h
    exact y_zret rfl rfl dX6_takeOpening_10

theorem dX6_takeAgents_0 : decode cX6_takeAgents 0 = .ok (.iconst 0, 1) := by decide +kernel
theorem dX6_takeAgents_1 : decode cX6_takeAgents 1 = .ok (.istore_n 2, 1) := by decide +kernel
theorem dX6_takeAgents_2 : decode cX6_takeAgents 2 = .ok (.bipush 48, 2) := by decide +kernel
theorem dX6_takeAgents_4 : decode cX6_takeAgents 4 = .ok (.istore_n 3, 1) := by decide +kernel
theorem dX6_takeAgents_5 : decode cX6_takeAgents 5 = .ok (.iconst 0, 1) := by decide +kernel
theorem dX6_takeAgents_6 : decode cX6_takeAgents 6 = .ok (.istore 4, 2) := by decide +kernel
theorem dX6_takeAgents_8 : decode cX6_takeAgents 8 = .ok (.iload 4, 2) := by decide +kernel
theorem dX6_takeAgents_10 : decode cX6_takeAgents 10 = .ok (.iload_n 1, 1) := by decide +kernel
theorem dX6_takeAgents_11 : decode cX6_takeAgents 11 = .ok (.if_icmp .ge 76, 3) := by decide +kernel
theorem dX6_takeAgents_14 : decode cX6_takeAgents 14 = .ok (.aload_n 0, 1) := by decide +kernel
theorem dX6_takeAgents_15 : decode cX6_takeAgents 15 = .ok (.getfield 71, 3) := by decide +kernel
theorem dX6_takeAgents_18 : decode cX6_takeAgents 18 = .ok (.aload_n 0, 1) := by decide +kernel
theorem dX6_takeAgents_19 : decode cX6_takeAgents 19 = .ok (.getfield 48, 3) := by decide +kernel
theorem dX6_takeAgents_22 : decode cX6_takeAgents 22 = .ok (.if_icmp .ge 65, 3) := by decide +kernel
theorem dX6_takeAgents_25 : decode cX6_takeAgents 25 = .ok (.aload_n 0, 1) := by decide +kernel
theorem dX6_takeAgents_26 : decode cX6_takeAgents 26 = .ok (.getfield 9, 3) := by decide +kernel
theorem dX6_takeAgents_29 : decode cX6_takeAgents 29 = .ok (.aload_n 0, 1) := by decide +kernel
theorem dX6_takeAgents_30 : decode cX6_takeAgents 30 = .ok (.getfield 71, 3) := by decide +kernel
theorem dX6_takeAgents_33 : decode cX6_takeAgents 33 = .ok (.caload, 1) := by decide +kernel
theorem dX6_takeAgents_34 : decode cX6_takeAgents 34 = .ok (.iload_n 3, 1) := by decide +kernel
theorem dX6_takeAgents_35 : decode cX6_takeAgents 35 = .ok (.if_icmp .le 52, 3) := by decide +kernel
theorem dX6_takeAgents_38 : decode cX6_takeAgents 38 = .ok (.aload_n 0, 1) := by decide +kernel
theorem dX6_takeAgents_39 : decode cX6_takeAgents 39 = .ok (.getfield 9, 3) := by decide +kernel
theorem dX6_takeAgents_42 : decode cX6_takeAgents 42 = .ok (.aload_n 0, 1) := by decide +kernel
theorem dX6_takeAgents_43 : decode cX6_takeAgents 43 = .ok (.getfield 71, 3) := by decide +kernel
theorem dX6_takeAgents_46 : decode cX6_takeAgents 46 = .ok (.caload, 1) := by decide +kernel
theorem dX6_takeAgents_47 : decode cX6_takeAgents 47 = .ok (.bipush 52, 2) := by decide +kernel
theorem dX6_takeAgents_49 : decode cX6_takeAgents 49 = .ok (.if_icmp .gt 38, 3) := by decide +kernel
theorem dX6_takeAgents_52 : decode cX6_takeAgents 52 = .ok (.aload_n 0, 1) := by decide +kernel
theorem dX6_takeAgents_53 : decode cX6_takeAgents 53 = .ok (.getfield 9, 3) := by decide +kernel
theorem dX6_takeAgents_56 : decode cX6_takeAgents 56 = .ok (.aload_n 0, 1) := by decide +kernel
theorem dX6_takeAgents_57 : decode cX6_takeAgents 57 = .ok (.getfield 71, 3) := by decide +kernel
theorem dX6_takeAgents_60 : decode cX6_takeAgents 60 = .ok (.caload, 1) := by decide +kernel
theorem dX6_takeAgents_61 : decode cX6_takeAgents 61 = .ok (.istore_n 3, 1) := by decide +kernel
theorem dX6_takeAgents_62 : decode cX6_takeAgents 62 = .ok (.iload_n 2, 1) := by decide +kernel
theorem dX6_takeAgents_63 : decode cX6_takeAgents 63 = .ok (.iconst 1, 1) := by decide +kernel
theorem dX6_takeAgents_64 : decode cX6_takeAgents 64 = .ok (.iload_n 3, 1) := by decide +kernel
theorem dX6_takeAgents_65 : decode cX6_takeAgents 65 = .ok (.bipush 49, 2) := by decide +kernel
theorem dX6_takeAgents_67 : decode cX6_takeAgents 67 = .ok (.isub, 1) := by decide +kernel
theorem dX6_takeAgents_68 : decode cX6_takeAgents 68 = .ok (.ishl, 1) := by decide +kernel
theorem dX6_takeAgents_69 : decode cX6_takeAgents 69 = .ok (.ior, 1) := by decide +kernel
theorem dX6_takeAgents_70 : decode cX6_takeAgents 70 = .ok (.istore_n 2, 1) := by decide +kernel
theorem dX6_takeAgents_71 : decode cX6_takeAgents 71 = .ok (.aload_n 0, 1) := by decide +kernel
theorem dX6_takeAgents_72 : decode cX6_takeAgents 72 = .ok (.aload_n 0, 1) := by decide +kernel
theorem dX6_takeAgents_73 : decode cX6_takeAgents 73 = .ok (.getfield 71, 3) := by decide +kernel
theorem dX6_takeAgents_76 : decode cX6_takeAgents 76 = .ok (.iconst 1, 1) := by decide +kernel
theorem dX6_takeAgents_77 : decode cX6_takeAgents 77 = .ok (.iadd, 1) := by decide +kernel
theorem dX6_takeAgents_78 : decode cX6_takeAgents 78 = .ok (.invokevirtual 64, 3) := by decide +kernel
theorem dX6_takeAgents_81 : decode cX6_takeAgents 81 = .ok (.iinc 4 1, 3) := by decide +kernel
theorem dX6_takeAgents_84 : decode cX6_takeAgents 84 = .ok (.goto (-76), 3) := by decide +kernel
theorem dX6_takeAgents_87 : decode cX6_takeAgents 87 = .ok (.iload_n 2, 1) := by decide +kernel
theorem dX6_takeAgents_88 : decode cX6_takeAgents 88 = .ok (.ireturn, 1) := by decide +kernel
def f_X6_takeAgents_8s (F P : Nat) (S : xSt) (rec_8 : Nat → Int32 → Int32 → Int32 → Int32 → xDt → Option (Int32 × xDt)) (v0 : Nat) (v1 : Int32) (v2 : Int32) (v3 : Int32) (v4 : Int32) (D : xDt) : Option (Int32 × xDt) :=
  if v1 ≤ v4 then (some (v2, D)) else (if (D.1 v0 1) ≤ (D.1 v0 12) then (some (v2, D)) else (xgrd (xin (D.1 v0 12) (xl S (xr S v0 0))) (if (D.1 (xr S v0 0) (D.1 v0 12).toNatClampNeg) ≤ v3 then (some (v2, D)) else (xgrd (xin (D.1 v0 12) (xl S (xr S v0 0))) (if 52 < (D.1 (xr S v0 0) (D.1 v0 12).toNatClampNeg) then (some (v2, D)) else (xgrd (xin (D.1 v0 12) (xl S (xr S v0 0))) (xlet (D.1 (xr S v0 0) (D.1 v0 12).toNatClampNeg) fun v3_4 => xlet (v2 ||| (jishl 1 (v3_4 - 49))) fun v2_5 => (f_X6_toSign F P S v0 ((D.1 v0 12) + 1) D).bind fun q6 => xlet (v4 + 1) fun v4_7 => rec_8 v0 v1 v2_5 v3_4 v4_7 q6)))))))
def f_X6_takeAgents_8 (F P : Nat) (S : xSt) : Nat → Nat → Int32 → Int32 → Int32 → Int32 → xDt → Option (Int32 × xDt)
  | 0 => fun _ _ _ _ _ _ => none
  | n + 1 => f_X6_takeAgents_8s F P S (f_X6_takeAgents_8 F P S n)
set_option maxHeartbeats 4000000 in
theorem t_X6_takeAgents_8s {F P : Nat} {S : xSt} (hS : xWF S) {rec_8 : Nat → Int32 → Int32 → Int32 → Int32 → xDt → Option (Int32 × xDt)} (hrec_8 : ∀ {v0 : Nat} {v1 : Int32} {v2 : Int32} {v3 : Int32} {v4 : Int32} {D : xDt} {r : Int32 × xDt}, xK S v0 6 → rec_8 v0 v1 v2 v3 v4 D = some r → yEx md_X6_takeAgents 1 8 [(0, .ref v0), (1, .int v1), (2, .int v2), (3, .int v3), (4, .int v4)] [] S D (xQi S r)) {v0 : Nat} {v1 : Int32} {v2 : Int32} {v3 : Int32} {v4 : Int32} {D : xDt} {r : Int32 × xDt} (k0 : xK S v0 6) (h : f_X6_takeAgents_8s F P S rec_8 v0 v1 v2 v3 v4 D = some r) : yEx md_X6_takeAgents 1 8 [(0, .ref v0), (1, .int v1), (2, .int v2), (3, .int v3), (4, .int v4)] [] S D (xQi S r) := by
  unfold f_X6_takeAgents_8s at h
  refine x_iload dX6_takeAgents_8 4 rfl ?_
  refine x_iload_n dX6_takeAgents_10 1 rfl ?_
  refine x_icmp_ge 87 dX6_takeAgents_11 (by decide) (fun c => ?_) (fun c => ?_)
  · rw [if_pos c] at h
    refine x_iload_n dX6_takeAgents_87 2 rfl ?_
    obtain rfl := Option.some.inj h
    exact y_iret rfl dX6_takeAgents_88
  · rw [if_neg c] at h
    refine x_aload_n dX6_takeAgents_14 0 rfl ?_
    refine y_geti fl_RX6_71 dX6_takeAgents_15 rfl k0 ?_
    refine x_aload_n dX6_takeAgents_18 0 rfl ?_
    refine y_geti fl_RX6_48 dX6_takeAgents_19 rfl k0 ?_
    refine x_icmp_ge 87 dX6_takeAgents_22 (by decide) (fun c => ?_) (fun c => ?_)
    · rw [if_pos c] at h
      refine x_iload_n dX6_takeAgents_87 2 rfl ?_
      obtain rfl := Option.some.inj h
      exact y_iret rfl dX6_takeAgents_88
    · rw [if_neg c] at h
      refine x_aload_n dX6_takeAgents_25 0 rfl ?_
      refine y_getr (kd := 102) hS fl_RX6_9 dX6_takeAgents_26 rfl k0 ?_
      refine x_aload_n dX6_takeAgents_29 0 rfl ?_
      refine y_geti fl_RX6_71 dX6_takeAgents_30 rfl k0 ?_
      refine xgrd_e h (fun g1 h => ?_)
      refine y_cald dX6_takeAgents_33 ((hS.f k0 0 102 rfl).2) g1 ?_
      refine x_iload_n dX6_takeAgents_34 3 rfl ?_
      refine x_icmp_le 87 dX6_takeAgents_35 (by decide) (fun c => ?_) (fun c => ?_)
      · rw [if_pos c] at h
        refine x_iload_n dX6_takeAgents_87 2 rfl ?_
        obtain rfl := Option.some.inj h
        exact y_iret rfl dX6_takeAgents_88
      · rw [if_neg c] at h
        refine x_aload_n dX6_takeAgents_38 0 rfl ?_
        refine y_getr (kd := 102) hS fl_RX6_9 dX6_takeAgents_39 rfl k0 ?_
        refine x_aload_n dX6_takeAgents_42 0 rfl ?_
        refine y_geti fl_RX6_71 dX6_takeAgents_43 rfl k0 ?_
        refine xgrd_e h (fun g2 h => ?_)
        refine y_cald dX6_takeAgents_46 ((hS.f k0 0 102 rfl).2) g2 ?_
        refine x_bipush 52 dX6_takeAgents_47 (by decide) ?_
        refine x_icmp_gt 87 dX6_takeAgents_49 (by decide) (fun c => ?_) (fun c => ?_)
        · rw [if_pos c] at h
          refine x_iload_n dX6_takeAgents_87 2 rfl ?_
          obtain rfl := Option.some.inj h
          exact y_iret rfl dX6_takeAgents_88
        · rw [if_neg c] at h
          refine x_aload_n dX6_takeAgents_52 0 rfl ?_
          refine y_getr (kd := 102) hS fl_RX6_9 dX6_takeAgents_53 rfl k0 ?_
          refine x_aload_n dX6_takeAgents_56 0 rfl ?_
          refine y_geti fl_RX6_71 dX6_takeAgents_57 rfl k0 ?_
          refine xgrd_e h (fun g3 h => ?_)
          refine y_cald dX6_takeAgents_60 ((hS.f k0 0 102 rfl).2) g3 ?_
          refine xlet_e h (fun v3_4 ev3_4 h => ?_)
          refine y_istore_n v3_4 ev3_4 [(3, .int v3_4), (0, .ref v0), (1, .int v1), (2, .int v2), (4, .int v4)] dX6_takeAgents_61 (by show _ < 5; decide) rfl ?_
          refine x_iload_n dX6_takeAgents_62 3 rfl ?_
          refine x_iconst 1 dX6_takeAgents_63 (by decide) ?_
          refine x_iload_n dX6_takeAgents_64 0 rfl ?_
          refine x_bipush 49 dX6_takeAgents_65 (by decide) ?_
          refine x_isub dX6_takeAgents_67 ?_
          refine x_ishl dX6_takeAgents_68 ?_
          refine x_ior dX6_takeAgents_69 ?_
          refine xlet_e h (fun v2_5 ev2_5 h => ?_)
          refine y_istore_n v2_5 ev2_5 [(2, .int v2_5), (3, .int v3_4), (0, .ref v0), (1, .int v1), (4, .int v4)] dX6_takeAgents_70 (by show _ < 5; decide) rfl ?_
          refine x_aload_n dX6_takeAgents_71 2 rfl ?_
          refine x_aload_n dX6_takeAgents_72 2 rfl ?_
          refine y_geti fl_RX6_71 dX6_takeAgents_73 rfl k0 ?_
          refine x_iconst 1 dX6_takeAgents_76 (by decide) ?_
          refine x_iadd dX6_takeAgents_77 ?_
          refine xbnd_e h (fun q6 e6 h => ?_)
          refine y_callVv (As := [.int ((D.1 v0 12) + 1)]) (q := q6) cv_RX6_64 dX6_takeAgents_78 k0 rfl (Nat.le_of_ble_eq_true rfl) (by omega) (S_X6_toSign hS k0 e6) ?_
          refine xlet_e h (fun v4_7 ev4_7 h => ?_)
          refine y_iinc v4_7 ev4_7 (by decide) [(4, .int v4_7), (2, .int v2_5), (3, .int v3_4), (0, .ref v0), (1, .int v1)] dX6_takeAgents_81 4 rfl (by show _ < 5; decide) rfl ?_
          refine x_goto 8 dX6_takeAgents_84 (by decide) ?_
          refine x_lv (lv' := [(0, .ref v0), (1, .int v1), (2, .int v2_5), (3, .int v3_4), (4, .int v4_7)]) [3, 4, 1, 2, 0] rfl ?_
          exact hrec_8 k0 h
theorem t_X6_takeAgents_8 {F P : Nat} {S : xSt} (hS : xWF S) : ∀ (n : Nat) {v0 : Nat} {v1 : Int32} {v2 : Int32} {v3 : Int32} {v4 : Int32} {D : xDt} {r : Int32 × xDt}, xK S v0 6 → f_X6_takeAgents_8 F P S n v0 v1 v2 v3 v4 D = some r → yEx md_X6_takeAgents 1 8 [(0, .ref v0), (1, .int v1), (2, .int v2), (3, .int v3), (4, .int v4)] [] S D (xQi S r) := by
  intro n
  induction n with
  | zero => intros; rename_i h; cases h
  | succ n ih =>
    intro v0 v1 v2 v3 v4 D r k0 h
    exact t_X6_takeAgents_8s hS (fun k0 h => ih k0 h) k0 h

def f_X6_takeAgents (F P : Nat) (S : xSt) (v0 : Nat) (v1 : Int32) (D : xDt) : Option (Int32 × xDt) :=
  f_X6_takeAgents_8 F P S F v0 v1 0 48 0 D
set_option maxHeartbeats 4000000 in
theorem S_X6_takeAgents {F P : Nat} {S : xSt} (hS : xWF S) {v0 : Nat} {v1 : Int32} {D : xDt} {r : Int32 × xDt} (k0 : xK S v0 6) (h : f_X6_takeAgents F P S v0 v1 D = some r) : xSp md_X6_takeAgents (1, 0, 0) [.ref v0, .int v1] (S, D) (xQi S r) := by
  unfold f_X6_takeAgents at h
  refine xEntry (by decide) (Nat.le_of_ble_eq_true rfl) ?_
  refine x_lv (lv' := [(0, .ref v0), (1, .int v1)]) [0, 1] rfl ?_
  refine x_iconst 0 dX6_takeAgents_0 (by decide) ?_
  refine y_istore_n 0 rfl [(2, .int 0), (0, .ref v0), (1, .int v1)] dX6_takeAgents_1 (by show _ < 5; decide) rfl ?_
  refine x_bipush 48 dX6_takeAgents_2 (by decide) ?_
  refine y_istore_n 48 rfl [(3, .int 48), (2, .int 0), (0, .ref v0), (1, .int v1)] dX6_takeAgents_4 (by show _ < 5; decide) rfl ?_
  refine x_iconst 0 dX6_takeAgents_5 (by decide) ?_
  refine y_istore 0 rfl [(4, .int 0), (3, .int 48), (2, .int 0), (0, .ref v0), (1, .int v1)] dX6_takeAgents_6 (by show _ < 5; decide) rfl ?_
  refine x_lv (lv' := [(0, .ref v0), (1, .int v1), (2, .int 0), (3, .int 48), (4, .int 0)]) [3, 4, 2, 1, 0] rfl ?_
  exact t_X6_takeAgents_8 hS F k0 h

theorem dX6_takeKnowing_0 : decode cX6_takeKnowing 0 = .ok (.aload_n 0, 1) := by decide +kernel
theorem dX6_takeKnowing_1 : decode cX6_takeKnowing 1 = .ok (.aload_n 0, 1) := by decide +kernel
theorem dX6_takeKnowing_2 : decode cX6_takeKnowing 2 = .ok (.getfield 71, 3) := by decide +kernel
theorem dX6_takeKnowing_5 : decode cX6_takeKnowing 5 = .ok (.iconst 1, 1) := by decide +kernel
theorem dX6_takeKnowing_6 : decode cX6_takeKnowing 6 = .ok (.iadd, 1) := by decide +kernel
theorem dX6_takeKnowing_7 : decode cX6_takeKnowing 7 = .ok (.invokevirtual 64, 3) := by decide +kernel
theorem dX6_takeKnowing_10 : decode cX6_takeKnowing 10 = .ok (.aload_n 0, 1) := by decide +kernel
theorem dX6_takeKnowing_11 : decode cX6_takeKnowing 11 = .ok (.iload_n 1, 1) := by decide +kernel
theorem dX6_takeKnowing_12 : decode cX6_takeKnowing 12 = .ok (.bipush 75, 2) := by decide +kernel
theorem dX6_takeKnowing_14 : decode cX6_takeKnowing 14 = .ok (.if_icmp .eq 9, 3) := by decide +kernel
theorem dX6_takeKnowing_17 : decode cX6_takeKnowing 17 = .ok (.iload_n 1, 1) := by decide +kernel
theorem dX6_takeKnowing_18 : decode cX6_takeKnowing 18 = .ok (.bipush 80, 2) := by decide +kernel
theorem dX6_takeKnowing_20 : decode cX6_takeKnowing 20 = .ok (.if_icmp .ne 7, 3) := by decide +kernel
theorem dX6_takeKnowing_23 : decode cX6_takeKnowing 23 = .ok (.iconst 1, 1) := by decide +kernel
theorem dX6_takeKnowing_24 : decode cX6_takeKnowing 24 = .ok (.goto 4, 3) := by decide +kernel
theorem dX6_takeKnowing_27 : decode cX6_takeKnowing 27 = .ok (.iconst 4, 1) := by decide +kernel
theorem dX6_takeKnowing_28 : decode cX6_takeKnowing 28 = .ok (.invokevirtual 114, 3) := by decide +kernel
theorem dX6_takeKnowing_31 : decode cX6_takeKnowing 31 = .ok (.istore_n 2, 1) := by decide +kernel
theorem dX6_takeKnowing_32 : decode cX6_takeKnowing 32 = .ok (.iload_n 2, 1) := by decide +kernel
theorem dX6_takeKnowing_33 : decode cX6_takeKnowing 33 = .ok (.ifCond .ne 5, 3) := by decide +kernel
theorem dX6_takeKnowing_36 : decode cX6_takeKnowing 36 = .ok (.iconst 0, 1) := by decide +kernel
theorem dX6_takeKnowing_37 : decode cX6_takeKnowing 37 = .ok (.ireturn, 1) := by decide +kernel
theorem dX6_takeKnowing_38 : decode cX6_takeKnowing 38 = .ok (.aload_n 0, 1) := by decide +kernel
theorem dX6_takeKnowing_39 : decode cX6_takeKnowing 39 = .ok (.getfield 20, 3) := by decide +kernel
theorem dX6_takeKnowing_42 : decode cX6_takeKnowing 42 = .ok (.iload_n 1, 1) := by decide +kernel
theorem dX6_takeKnowing_43 : decode cX6_takeKnowing 43 = .ok (.iload_n 2, 1) := by decide +kernel
theorem dX6_takeKnowing_44 : decode cX6_takeKnowing 44 = .ok (.invokestatic 117, 3) := by decide +kernel
theorem dX6_takeKnowing_47 : decode cX6_takeKnowing 47 = .ok (.invokevirtual 108, 3) := by decide +kernel
theorem dX6_takeKnowing_50 : decode cX6_takeKnowing 50 = .ok (.pop, 1) := by decide +kernel
theorem dX6_takeKnowing_51 : decode cX6_takeKnowing 51 = .ok (.aload_n 0, 1) := by decide +kernel
theorem dX6_takeKnowing_52 : decode cX6_takeKnowing 52 = .ok (.dup, 1) := by decide +kernel
theorem dX6_takeKnowing_53 : decode cX6_takeKnowing 53 = .ok (.getfield 89, 3) := by decide +kernel
theorem dX6_takeKnowing_56 : decode cX6_takeKnowing 56 = .ok (.iconst 1, 1) := by decide +kernel
theorem dX6_takeKnowing_57 : decode cX6_takeKnowing 57 = .ok (.iadd, 1) := by decide +kernel
theorem dX6_takeKnowing_58 : decode cX6_takeKnowing 58 = .ok (.putfield 89, 3) := by decide +kernel
theorem dX6_takeKnowing_61 : decode cX6_takeKnowing 61 = .ok (.iconst 1, 1) := by decide +kernel
theorem dX6_takeKnowing_62 : decode cX6_takeKnowing 62 = .ok (.ireturn, 1) := by decide +kernel
def f_X6_takeKnowing_28 (F P : Nat) (S : xSt) (v0 : Nat) (v1 : Int32) (s0 : Int32) (s1 : Nat) (D : xDt) : Option (Int32 × xDt) :=
  (f_X6_takeAgents F P S s1 s0 D).bind fun q1 => if q1.1 = 0 then (some (0, q1.2)) else ((f_X11_withAgents F P S v1 q1.1 q1.2).bind fun q2 => (f_X2_add F P S (xr S v0 2) q2.1 q2.2).bind fun q3 => xlet (xup q3.2.1 v0 10 ((q3.2.1 v0 10) + 1), q3.2.2) fun D4 => some (1, D4))
set_option maxHeartbeats 4000000 in
theorem t_X6_takeKnowing_28 {F P : Nat} {S : xSt} (hS : xWF S) {v0 : Nat} {v1 : Int32} {s0 : Int32} {s1 : Nat} {D : xDt} {r : Int32 × xDt} (k0 : xK S v0 6) (ks1 : xK S s1 6) (h : f_X6_takeKnowing_28 F P S v0 v1 s0 s1 D = some r) : yEx md_X6_takeKnowing 2 28 [(0, .ref v0), (1, .int v1)] [.int s0, .ref s1] S D (xQi S r) := by
  unfold f_X6_takeKnowing_28 at h
  refine xbnd_e h (fun q1 e1 h => ?_)
  refine y_callVi (As := [.int s0]) (q := q1) cv_RX6_114 dX6_takeKnowing_28 ks1 rfl (Nat.le_of_ble_eq_true rfl) (by omega) (S_X6_takeAgents hS ks1 e1) ?_
  refine y_istore_n q1.1 rfl [(2, .int q1.1), (0, .ref v0), (1, .int v1)] dX6_takeKnowing_31 (by show _ < 3; decide) rfl ?_
  refine x_iload_n dX6_takeKnowing_32 0 rfl ?_
  refine x_if_ne 38 dX6_takeKnowing_33 (by decide) (fun c => ?_) (fun c => ?_)
  · rw [if_neg c] at h
    refine x_aload_n dX6_takeKnowing_38 1 rfl ?_
    refine y_getr (kd := 2) hS fl_RX6_20 dX6_takeKnowing_39 rfl k0 ?_
    refine x_iload_n dX6_takeKnowing_42 2 rfl ?_
    refine x_iload_n dX6_takeKnowing_43 0 rfl ?_
    refine xbnd_e h (fun q2 e2 h => ?_)
    refine y_callNi (As := [.int v1, .int q1.1]) (q := q2) cn_RX6_117 dX6_takeKnowing_44 rfl (Nat.le_of_ble_eq_true rfl) (by omega) (S_X11_withAgents hS e2) ?_
    refine xbnd_e h (fun q3 e3 h => ?_)
    refine y_callVi (As := [.int q2.1]) (q := q3) cv_RX6_108 dX6_takeKnowing_47 ((hS.f k0 2 2 rfl).2) rfl (Nat.le_of_ble_eq_true rfl) (by omega) (S_X2_add hS ((hS.f k0 2 2 rfl).2) e3) ?_
    refine x_pop dX6_takeKnowing_50 rfl ?_
    refine x_aload_n dX6_takeKnowing_51 1 rfl ?_
    refine x_dup dX6_takeKnowing_52 rfl ?_
    refine y_geti fl_RX6_89 dX6_takeKnowing_53 rfl k0 ?_
    refine x_iconst 1 dX6_takeKnowing_56 (by decide) ?_
    refine x_iadd dX6_takeKnowing_57 ?_
    refine xlet_e h (fun D4 eD4 h => ?_)
    refine y_puti fp_RX6_89 dX6_takeKnowing_58 rfl k0 eD4 ?_
    refine x_iconst 1 dX6_takeKnowing_61 (by decide) ?_
    obtain rfl := Option.some.inj h
    exact y_zret rfl rfl dX6_takeKnowing_62
  · rw [if_pos c] at h
    refine x_iconst 0 dX6_takeKnowing_36 (by decide) ?_
    obtain rfl := Option.some.inj h
    exact y_zret rfl rfl dX6_takeKnowing_37

def f_X6_takeKnowing_23 (F P : Nat) (S : xSt) (v0 : Nat) (v1 : Int32) (s0 : Nat) (D : xDt) : Option (Int32 × xDt) :=
  f_X6_takeKnowing_28 F P S v0 v1 1 s0 D
set_option maxHeartbeats 4000000 in
theorem t_X6_takeKnowing_23 {F P : Nat} {S : xSt} (hS : xWF S) {v0 : Nat} {v1 : Int32} {s0 : Nat} {D : xDt} {r : Int32 × xDt} (k0 : xK S v0 6) (ks0 : xK S s0 6) (h : f_X6_takeKnowing_23 F P S v0 v1 s0 D = some r) : yEx md_X6_takeKnowing 2 23 [(0, .ref v0), (1, .int v1)] [.ref s0] S D (xQi S r) := by
  unfold f_X6_takeKnowing_23 at h
  refine x_iconst 1 dX6_takeKnowing_23 (by decide) ?_
  refine x_goto 28 dX6_takeKnowing_24 (by decide) ?_
  exact t_X6_takeKnowing_28 hS k0 ks0 h

def f_X6_takeKnowing (F P : Nat) (S : xSt) (v0 : Nat) (v1 : Int32) (D : xDt) : Option (Int32 × xDt) :=
  (f_X6_toSign F P S v0 ((D.1 v0 12) + 1) D).bind fun q1 => if v1 = 75 then (f_X6_takeKnowing_23 F P S v0 v1 v0 q1) else (if v1 = 80 then (f_X6_takeKnowing_23 F P S v0 v1 v0 q1) else (f_X6_takeKnowing_28 F P S v0 v1 4 v0 q1))
set_option maxHeartbeats 4000000 in
theorem S_X6_takeKnowing {F P : Nat} {S : xSt} (hS : xWF S) {v0 : Nat} {v1 : Int32} {D : xDt} {r : Int32 × xDt} (k0 : xK S v0 6) (h : f_X6_takeKnowing F P S v0 v1 D = some r) : xSp md_X6_takeKnowing (2, 0, 0) [.ref v0, .int v1] (S, D) (xQi S r) := by
  unfold f_X6_takeKnowing at h
  refine xEntry (by decide) (Nat.le_of_ble_eq_true rfl) ?_
  refine x_lv (lv' := [(0, .ref v0), (1, .int v1)]) [0, 1] rfl ?_
  refine x_aload_n dX6_takeKnowing_0 0 rfl ?_
  refine x_aload_n dX6_takeKnowing_1 0 rfl ?_
  refine y_geti fl_RX6_71 dX6_takeKnowing_2 rfl k0 ?_
  refine x_iconst 1 dX6_takeKnowing_5 (by decide) ?_
  refine x_iadd dX6_takeKnowing_6 ?_
  refine xbnd_e h (fun q1 e1 h => ?_)
  refine y_callVv (As := [.int ((D.1 v0 12) + 1)]) (q := q1) cv_RX6_64 dX6_takeKnowing_7 k0 rfl (Nat.le_of_ble_eq_true rfl) (by omega) (S_X6_toSign hS k0 e1) ?_
  refine x_aload_n dX6_takeKnowing_10 0 rfl ?_
  refine x_iload_n dX6_takeKnowing_11 1 rfl ?_
  refine x_bipush 75 dX6_takeKnowing_12 (by decide) ?_
  refine x_icmp_eq 23 dX6_takeKnowing_14 (by decide) (fun c => ?_) (fun c => ?_)
  · rw [if_pos c] at h
    exact t_X6_takeKnowing_23 hS k0 k0 h
  · rw [if_neg c] at h
    refine x_iload_n dX6_takeKnowing_17 1 rfl ?_
    refine x_bipush 80 dX6_takeKnowing_18 (by decide) ?_
    refine x_icmp_ne 27 dX6_takeKnowing_20 (by decide) (fun c => ?_) (fun c => ?_)
    · rw [if_neg c] at h
      refine x_iconst 4 dX6_takeKnowing_27 (by decide) ?_
      exact t_X6_takeKnowing_28 hS k0 k0 h
    · rw [if_pos c] at h
      exact t_X6_takeKnowing_23 hS k0 k0 h

theorem dX6_takeOne_0 : decode cX6_takeOne 0 = .ok (.aload_n 0, 1) := by decide +kernel
theorem dX6_takeOne_1 : decode cX6_takeOne 1 = .ok (.getfield 89, 3) := by decide +kernel
theorem dX6_takeOne_4 : decode cX6_takeOne 4 = .ok (.bipush 30, 2) := by decide +kernel
theorem dX6_takeOne_6 : decode cX6_takeOne 6 = .ok (.if_icmp .le 5, 3) := by decide +kernel
theorem dX6_takeOne_9 : decode cX6_takeOne 9 = .ok (.iconst 0, 1) := by decide +kernel
theorem dX6_takeOne_10 : decode cX6_takeOne 10 = .ok (.ireturn, 1) := by decide +kernel
theorem dX6_takeOne_11 : decode cX6_takeOne 11 = .ok (.iload_n 1, 1) := by decide +kernel
theorem dX6_takeOne_12 : decode cX6_takeOne 12 = .ok (.bipush 40, 2) := by decide +kernel
theorem dX6_takeOne_14 : decode cX6_takeOne 14 = .ok (.if_icmp .ne 11, 3) := by decide +kernel
theorem dX6_takeOne_17 : decode cX6_takeOne 17 = .ok (.aload_n 0, 1) := by decide +kernel
theorem dX6_takeOne_18 : decode cX6_takeOne 18 = .ok (.iload_n 1, 1) := by decide +kernel
theorem dX6_takeOne_19 : decode cX6_takeOne 19 = .ok (.bipush 41, 2) := by decide +kernel
theorem dX6_takeOne_21 : decode cX6_takeOne 21 = .ok (.invokevirtual 92, 3) := by decide +kernel
theorem dX6_takeOne_24 : decode cX6_takeOne 24 = .ok (.ireturn, 1) := by decide +kernel
theorem dX6_takeOne_25 : decode cX6_takeOne 25 = .ok (.aload_n 0, 1) := by decide +kernel
theorem dX6_takeOne_26 : decode cX6_takeOne 26 = .ok (.getfield 20, 3) := by decide +kernel
theorem dX6_takeOne_29 : decode cX6_takeOne 29 = .ok (.getfield 56, 3) := by decide +kernel
theorem dX6_takeOne_32 : decode cX6_takeOne 32 = .ok (.sipush 150, 3) := by decide +kernel
theorem dX6_takeOne_35 : decode cX6_takeOne 35 = .ok (.if_icmp .lt 5, 3) := by decide +kernel
theorem dX6_takeOne_38 : decode cX6_takeOne 38 = .ok (.iconst 0, 1) := by decide +kernel
theorem dX6_takeOne_39 : decode cX6_takeOne 39 = .ok (.ireturn, 1) := by decide +kernel
theorem dX6_takeOne_40 : decode cX6_takeOne 40 = .ok (.iload_n 1, 1) := by decide +kernel
theorem dX6_takeOne_41 : decode cX6_takeOne 41 = .ok (.invokestatic 96, 3) := by decide +kernel
theorem dX6_takeOne_44 : decode cX6_takeOne 44 = .ok (.ifCond .eq 22, 3) := by decide +kernel
theorem dX6_takeOne_47 : decode cX6_takeOne 47 = .ok (.aload_n 0, 1) := by decide +kernel
theorem dX6_takeOne_48 : decode cX6_takeOne 48 = .ok (.iload_n 1, 1) := by decide +kernel
theorem dX6_takeOne_49 : decode cX6_takeOne 49 = .ok (.iload_n 1, 1) := by decide +kernel
theorem dX6_takeOne_50 : decode cX6_takeOne 50 = .ok (.bipush 91, 2) := by decide +kernel
theorem dX6_takeOne_52 : decode cX6_takeOne 52 = .ok (.if_icmp .ne 8, 3) := by decide +kernel
theorem dX6_takeOne_55 : decode cX6_takeOne 55 = .ok (.bipush 93, 2) := by decide +kernel
theorem dX6_takeOne_57 : decode cX6_takeOne 57 = .ok (.goto 5, 3) := by decide +kernel
theorem dX6_takeOne_60 : decode cX6_takeOne 60 = .ok (.bipush 125, 2) := by decide +kernel
theorem dX6_takeOne_62 : decode cX6_takeOne 62 = .ok (.invokevirtual 92, 3) := by decide +kernel
theorem dX6_takeOne_65 : decode cX6_takeOne 65 = .ok (.ireturn, 1) := by decide +kernel
theorem dX6_takeOne_66 : decode cX6_takeOne 66 = .ok (.iload_n 1, 1) := by decide +kernel
theorem dX6_takeOne_67 : decode cX6_takeOne 67 = .ok (.invokestatic 99, 3) := by decide +kernel
theorem dX6_takeOne_70 : decode cX6_takeOne 70 = .ok (.ifCond .eq 9, 3) := by decide +kernel
theorem dX6_takeOne_73 : decode cX6_takeOne 73 = .ok (.aload_n 0, 1) := by decide +kernel
theorem dX6_takeOne_74 : decode cX6_takeOne 74 = .ok (.iload_n 1, 1) := by decide +kernel
theorem dX6_takeOne_75 : decode cX6_takeOne 75 = .ok (.invokevirtual 102, 3) := by decide +kernel
theorem dX6_takeOne_78 : decode cX6_takeOne 78 = .ok (.ireturn, 1) := by decide +kernel
theorem dX6_takeOne_79 : decode cX6_takeOne 79 = .ok (.iload_n 1, 1) := by decide +kernel
theorem dX6_takeOne_80 : decode cX6_takeOne 80 = .ok (.bipush 126, 2) := by decide +kernel
theorem dX6_takeOne_82 : decode cX6_takeOne 82 = .ok (.if_icmp .eq 12, 3) := by decide +kernel
theorem dX6_takeOne_85 : decode cX6_takeOne 85 = .ok (.iload_n 1, 1) := by decide +kernel
theorem dX6_takeOne_86 : decode cX6_takeOne 86 = .ok (.invokestatic 105, 3) := by decide +kernel
theorem dX6_takeOne_89 : decode cX6_takeOne 89 = .ok (.ifCond .ne 5, 3) := by decide +kernel
theorem dX6_takeOne_92 : decode cX6_takeOne 92 = .ok (.iconst 0, 1) := by decide +kernel
theorem dX6_takeOne_93 : decode cX6_takeOne 93 = .ok (.ireturn, 1) := by decide +kernel
theorem dX6_takeOne_94 : decode cX6_takeOne 94 = .ok (.aload_n 0, 1) := by decide +kernel
theorem dX6_takeOne_95 : decode cX6_takeOne 95 = .ok (.getfield 20, 3) := by decide +kernel
theorem dX6_takeOne_98 : decode cX6_takeOne 98 = .ok (.iload_n 1, 1) := by decide +kernel
theorem dX6_takeOne_99 : decode cX6_takeOne 99 = .ok (.invokevirtual 108, 3) := by decide +kernel
theorem dX6_takeOne_102 : decode cX6_takeOne 102 = .ok (.pop, 1) := by decide +kernel
theorem dX6_takeOne_103 : decode cX6_takeOne 103 = .ok (.aload_n 0, 1) := by decide +kernel
theorem dX6_takeOne_104 : decode cX6_takeOne 104 = .ok (.iload_n 1, 1) := by decide +kernel
theorem dX6_takeOne_105 : decode cX6_takeOne 105 = .ok (.bipush 126, 2) := by decide +kernel
theorem dX6_takeOne_107 : decode cX6_takeOne 107 = .ok (.if_icmp .ne 7, 3) := by decide +kernel
theorem dX6_takeOne_110 : decode cX6_takeOne 110 = .ok (.iconst 1, 1) := by decide +kernel
theorem dX6_takeOne_111 : decode cX6_takeOne 111 = .ok (.goto 4, 3) := by decide +kernel
theorem dX6_takeOne_114 : decode cX6_takeOne 114 = .ok (.iconst 0, 1) := by decide +kernel
theorem dX6_takeOne_115 : decode cX6_takeOne 115 = .ok (.putfield 78, 3) := by decide +kernel
theorem dX6_takeOne_118 : decode cX6_takeOne 118 = .ok (.aload_n 0, 1) := by decide +kernel
theorem dX6_takeOne_119 : decode cX6_takeOne 119 = .ok (.dup, 1) := by decide +kernel
theorem dX6_takeOne_120 : decode cX6_takeOne 120 = .ok (.getfield 89, 3) := by decide +kernel
theorem dX6_takeOne_123 : decode cX6_takeOne 123 = .ok (.iconst 1, 1) := by decide +kernel
theorem dX6_takeOne_124 : decode cX6_takeOne 124 = .ok (.iadd, 1) := by decide +kernel
theorem dX6_takeOne_125 : decode cX6_takeOne 125 = .ok (.putfield 89, 3) := by decide +kernel
theorem dX6_takeOne_128 : decode cX6_takeOne 128 = .ok (.aload_n 0, 1) := by decide +kernel
theorem dX6_takeOne_129 : decode cX6_takeOne 129 = .ok (.aload_n 0, 1) := by decide +kernel
theorem dX6_takeOne_130 : decode cX6_takeOne 130 = .ok (.getfield 71, 3) := by decide +kernel
theorem dX6_takeOne_133 : decode cX6_takeOne 133 = .ok (.iconst 1, 1) := by decide +kernel
theorem dX6_takeOne_134 : decode cX6_takeOne 134 = .ok (.iadd, 1) := by decide +kernel
theorem dX6_takeOne_135 : decode cX6_takeOne 135 = .ok (.invokevirtual 64, 3) := by decide +kernel
theorem dX6_takeOne_138 : decode cX6_takeOne 138 = .ok (.iconst 1, 1) := by decide +kernel
theorem dX6_takeOne_139 : decode cX6_takeOne 139 = .ok (.ireturn, 1) := by decide +kernel
def f_X6_takeOne_62 (F P : Nat) (S : xSt) (s0 : Int32) (s1 : Int32) (s2 : Nat) (D : xDt) : Option (Int32 × xDt) :=
  (f_X6_takeOpening F P S s2 s1 s0 D).bind fun q1 => xgrd (xb q1.1) (some (q1.1, q1.2))
set_option maxHeartbeats 4000000 in
theorem t_X6_takeOne_62 {F P : Nat} {S : xSt} (hS : xWF S) {s0 : Int32} {s1 : Int32} {s2 : Nat} {D : xDt} {r : Int32 × xDt} (ks2 : xK S s2 6) (h : f_X6_takeOne_62 F P S s0 s1 s2 D = some r) : yEx md_X6_takeOne 3 62 [] [.int s0, .int s1, .ref s2] S D (xQi S r) := by
  unfold f_X6_takeOne_62 at h
  refine xbnd_e h (fun q1 e1 h => ?_)
  refine y_callVi (As := [.int s1, .int s0]) (q := q1) cv_RX6_92 dX6_takeOne_62 ks2 rfl (Nat.le_of_ble_eq_true rfl) (by omega) (S_X6_takeOpening hS ks2 e1) ?_
  refine xgrd_e h (fun g2 h => ?_)
  obtain rfl := Option.some.inj h
  exact y_zret rfl g2 dX6_takeOne_65

def f_X6_takeOne_115 (F P : Nat) (S : xSt) (v0 : Nat) (s0 : Int32) (s1 : Nat) (D : xDt) : Option (Int32 × xDt) :=
  xgrd (xb s0) (xlet (xup D.1 s1 11 s0, D.2) fun D2 => xlet (xup D2.1 v0 10 ((D2.1 v0 10) + 1), D2.2) fun D3 => (f_X6_toSign F P S v0 ((D3.1 v0 12) + 1) D3).bind fun q4 => some (1, q4))
set_option maxHeartbeats 4000000 in
theorem t_X6_takeOne_115 {F P : Nat} {S : xSt} (hS : xWF S) {v0 : Nat} {s0 : Int32} {s1 : Nat} {D : xDt} {r : Int32 × xDt} (k0 : xK S v0 6) (ks1 : xK S s1 6) (h : f_X6_takeOne_115 F P S v0 s0 s1 D = some r) : yEx md_X6_takeOne 3 115 [(0, .ref v0)] [.int s0, .ref s1] S D (xQi S r) := by
  unfold f_X6_takeOne_115 at h
  refine xgrd_e h (fun g1 h => ?_)
  refine xlet_e h (fun D2 eD2 h => ?_)
  refine y_putz g1 fp_RX6_78 dX6_takeOne_115 rfl ks1 eD2 ?_
  refine x_aload_n dX6_takeOne_118 0 rfl ?_
  refine x_dup dX6_takeOne_119 rfl ?_
  refine y_geti fl_RX6_89 dX6_takeOne_120 rfl k0 ?_
  refine x_iconst 1 dX6_takeOne_123 (by decide) ?_
  refine x_iadd dX6_takeOne_124 ?_
  refine xlet_e h (fun D3 eD3 h => ?_)
  refine y_puti fp_RX6_89 dX6_takeOne_125 rfl k0 eD3 ?_
  refine x_aload_n dX6_takeOne_128 0 rfl ?_
  refine x_aload_n dX6_takeOne_129 0 rfl ?_
  refine y_geti fl_RX6_71 dX6_takeOne_130 rfl k0 ?_
  refine x_iconst 1 dX6_takeOne_133 (by decide) ?_
  refine x_iadd dX6_takeOne_134 ?_
  refine xbnd_e h (fun q4 e4 h => ?_)
  refine y_callVv (As := [.int ((D3.1 v0 12) + 1)]) (q := q4) cv_RX6_64 dX6_takeOne_135 k0 rfl (Nat.le_of_ble_eq_true rfl) (by omega) (S_X6_toSign hS k0 e4) ?_
  refine x_iconst 1 dX6_takeOne_138 (by decide) ?_
  obtain rfl := Option.some.inj h
  exact y_zret rfl rfl dX6_takeOne_139

def f_X6_takeOne_94 (F P : Nat) (S : xSt) (v0 : Nat) (v1 : Int32) (D : xDt) : Option (Int32 × xDt) :=
  (f_X2_add F P S (xr S v0 2) v1 D).bind fun q1 => if v1 = 126 then (f_X6_takeOne_115 F P S v0 1 v0 q1.2) else (f_X6_takeOne_115 F P S v0 0 v0 q1.2)
set_option maxHeartbeats 4000000 in
theorem t_X6_takeOne_94 {F P : Nat} {S : xSt} (hS : xWF S) {v0 : Nat} {v1 : Int32} {D : xDt} {r : Int32 × xDt} (k0 : xK S v0 6) (h : f_X6_takeOne_94 F P S v0 v1 D = some r) : yEx md_X6_takeOne 3 94 [(0, .ref v0), (1, .int v1)] [] S D (xQi S r) := by
  unfold f_X6_takeOne_94 at h
  refine x_aload_n dX6_takeOne_94 0 rfl ?_
  refine y_getr (kd := 2) hS fl_RX6_20 dX6_takeOne_95 rfl k0 ?_
  refine x_iload_n dX6_takeOne_98 1 rfl ?_
  refine xbnd_e h (fun q1 e1 h => ?_)
  refine y_callVi (As := [.int v1]) (q := q1) cv_RX6_108 dX6_takeOne_99 ((hS.f k0 2 2 rfl).2) rfl (Nat.le_of_ble_eq_true rfl) (by omega) (S_X2_add hS ((hS.f k0 2 2 rfl).2) e1) ?_
  refine x_pop dX6_takeOne_102 rfl ?_
  refine x_aload_n dX6_takeOne_103 0 rfl ?_
  refine x_iload_n dX6_takeOne_104 1 rfl ?_
  refine x_bipush 126 dX6_takeOne_105 (by decide) ?_
  refine x_icmp_ne 114 dX6_takeOne_107 (by decide) (fun c => ?_) (fun c => ?_)
  · rw [if_neg c] at h
    refine x_iconst 0 dX6_takeOne_114 (by decide) ?_
    refine x_lv (lv' := [(0, .ref v0)]) [0] rfl ?_
    exact t_X6_takeOne_115 hS k0 k0 h
  · rw [if_pos c] at h
    refine x_iconst 1 dX6_takeOne_110 (by decide) ?_
    refine x_goto 115 dX6_takeOne_111 (by decide) ?_
    refine x_lv (lv' := [(0, .ref v0)]) [0] rfl ?_
    exact t_X6_takeOne_115 hS k0 k0 h

def f_X6_takeOne (F P : Nat) (S : xSt) (v0 : Nat) (v1 : Int32) (D : xDt) : Option (Int32 × xDt) :=
  if (D.1 v0 10) ≤ 30 then (if v1 = 40 then ((f_X6_takeOpening F P S v0 v1 41 D).bind fun q6 => xgrd (xb q6.1) (some (q6.1, q6.2))) else (if (D.1 (xr S v0 2) 1) < 150 then ((f_X11_isSaying F P S v1 D).bind fun q1 => if q1.1 = 0 then ((f_X11_isKnowing F P S v1 q1.2).bind fun q2 => if q2.1 = 0 then (if v1 = 126 then (f_X6_takeOne_94 F P S v0 v1 q2.2) else ((f_X11_isLeaf F P S v1 q2.2).bind fun q3 => if q3.1 = 0 then (some (0, q3.2)) else (f_X6_takeOne_94 F P S v0 v1 q3.2))) else ((f_X6_takeKnowing F P S v0 v1 q2.2).bind fun q4 => xgrd (xb q4.1) (some (q4.1, q4.2)))) else (if v1 = 91 then (f_X6_takeOne_62 F P S 93 v1 v0 q1.2) else (f_X6_takeOne_62 F P S 125 v1 v0 q1.2))) else (some (0, D)))) else (some (0, D))
set_option maxHeartbeats 4000000 in
theorem S_X6_takeOne {F P : Nat} {S : xSt} (hS : xWF S) {v0 : Nat} {v1 : Int32} {D : xDt} {r : Int32 × xDt} (k0 : xK S v0 6) (h : f_X6_takeOne F P S v0 v1 D = some r) : xSp md_X6_takeOne (3, 0, 0) [.ref v0, .int v1] (S, D) (xQi S r) := by
  unfold f_X6_takeOne at h
  refine xEntry (by decide) (Nat.le_of_ble_eq_true rfl) ?_
  refine x_lv (lv' := [(0, .ref v0), (1, .int v1)]) [0, 1] rfl ?_
  refine x_aload_n dX6_takeOne_0 0 rfl ?_
  refine y_geti fl_RX6_89 dX6_takeOne_1 rfl k0 ?_
  refine x_bipush 30 dX6_takeOne_4 (by decide) ?_
  refine x_icmp_le 11 dX6_takeOne_6 (by decide) (fun c => ?_) (fun c => ?_)
  · rw [if_pos c] at h
    refine x_iload_n dX6_takeOne_11 1 rfl ?_
    refine x_bipush 40 dX6_takeOne_12 (by decide) ?_
    refine x_icmp_ne 25 dX6_takeOne_14 (by decide) (fun c => ?_) (fun c => ?_)
    · rw [if_neg c] at h
      refine x_aload_n dX6_takeOne_25 0 rfl ?_
      refine y_getr (kd := 2) hS fl_RX6_20 dX6_takeOne_26 rfl k0 ?_
      refine y_geti fl_RX6_56 dX6_takeOne_29 rfl ((hS.f k0 2 2 rfl).2) ?_
      refine x_sipush 150 dX6_takeOne_32 (by decide) ?_
      refine x_icmp_lt 40 dX6_takeOne_35 (by decide) (fun c => ?_) (fun c => ?_)
      · rw [if_pos c] at h
        refine x_iload_n dX6_takeOne_40 1 rfl ?_
        refine xbnd_e h (fun q1 e1 h => ?_)
        refine y_callNi (As := [.int v1]) (q := q1) cn_RX6_96 dX6_takeOne_41 rfl (Nat.le_of_ble_eq_true rfl) (by omega) (S_X11_isSaying hS e1) ?_
        refine x_if_eq 66 dX6_takeOne_44 (by decide) (fun c => ?_) (fun c => ?_)
        · rw [if_pos c] at h
          refine x_iload_n dX6_takeOne_66 1 rfl ?_
          refine xbnd_e h (fun q2 e2 h => ?_)
          refine y_callNi (As := [.int v1]) (q := q2) cn_RX6_99 dX6_takeOne_67 rfl (Nat.le_of_ble_eq_true rfl) (by omega) (S_X11_isKnowing hS e2) ?_
          refine x_if_eq 79 dX6_takeOne_70 (by decide) (fun c => ?_) (fun c => ?_)
          · rw [if_pos c] at h
            refine x_iload_n dX6_takeOne_79 1 rfl ?_
            refine x_bipush 126 dX6_takeOne_80 (by decide) ?_
            refine x_icmp_eq 94 dX6_takeOne_82 (by decide) (fun c => ?_) (fun c => ?_)
            · rw [if_pos c] at h
              exact t_X6_takeOne_94 hS k0 h
            · rw [if_neg c] at h
              refine x_iload_n dX6_takeOne_85 1 rfl ?_
              refine xbnd_e h (fun q3 e3 h => ?_)
              refine y_callNi (As := [.int v1]) (q := q3) cn_RX6_105 dX6_takeOne_86 rfl (Nat.le_of_ble_eq_true rfl) (by omega) (S_X11_isLeaf hS e3) ?_
              refine x_if_ne 94 dX6_takeOne_89 (by decide) (fun c => ?_) (fun c => ?_)
              · rw [if_neg c] at h
                exact t_X6_takeOne_94 hS k0 h
              · rw [if_pos c] at h
                refine x_iconst 0 dX6_takeOne_92 (by decide) ?_
                obtain rfl := Option.some.inj h
                exact y_zret rfl rfl dX6_takeOne_93
          · rw [if_neg c] at h
            refine x_aload_n dX6_takeOne_73 0 rfl ?_
            refine x_iload_n dX6_takeOne_74 1 rfl ?_
            refine xbnd_e h (fun q4 e4 h => ?_)
            refine y_callVi (As := [.int v1]) (q := q4) cv_RX6_102 dX6_takeOne_75 k0 rfl (Nat.le_of_ble_eq_true rfl) (by omega) (S_X6_takeKnowing hS k0 e4) ?_
            refine xgrd_e h (fun g5 h => ?_)
            obtain rfl := Option.some.inj h
            exact y_zret rfl g5 dX6_takeOne_78
        · rw [if_neg c] at h
          refine x_aload_n dX6_takeOne_47 0 rfl ?_
          refine x_iload_n dX6_takeOne_48 1 rfl ?_
          refine x_iload_n dX6_takeOne_49 1 rfl ?_
          refine x_bipush 91 dX6_takeOne_50 (by decide) ?_
          refine x_icmp_ne 60 dX6_takeOne_52 (by decide) (fun c => ?_) (fun c => ?_)
          · rw [if_neg c] at h
            refine x_bipush 125 dX6_takeOne_60 (by decide) ?_
            refine x_lv (lv' := []) [] rfl ?_
            exact t_X6_takeOne_62 hS k0 h
          · rw [if_pos c] at h
            refine x_bipush 93 dX6_takeOne_55 (by decide) ?_
            refine x_goto 62 dX6_takeOne_57 (by decide) ?_
            refine x_lv (lv' := []) [] rfl ?_
            exact t_X6_takeOne_62 hS k0 h
      · rw [if_neg c] at h
        refine x_iconst 0 dX6_takeOne_38 (by decide) ?_
        obtain rfl := Option.some.inj h
        exact y_zret rfl rfl dX6_takeOne_39
    · rw [if_pos c] at h
      refine x_aload_n dX6_takeOne_17 0 rfl ?_
      refine x_iload_n dX6_takeOne_18 1 rfl ?_
      refine x_bipush 41 dX6_takeOne_19 (by decide) ?_
      refine xbnd_e h (fun q6 e6 h => ?_)
      refine y_callVi (As := [.int v1, .int 41]) (q := q6) cv_RX6_92 dX6_takeOne_21 k0 rfl (Nat.le_of_ble_eq_true rfl) (by omega) (S_X6_takeOpening hS k0 e6) ?_
      refine xgrd_e h (fun g7 h => ?_)
      obtain rfl := Option.some.inj h
      exact y_zret rfl g7 dX6_takeOne_24
  · rw [if_neg c] at h
    refine x_iconst 0 dX6_takeOne_9 (by decide) ?_
    obtain rfl := Option.some.inj h
    exact y_zret rfl rfl dX6_takeOne_10

theorem dX6_leave_0 : decode cX6_leave 0 = .ok (.aload_n 0, 1) := by decide +kernel
theorem dX6_leave_1 : decode cX6_leave 1 = .ok (.getfield 57, 3) := by decide +kernel
theorem dX6_leave_4 : decode cX6_leave 4 = .ok (.ifCond .ne 5, 3) := by decide +kernel
theorem dX6_leave_7 : decode cX6_leave 7 = .ok (.iconst 0, 1) := by decide +kernel
theorem dX6_leave_8 : decode cX6_leave 8 = .ok (.ireturn, 1) := by decide +kernel
theorem dX6_leave_9 : decode cX6_leave 9 = .ok (.aload_n 0, 1) := by decide +kernel
theorem dX6_leave_10 : decode cX6_leave 10 = .ok (.iload_n 1, 1) := by decide +kernel
theorem dX6_leave_11 : decode cX6_leave 11 = .ok (.bipush 41, 2) := by decide +kernel
theorem dX6_leave_13 : decode cX6_leave 13 = .ok (.if_icmp .eq 7, 3) := by decide +kernel
theorem dX6_leave_16 : decode cX6_leave 16 = .ok (.iconst 1, 1) := by decide +kernel
theorem dX6_leave_17 : decode cX6_leave 17 = .ok (.goto 4, 3) := by decide +kernel
theorem dX6_leave_20 : decode cX6_leave 20 = .ok (.iconst 0, 1) := by decide +kernel
theorem dX6_leave_21 : decode cX6_leave 21 = .ok (.putfield 78, 3) := by decide +kernel
theorem dX6_leave_24 : decode cX6_leave 24 = .ok (.aload_n 0, 1) := by decide +kernel
theorem dX6_leave_25 : decode cX6_leave 25 = .ok (.aload_n 0, 1) := by decide +kernel
theorem dX6_leave_26 : decode cX6_leave 26 = .ok (.getfield 37, 3) := by decide +kernel
theorem dX6_leave_29 : decode cX6_leave 29 = .ok (.aload_n 0, 1) := by decide +kernel
theorem dX6_leave_30 : decode cX6_leave 30 = .ok (.getfield 57, 3) := by decide +kernel
theorem dX6_leave_33 : decode cX6_leave 33 = .ok (.iaload, 1) := by decide +kernel
theorem dX6_leave_34 : decode cX6_leave 34 = .ok (.iconst 1, 1) := by decide +kernel
theorem dX6_leave_35 : decode cX6_leave 35 = .ok (.iadd, 1) := by decide +kernel
theorem dX6_leave_36 : decode cX6_leave 36 = .ok (.putfield 89, 3) := by decide +kernel
theorem dX6_leave_39 : decode cX6_leave 39 = .ok (.aload_n 0, 1) := by decide +kernel
theorem dX6_leave_40 : decode cX6_leave 40 = .ok (.dup, 1) := by decide +kernel
theorem dX6_leave_41 : decode cX6_leave 41 = .ok (.getfield 57, 3) := by decide +kernel
theorem dX6_leave_44 : decode cX6_leave 44 = .ok (.iconst 1, 1) := by decide +kernel
theorem dX6_leave_45 : decode cX6_leave 45 = .ok (.isub, 1) := by decide +kernel
theorem dX6_leave_46 : decode cX6_leave 46 = .ok (.putfield 57, 3) := by decide +kernel
theorem dX6_leave_49 : decode cX6_leave 49 = .ok (.iconst 1, 1) := by decide +kernel
theorem dX6_leave_50 : decode cX6_leave 50 = .ok (.ireturn, 1) := by decide +kernel
def f_X6_leave_21 (F P : Nat) (S : xSt) (v0 : Nat) (s0 : Int32) (s1 : Nat) (D : xDt) : Option (Int32 × xDt) :=
  xgrd (xb s0) (xlet (xup D.1 s1 11 s0, D.2) fun D2 => xgrd (xin (D2.1 v0 9) (xl S (xr S v0 7))) (xlet (xup D2.1 v0 10 ((D2.1 (xr S v0 7) (D2.1 v0 9).toNatClampNeg) + 1), D2.2) fun D4 => xlet (xup D4.1 v0 9 ((D4.1 v0 9) - 1), D4.2) fun D5 => some (1, D5)))
set_option maxHeartbeats 4000000 in
theorem t_X6_leave_21 {F P : Nat} {S : xSt} (hS : xWF S) {v0 : Nat} {s0 : Int32} {s1 : Nat} {D : xDt} {r : Int32 × xDt} (k0 : xK S v0 6) (ks1 : xK S s1 6) (h : f_X6_leave_21 F P S v0 s0 s1 D = some r) : yEx md_X6_leave 0 21 [(0, .ref v0)] [.int s0, .ref s1] S D (xQi S r) := by
  unfold f_X6_leave_21 at h
  refine xgrd_e h (fun g1 h => ?_)
  refine xlet_e h (fun D2 eD2 h => ?_)
  refine y_putz g1 fp_RX6_78 dX6_leave_21 rfl ks1 eD2 ?_
  refine x_aload_n dX6_leave_24 0 rfl ?_
  refine x_aload_n dX6_leave_25 0 rfl ?_
  refine y_getr (kd := 100) hS fl_RX6_37 dX6_leave_26 rfl k0 ?_
  refine x_aload_n dX6_leave_29 0 rfl ?_
  refine y_geti fl_RX6_57 dX6_leave_30 rfl k0 ?_
  refine xgrd_e h (fun g3 h => ?_)
  refine y_iald dX6_leave_33 ((hS.f k0 7 100 rfl).2) g3 ?_
  refine x_iconst 1 dX6_leave_34 (by decide) ?_
  refine x_iadd dX6_leave_35 ?_
  refine xlet_e h (fun D4 eD4 h => ?_)
  refine y_puti fp_RX6_89 dX6_leave_36 rfl k0 eD4 ?_
  refine x_aload_n dX6_leave_39 0 rfl ?_
  refine x_dup dX6_leave_40 rfl ?_
  refine y_geti fl_RX6_57 dX6_leave_41 rfl k0 ?_
  refine x_iconst 1 dX6_leave_44 (by decide) ?_
  refine x_isub dX6_leave_45 ?_
  refine xlet_e h (fun D5 eD5 h => ?_)
  refine y_puti fp_RX6_57 dX6_leave_46 rfl k0 eD5 ?_
  refine x_iconst 1 dX6_leave_49 (by decide) ?_
  obtain rfl := Option.some.inj h
  exact y_zret rfl rfl dX6_leave_50

def f_X6_leave (F P : Nat) (S : xSt) (v0 : Nat) (v1 : Int32) (D : xDt) : Option (Int32 × xDt) :=
  if (D.1 v0 9) = 0 then (some (0, D)) else (if v1 = 41 then (f_X6_leave_21 F P S v0 0 v0 D) else (f_X6_leave_21 F P S v0 1 v0 D))
set_option maxHeartbeats 4000000 in
theorem S_X6_leave {F P : Nat} {S : xSt} (hS : xWF S) {v0 : Nat} {v1 : Int32} {D : xDt} {r : Int32 × xDt} (k0 : xK S v0 6) (h : f_X6_leave F P S v0 v1 D = some r) : xSp md_X6_leave (0, 0, 0) [.ref v0, .int v1] (S, D) (xQi S r) := by
  unfold f_X6_leave at h
  refine xEntry (by decide) (Nat.le_of_ble_eq_true rfl) ?_
  refine x_lv (lv' := [(0, .ref v0), (1, .int v1)]) [0, 1] rfl ?_
  refine x_aload_n dX6_leave_0 0 rfl ?_
  refine y_geti fl_RX6_57 dX6_leave_1 rfl k0 ?_
  refine x_if_ne 9 dX6_leave_4 (by decide) (fun c => ?_) (fun c => ?_)
  · rw [if_neg c] at h
    refine x_aload_n dX6_leave_9 0 rfl ?_
    refine x_iload_n dX6_leave_10 1 rfl ?_
    refine x_bipush 41 dX6_leave_11 (by decide) ?_
    refine x_icmp_eq 20 dX6_leave_13 (by decide) (fun c => ?_) (fun c => ?_)
    · rw [if_pos c] at h
      refine x_iconst 0 dX6_leave_20 (by decide) ?_
      refine x_lv (lv' := [(0, .ref v0)]) [0] rfl ?_
      exact t_X6_leave_21 hS k0 k0 h
    · rw [if_neg c] at h
      refine x_iconst 1 dX6_leave_16 (by decide) ?_
      refine x_goto 21 dX6_leave_17 (by decide) ?_
      refine x_lv (lv' := [(0, .ref v0)]) [0] rfl ?_
      exact t_X6_leave_21 hS k0 k0 h
  · rw [if_pos c] at h
    refine x_iconst 0 dX6_leave_7 (by decide) ?_
    obtain rfl := Option.some.inj h
    exact y_zret rfl rfl dX6_leave_8

theorem dX6_takeJoin_0 : decode cX6_takeJoin 0 = .ok (.iload_n 1, 1) := by decide +kernel
theorem dX6_takeJoin_1 : decode cX6_takeJoin 1 = .ok (.invokestatic 127, 3) := by decide +kernel
theorem dX6_takeJoin_4 : decode cX6_takeJoin 4 = .ok (.ifCond .eq 21, 3) := by decide +kernel
theorem dX6_takeJoin_7 : decode cX6_takeJoin 7 = .ok (.iload_n 1, 1) := by decide +kernel
theorem dX6_takeJoin_8 : decode cX6_takeJoin 8 = .ok (.bipush 61, 2) := by decide +kernel
theorem dX6_takeJoin_10 : decode cX6_takeJoin 10 = .ok (.if_icmp .ne 17, 3) := by decide +kernel
theorem dX6_takeJoin_13 : decode cX6_takeJoin 13 = .ok (.aload_n 0, 1) := by decide +kernel
theorem dX6_takeJoin_14 : decode cX6_takeJoin 14 = .ok (.getfield 40, 3) := by decide +kernel
theorem dX6_takeJoin_17 : decode cX6_takeJoin 17 = .ok (.aload_n 0, 1) := by decide +kernel
theorem dX6_takeJoin_18 : decode cX6_takeJoin 18 = .ok (.getfield 57, 3) := by decide +kernel
theorem dX6_takeJoin_21 : decode cX6_takeJoin 21 = .ok (.baload, 1) := by decide +kernel
theorem dX6_takeJoin_22 : decode cX6_takeJoin 22 = .ok (.ifCond .eq 5, 3) := by decide +kernel
theorem dX6_takeJoin_25 : decode cX6_takeJoin 25 = .ok (.iconst 0, 1) := by decide +kernel
theorem dX6_takeJoin_26 : decode cX6_takeJoin 26 = .ok (.ireturn, 1) := by decide +kernel
theorem dX6_takeJoin_27 : decode cX6_takeJoin 27 = .ok (.iload_n 1, 1) := by decide +kernel
theorem dX6_takeJoin_28 : decode cX6_takeJoin 28 = .ok (.bipush 61, 2) := by decide +kernel
theorem dX6_takeJoin_30 : decode cX6_takeJoin 30 = .ok (.if_icmp .ne 15, 3) := by decide +kernel
theorem dX6_takeJoin_33 : decode cX6_takeJoin 33 = .ok (.aload_n 0, 1) := by decide +kernel
theorem dX6_takeJoin_34 : decode cX6_takeJoin 34 = .ok (.getfield 27, 3) := by decide +kernel
theorem dX6_takeJoin_37 : decode cX6_takeJoin 37 = .ok (.aload_n 0, 1) := by decide +kernel
theorem dX6_takeJoin_38 : decode cX6_takeJoin 38 = .ok (.getfield 57, 3) := by decide +kernel
theorem dX6_takeJoin_41 : decode cX6_takeJoin 41 = .ok (.iaload, 1) := by decide +kernel
theorem dX6_takeJoin_42 : decode cX6_takeJoin 42 = .ok (.goto 30, 3) := by decide +kernel
theorem dX6_takeJoin_45 : decode cX6_takeJoin 45 = .ok (.iload_n 1, 1) := by decide +kernel
theorem dX6_takeJoin_46 : decode cX6_takeJoin 46 = .ok (.bipush 38, 2) := by decide +kernel
theorem dX6_takeJoin_48 : decode cX6_takeJoin 48 = .ok (.if_icmp .ne 15, 3) := by decide +kernel
theorem dX6_takeJoin_51 : decode cX6_takeJoin 51 = .ok (.aload_n 0, 1) := by decide +kernel
theorem dX6_takeJoin_52 : decode cX6_takeJoin 52 = .ok (.getfield 34, 3) := by decide +kernel
theorem dX6_takeJoin_55 : decode cX6_takeJoin 55 = .ok (.aload_n 0, 1) := by decide +kernel
theorem dX6_takeJoin_56 : decode cX6_takeJoin 56 = .ok (.getfield 57, 3) := by decide +kernel
theorem dX6_takeJoin_59 : decode cX6_takeJoin 59 = .ok (.iaload, 1) := by decide +kernel
theorem dX6_takeJoin_60 : decode cX6_takeJoin 60 = .ok (.goto 12, 3) := by decide +kernel
theorem dX6_takeJoin_63 : decode cX6_takeJoin 63 = .ok (.aload_n 0, 1) := by decide +kernel
theorem dX6_takeJoin_64 : decode cX6_takeJoin 64 = .ok (.getfield 31, 3) := by decide +kernel
theorem dX6_takeJoin_67 : decode cX6_takeJoin 67 = .ok (.aload_n 0, 1) := by decide +kernel
theorem dX6_takeJoin_68 : decode cX6_takeJoin 68 = .ok (.getfield 57, 3) := by decide +kernel
theorem dX6_takeJoin_71 : decode cX6_takeJoin 71 = .ok (.iaload, 1) := by decide +kernel
theorem dX6_takeJoin_72 : decode cX6_takeJoin 72 = .ok (.istore_n 2, 1) := by decide +kernel
theorem dX6_takeJoin_73 : decode cX6_takeJoin 73 = .ok (.aload_n 0, 1) := by decide +kernel
theorem dX6_takeJoin_74 : decode cX6_takeJoin 74 = .ok (.getfield 20, 3) := by decide +kernel
theorem dX6_takeJoin_77 : decode cX6_takeJoin 77 = .ok (.iload_n 2, 1) := by decide +kernel
theorem dX6_takeJoin_78 : decode cX6_takeJoin 78 = .ok (.iload_n 1, 1) := by decide +kernel
theorem dX6_takeJoin_79 : decode cX6_takeJoin 79 = .ok (.invokevirtual 130, 3) := by decide +kernel
theorem dX6_takeJoin_82 : decode cX6_takeJoin 82 = .ok (.ifCond .ne 5, 3) := by decide +kernel
theorem dX6_takeJoin_85 : decode cX6_takeJoin 85 = .ok (.iconst 0, 1) := by decide +kernel
theorem dX6_takeJoin_86 : decode cX6_takeJoin 86 = .ok (.ireturn, 1) := by decide +kernel
theorem dX6_takeJoin_87 : decode cX6_takeJoin 87 = .ok (.aload_n 0, 1) := by decide +kernel
theorem dX6_takeJoin_88 : decode cX6_takeJoin 88 = .ok (.getfield 40, 3) := by decide +kernel
theorem dX6_takeJoin_91 : decode cX6_takeJoin 91 = .ok (.aload_n 0, 1) := by decide +kernel
theorem dX6_takeJoin_92 : decode cX6_takeJoin 92 = .ok (.getfield 57, 3) := by decide +kernel
theorem dX6_takeJoin_95 : decode cX6_takeJoin 95 = .ok (.aload_n 0, 1) := by decide +kernel
theorem dX6_takeJoin_96 : decode cX6_takeJoin 96 = .ok (.getfield 40, 3) := by decide +kernel
theorem dX6_takeJoin_99 : decode cX6_takeJoin 99 = .ok (.aload_n 0, 1) := by decide +kernel
theorem dX6_takeJoin_100 : decode cX6_takeJoin 100 = .ok (.getfield 57, 3) := by decide +kernel
theorem dX6_takeJoin_103 : decode cX6_takeJoin 103 = .ok (.baload, 1) := by decide +kernel
theorem dX6_takeJoin_104 : decode cX6_takeJoin 104 = .ok (.ifCond .ne 9, 3) := by decide +kernel
theorem dX6_takeJoin_107 : decode cX6_takeJoin 107 = .ok (.iload_n 1, 1) := by decide +kernel
theorem dX6_takeJoin_108 : decode cX6_takeJoin 108 = .ok (.bipush 61, 2) := by decide +kernel
theorem dX6_takeJoin_110 : decode cX6_takeJoin 110 = .ok (.if_icmp .ne 7, 3) := by decide +kernel
theorem dX6_takeJoin_113 : decode cX6_takeJoin 113 = .ok (.iconst 1, 1) := by decide +kernel
theorem dX6_takeJoin_114 : decode cX6_takeJoin 114 = .ok (.goto 4, 3) := by decide +kernel
theorem dX6_takeJoin_117 : decode cX6_takeJoin 117 = .ok (.iconst 0, 1) := by decide +kernel
theorem dX6_takeJoin_118 : decode cX6_takeJoin 118 = .ok (.bastore, 1) := by decide +kernel
theorem dX6_takeJoin_119 : decode cX6_takeJoin 119 = .ok (.aload_n 0, 1) := by decide +kernel
theorem dX6_takeJoin_120 : decode cX6_takeJoin 120 = .ok (.getfield 31, 3) := by decide +kernel
theorem dX6_takeJoin_123 : decode cX6_takeJoin 123 = .ok (.aload_n 0, 1) := by decide +kernel
theorem dX6_takeJoin_124 : decode cX6_takeJoin 124 = .ok (.getfield 57, 3) := by decide +kernel
theorem dX6_takeJoin_127 : decode cX6_takeJoin 127 = .ok (.iload_n 1, 1) := by decide +kernel
theorem dX6_takeJoin_128 : decode cX6_takeJoin 128 = .ok (.bipush 61, 2) := by decide +kernel
theorem dX6_takeJoin_130 : decode cX6_takeJoin 130 = .ok (.if_icmp .eq 9, 3) := by decide +kernel
theorem dX6_takeJoin_133 : decode cX6_takeJoin 133 = .ok (.iload_n 1, 1) := by decide +kernel
theorem dX6_takeJoin_134 : decode cX6_takeJoin 134 = .ok (.bipush 62, 2) := by decide +kernel
theorem dX6_takeJoin_136 : decode cX6_takeJoin 136 = .ok (.if_icmp .ne 13, 3) := by decide +kernel
theorem dX6_takeJoin_139 : decode cX6_takeJoin 139 = .ok (.aload_n 0, 1) := by decide +kernel
theorem dX6_takeJoin_140 : decode cX6_takeJoin 140 = .ok (.getfield 20, 3) := by decide +kernel
theorem dX6_takeJoin_143 : decode cX6_takeJoin 143 = .ok (.getfield 56, 3) := by decide +kernel
theorem dX6_takeJoin_146 : decode cX6_takeJoin 146 = .ok (.goto 12, 3) := by decide +kernel
theorem dX6_takeJoin_149 : decode cX6_takeJoin 149 = .ok (.aload_n 0, 1) := by decide +kernel
theorem dX6_takeJoin_150 : decode cX6_takeJoin 150 = .ok (.getfield 31, 3) := by decide +kernel
theorem dX6_takeJoin_153 : decode cX6_takeJoin 153 = .ok (.aload_n 0, 1) := by decide +kernel
theorem dX6_takeJoin_154 : decode cX6_takeJoin 154 = .ok (.getfield 57, 3) := by decide +kernel
theorem dX6_takeJoin_157 : decode cX6_takeJoin 157 = .ok (.iaload, 1) := by decide +kernel
theorem dX6_takeJoin_158 : decode cX6_takeJoin 158 = .ok (.iastore, 1) := by decide +kernel
theorem dX6_takeJoin_159 : decode cX6_takeJoin 159 = .ok (.aload_n 0, 1) := by decide +kernel
theorem dX6_takeJoin_160 : decode cX6_takeJoin 160 = .ok (.getfield 34, 3) := by decide +kernel
theorem dX6_takeJoin_163 : decode cX6_takeJoin 163 = .ok (.aload_n 0, 1) := by decide +kernel
theorem dX6_takeJoin_164 : decode cX6_takeJoin 164 = .ok (.getfield 57, 3) := by decide +kernel
theorem dX6_takeJoin_167 : decode cX6_takeJoin 167 = .ok (.iload_n 1, 1) := by decide +kernel
theorem dX6_takeJoin_168 : decode cX6_takeJoin 168 = .ok (.bipush 38, 2) := by decide +kernel
theorem dX6_takeJoin_170 : decode cX6_takeJoin 170 = .ok (.if_icmp .ne 15, 3) := by decide +kernel
theorem dX6_takeJoin_173 : decode cX6_takeJoin 173 = .ok (.aload_n 0, 1) := by decide +kernel
theorem dX6_takeJoin_174 : decode cX6_takeJoin 174 = .ok (.getfield 34, 3) := by decide +kernel
theorem dX6_takeJoin_177 : decode cX6_takeJoin 177 = .ok (.aload_n 0, 1) := by decide +kernel
theorem dX6_takeJoin_178 : decode cX6_takeJoin 178 = .ok (.getfield 57, 3) := by decide +kernel
theorem dX6_takeJoin_181 : decode cX6_takeJoin 181 = .ok (.iaload, 1) := by decide +kernel
theorem dX6_takeJoin_182 : decode cX6_takeJoin 182 = .ok (.goto 10, 3) := by decide +kernel
theorem dX6_takeJoin_185 : decode cX6_takeJoin 185 = .ok (.aload_n 0, 1) := by decide +kernel
theorem dX6_takeJoin_186 : decode cX6_takeJoin 186 = .ok (.getfield 20, 3) := by decide +kernel
theorem dX6_takeJoin_189 : decode cX6_takeJoin 189 = .ok (.getfield 56, 3) := by decide +kernel
theorem dX6_takeJoin_192 : decode cX6_takeJoin 192 = .ok (.iastore, 1) := by decide +kernel
theorem dX6_takeJoin_193 : decode cX6_takeJoin 193 = .ok (.aload_n 0, 1) := by decide +kernel
theorem dX6_takeJoin_194 : decode cX6_takeJoin 194 = .ok (.invokevirtual 111, 3) := by decide +kernel
theorem dX6_takeJoin_197 : decode cX6_takeJoin 197 = .ok (.iconst 1, 1) := by decide +kernel
theorem dX6_takeJoin_198 : decode cX6_takeJoin 198 = .ok (.ireturn, 1) := by decide +kernel
def f_X6_takeJoin_192 (F P : Nat) (S : xSt) (v0 : Nat) (s0 : Int32) (s1 : Int32) (s2 : Nat) (D : xDt) : Option (Int32 × xDt) :=
  xgrd (xin s1 (xl S s2)) (xlet (xup D.1 s2 (s1).toNatClampNeg s0, D.2) fun D2 => (f_X6_wantFirstOne F P S v0 D2).bind fun q3 => some (1, q3))
set_option maxHeartbeats 4000000 in
theorem t_X6_takeJoin_192 {F P : Nat} {S : xSt} (hS : xWF S) {v0 : Nat} {s0 : Int32} {s1 : Int32} {s2 : Nat} {D : xDt} {r : Int32 × xDt} (k0 : xK S v0 6) (ks2 : xK S s2 100) (h : f_X6_takeJoin_192 F P S v0 s0 s1 s2 D = some r) : yEx md_X6_takeJoin 1 192 [(0, .ref v0)] [.int s0, .int s1, .ref s2] S D (xQi S r) := by
  unfold f_X6_takeJoin_192 at h
  refine xgrd_e h (fun g1 h => ?_)
  refine xlet_e h (fun D2 eD2 h => ?_)
  refine y_iast dX6_takeJoin_192 ks2 g1 eD2 ?_
  refine x_aload_n dX6_takeJoin_193 0 rfl ?_
  refine xbnd_e h (fun q3 e3 h => ?_)
  refine y_callVv (As := []) (q := q3) cv_RX6_111 dX6_takeJoin_194 k0 rfl (Nat.le_of_ble_eq_true rfl) (by omega) (S_X6_wantFirstOne hS k0 e3) ?_
  refine x_iconst 1 dX6_takeJoin_197 (by decide) ?_
  obtain rfl := Option.some.inj h
  exact y_zret rfl rfl dX6_takeJoin_198

def f_X6_takeJoin_158 (F P : Nat) (S : xSt) (v0 : Nat) (v1 : Int32) (s0 : Int32) (s1 : Int32) (s2 : Nat) (D : xDt) : Option (Int32 × xDt) :=
  xgrd (xin s1 (xl S s2)) (xlet (xup D.1 s2 (s1).toNatClampNeg s0, D.2) fun D2 => if v1 = 38 then (xgrd (xin (D2.1 v0 9) (xl S (xr S v0 6))) (f_X6_takeJoin_192 F P S v0 (D2.1 (xr S v0 6) (D2.1 v0 9).toNatClampNeg) (D2.1 v0 9) (xr S v0 6) D2)) else (f_X6_takeJoin_192 F P S v0 (D2.1 (xr S v0 2) 1) (D2.1 v0 9) (xr S v0 6) D2))
set_option maxHeartbeats 4000000 in
theorem t_X6_takeJoin_158 {F P : Nat} {S : xSt} (hS : xWF S) {v0 : Nat} {v1 : Int32} {s0 : Int32} {s1 : Int32} {s2 : Nat} {D : xDt} {r : Int32 × xDt} (k0 : xK S v0 6) (ks2 : xK S s2 100) (h : f_X6_takeJoin_158 F P S v0 v1 s0 s1 s2 D = some r) : yEx md_X6_takeJoin 1 158 [(0, .ref v0), (1, .int v1)] [.int s0, .int s1, .ref s2] S D (xQi S r) := by
  unfold f_X6_takeJoin_158 at h
  refine xgrd_e h (fun g1 h => ?_)
  refine xlet_e h (fun D2 eD2 h => ?_)
  refine y_iast dX6_takeJoin_158 ks2 g1 eD2 ?_
  refine x_aload_n dX6_takeJoin_159 0 rfl ?_
  refine y_getr (kd := 100) hS fl_RX6_34 dX6_takeJoin_160 rfl k0 ?_
  refine x_aload_n dX6_takeJoin_163 0 rfl ?_
  refine y_geti fl_RX6_57 dX6_takeJoin_164 rfl k0 ?_
  refine x_iload_n dX6_takeJoin_167 1 rfl ?_
  refine x_bipush 38 dX6_takeJoin_168 (by decide) ?_
  refine x_icmp_ne 185 dX6_takeJoin_170 (by decide) (fun c => ?_) (fun c => ?_)
  · rw [if_neg c] at h
    refine x_aload_n dX6_takeJoin_185 0 rfl ?_
    refine y_getr (kd := 2) hS fl_RX6_20 dX6_takeJoin_186 rfl k0 ?_
    refine y_geti fl_RX6_56 dX6_takeJoin_189 rfl ((hS.f k0 2 2 rfl).2) ?_
    refine x_lv (lv' := [(0, .ref v0)]) [0] rfl ?_
    exact t_X6_takeJoin_192 hS k0 ((hS.f k0 6 100 rfl).2) h
  · rw [if_pos c] at h
    refine x_aload_n dX6_takeJoin_173 0 rfl ?_
    refine y_getr (kd := 100) hS fl_RX6_34 dX6_takeJoin_174 rfl k0 ?_
    refine x_aload_n dX6_takeJoin_177 0 rfl ?_
    refine y_geti fl_RX6_57 dX6_takeJoin_178 rfl k0 ?_
    refine xgrd_e h (fun g3 h => ?_)
    refine y_iald dX6_takeJoin_181 ((hS.f k0 6 100 rfl).2) g3 ?_
    refine x_goto 192 dX6_takeJoin_182 (by decide) ?_
    refine x_lv (lv' := [(0, .ref v0)]) [0] rfl ?_
    exact t_X6_takeJoin_192 hS k0 ((hS.f k0 6 100 rfl).2) h

def f_X6_takeJoin_139 (F P : Nat) (S : xSt) (v0 : Nat) (v1 : Int32) (s0 : Int32) (s1 : Nat) (D : xDt) : Option (Int32 × xDt) :=
  f_X6_takeJoin_158 F P S v0 v1 (D.1 (xr S v0 2) 1) s0 s1 D
set_option maxHeartbeats 4000000 in
theorem t_X6_takeJoin_139 {F P : Nat} {S : xSt} (hS : xWF S) {v0 : Nat} {v1 : Int32} {s0 : Int32} {s1 : Nat} {D : xDt} {r : Int32 × xDt} (k0 : xK S v0 6) (ks1 : xK S s1 100) (h : f_X6_takeJoin_139 F P S v0 v1 s0 s1 D = some r) : yEx md_X6_takeJoin 1 139 [(0, .ref v0), (1, .int v1)] [.int s0, .ref s1] S D (xQi S r) := by
  unfold f_X6_takeJoin_139 at h
  refine x_aload_n dX6_takeJoin_139 0 rfl ?_
  refine y_getr (kd := 2) hS fl_RX6_20 dX6_takeJoin_140 rfl k0 ?_
  refine y_geti fl_RX6_56 dX6_takeJoin_143 rfl ((hS.f k0 2 2 rfl).2) ?_
  refine x_goto 158 dX6_takeJoin_146 (by decide) ?_
  exact t_X6_takeJoin_158 hS k0 ks1 h

def f_X6_takeJoin_118 (F P : Nat) (S : xSt) (v0 : Nat) (v1 : Int32) (s0 : Int32) (s1 : Int32) (s2 : Nat) (D : xDt) : Option (Int32 × xDt) :=
  xgrd (xin s1 (xl S s2)) (xlet (xup D.1 s2 (s1).toNatClampNeg (s0 &&& 1), D.2) fun D2 => if v1 = 61 then (f_X6_takeJoin_139 F P S v0 v1 (D2.1 v0 9) (xr S v0 5) D2) else (if v1 = 62 then (f_X6_takeJoin_139 F P S v0 v1 (D2.1 v0 9) (xr S v0 5) D2) else (xgrd (xin (D2.1 v0 9) (xl S (xr S v0 5))) (f_X6_takeJoin_158 F P S v0 v1 (D2.1 (xr S v0 5) (D2.1 v0 9).toNatClampNeg) (D2.1 v0 9) (xr S v0 5) D2))))
set_option maxHeartbeats 4000000 in
theorem t_X6_takeJoin_118 {F P : Nat} {S : xSt} (hS : xWF S) {v0 : Nat} {v1 : Int32} {s0 : Int32} {s1 : Int32} {s2 : Nat} {D : xDt} {r : Int32 × xDt} (k0 : xK S v0 6) (ks2 : xK S s2 104) (h : f_X6_takeJoin_118 F P S v0 v1 s0 s1 s2 D = some r) : yEx md_X6_takeJoin 1 118 [(0, .ref v0), (1, .int v1)] [.int s0, .int s1, .ref s2] S D (xQi S r) := by
  unfold f_X6_takeJoin_118 at h
  refine xgrd_e h (fun g1 h => ?_)
  refine xlet_e h (fun D2 eD2 h => ?_)
  refine y_zast dX6_takeJoin_118 ks2 g1 eD2 ?_
  refine x_aload_n dX6_takeJoin_119 0 rfl ?_
  refine y_getr (kd := 100) hS fl_RX6_31 dX6_takeJoin_120 rfl k0 ?_
  refine x_aload_n dX6_takeJoin_123 0 rfl ?_
  refine y_geti fl_RX6_57 dX6_takeJoin_124 rfl k0 ?_
  refine x_iload_n dX6_takeJoin_127 1 rfl ?_
  refine x_bipush 61 dX6_takeJoin_128 (by decide) ?_
  refine x_icmp_eq 139 dX6_takeJoin_130 (by decide) (fun c => ?_) (fun c => ?_)
  · rw [if_pos c] at h
    exact t_X6_takeJoin_139 hS k0 ((hS.f k0 5 100 rfl).2) h
  · rw [if_neg c] at h
    refine x_iload_n dX6_takeJoin_133 1 rfl ?_
    refine x_bipush 62 dX6_takeJoin_134 (by decide) ?_
    refine x_icmp_ne 149 dX6_takeJoin_136 (by decide) (fun c => ?_) (fun c => ?_)
    · rw [if_neg c] at h
      refine x_aload_n dX6_takeJoin_149 0 rfl ?_
      refine y_getr (kd := 100) hS fl_RX6_31 dX6_takeJoin_150 rfl k0 ?_
      refine x_aload_n dX6_takeJoin_153 0 rfl ?_
      refine y_geti fl_RX6_57 dX6_takeJoin_154 rfl k0 ?_
      refine xgrd_e h (fun g3 h => ?_)
      refine y_iald dX6_takeJoin_157 ((hS.f k0 5 100 rfl).2) g3 ?_
      exact t_X6_takeJoin_158 hS k0 ((hS.f k0 5 100 rfl).2) h
    · rw [if_pos c] at h
      exact t_X6_takeJoin_139 hS k0 ((hS.f k0 5 100 rfl).2) h

def f_X6_takeJoin_113 (F P : Nat) (S : xSt) (v0 : Nat) (v1 : Int32) (s0 : Int32) (s1 : Nat) (D : xDt) : Option (Int32 × xDt) :=
  f_X6_takeJoin_118 F P S v0 v1 1 s0 s1 D
set_option maxHeartbeats 4000000 in
theorem t_X6_takeJoin_113 {F P : Nat} {S : xSt} (hS : xWF S) {v0 : Nat} {v1 : Int32} {s0 : Int32} {s1 : Nat} {D : xDt} {r : Int32 × xDt} (k0 : xK S v0 6) (ks1 : xK S s1 104) (h : f_X6_takeJoin_113 F P S v0 v1 s0 s1 D = some r) : yEx md_X6_takeJoin 1 113 [(0, .ref v0), (1, .int v1)] [.int s0, .ref s1] S D (xQi S r) := by
  unfold f_X6_takeJoin_113 at h
  refine x_iconst 1 dX6_takeJoin_113 (by decide) ?_
  refine x_goto 118 dX6_takeJoin_114 (by decide) ?_
  exact t_X6_takeJoin_118 hS k0 ks1 h

def f_X6_takeJoin_72 (F P : Nat) (S : xSt) (v0 : Nat) (v1 : Int32) (s0 : Int32) (D : xDt) : Option (Int32 × xDt) :=
  (f_X2_insert F P S (xr S v0 2) s0 v1 D).bind fun q1 => if q1.1 = 0 then (some (0, q1.2)) else (xgrd (xin (q1.2.1 v0 9) (xl S (xr S v0 8))) (if (q1.2.1 (xr S v0 8) (q1.2.1 v0 9).toNatClampNeg) = 0 then (if v1 = 61 then (f_X6_takeJoin_113 F P S v0 v1 (q1.2.1 v0 9) (xr S v0 8) q1.2) else (f_X6_takeJoin_118 F P S v0 v1 0 (q1.2.1 v0 9) (xr S v0 8) q1.2)) else (f_X6_takeJoin_113 F P S v0 v1 (q1.2.1 v0 9) (xr S v0 8) q1.2)))
set_option maxHeartbeats 4000000 in
theorem t_X6_takeJoin_72 {F P : Nat} {S : xSt} (hS : xWF S) {v0 : Nat} {v1 : Int32} {s0 : Int32} {D : xDt} {r : Int32 × xDt} (k0 : xK S v0 6) (h : f_X6_takeJoin_72 F P S v0 v1 s0 D = some r) : yEx md_X6_takeJoin 1 72 [(0, .ref v0), (1, .int v1)] [.int s0] S D (xQi S r) := by
  unfold f_X6_takeJoin_72 at h
  refine y_istore_n s0 rfl [(2, .int s0), (0, .ref v0), (1, .int v1)] dX6_takeJoin_72 (by show _ < 3; decide) rfl ?_
  refine x_aload_n dX6_takeJoin_73 1 rfl ?_
  refine y_getr (kd := 2) hS fl_RX6_20 dX6_takeJoin_74 rfl k0 ?_
  refine x_iload_n dX6_takeJoin_77 0 rfl ?_
  refine x_iload_n dX6_takeJoin_78 2 rfl ?_
  refine xbnd_e h (fun q1 e1 h => ?_)
  refine y_callVi (As := [.int s0, .int v1]) (q := q1) cv_RX6_130 dX6_takeJoin_79 ((hS.f k0 2 2 rfl).2) rfl (Nat.le_of_ble_eq_true rfl) (by omega) (S_X2_insert hS ((hS.f k0 2 2 rfl).2) e1) ?_
  refine x_if_ne 87 dX6_takeJoin_82 (by decide) (fun c => ?_) (fun c => ?_)
  · rw [if_neg c] at h
    refine x_aload_n dX6_takeJoin_87 1 rfl ?_
    refine y_getr (kd := 104) hS fl_RX6_40 dX6_takeJoin_88 rfl k0 ?_
    refine x_aload_n dX6_takeJoin_91 1 rfl ?_
    refine y_geti fl_RX6_57 dX6_takeJoin_92 rfl k0 ?_
    refine x_aload_n dX6_takeJoin_95 1 rfl ?_
    refine y_getr (kd := 104) hS fl_RX6_40 dX6_takeJoin_96 rfl k0 ?_
    refine x_aload_n dX6_takeJoin_99 1 rfl ?_
    refine y_geti fl_RX6_57 dX6_takeJoin_100 rfl k0 ?_
    refine xgrd_e h (fun g2 h => ?_)
    refine y_zald dX6_takeJoin_103 ((hS.f k0 8 104 rfl).2) g2 ?_
    refine x_if_ne 113 dX6_takeJoin_104 (by decide) (fun c => ?_) (fun c => ?_)
    · rw [if_neg c] at h
      refine x_lv (lv' := [(0, .ref v0), (1, .int v1)]) [1, 2] rfl ?_
      exact t_X6_takeJoin_113 hS k0 ((hS.f k0 8 104 rfl).2) h
    · rw [if_pos c] at h
      refine x_iload_n dX6_takeJoin_107 2 rfl ?_
      refine x_bipush 61 dX6_takeJoin_108 (by decide) ?_
      refine x_icmp_ne 117 dX6_takeJoin_110 (by decide) (fun c => ?_) (fun c => ?_)
      · rw [if_neg c] at h
        refine x_iconst 0 dX6_takeJoin_117 (by decide) ?_
        refine x_lv (lv' := [(0, .ref v0), (1, .int v1)]) [1, 2] rfl ?_
        exact t_X6_takeJoin_118 hS k0 ((hS.f k0 8 104 rfl).2) h
      · rw [if_pos c] at h
        refine x_lv (lv' := [(0, .ref v0), (1, .int v1)]) [1, 2] rfl ?_
        exact t_X6_takeJoin_113 hS k0 ((hS.f k0 8 104 rfl).2) h
  · rw [if_pos c] at h
    refine x_iconst 0 dX6_takeJoin_85 (by decide) ?_
    obtain rfl := Option.some.inj h
    exact y_zret rfl rfl dX6_takeJoin_86

def f_X6_takeJoin_27 (F P : Nat) (S : xSt) (v0 : Nat) (v1 : Int32) (D : xDt) : Option (Int32 × xDt) :=
  if v1 = 61 then (xgrd (xin (D.1 v0 9) (xl S (xr S v0 4))) (f_X6_takeJoin_72 F P S v0 v1 (D.1 (xr S v0 4) (D.1 v0 9).toNatClampNeg) D)) else (if v1 = 38 then (xgrd (xin (D.1 v0 9) (xl S (xr S v0 6))) (f_X6_takeJoin_72 F P S v0 v1 (D.1 (xr S v0 6) (D.1 v0 9).toNatClampNeg) D)) else (xgrd (xin (D.1 v0 9) (xl S (xr S v0 5))) (f_X6_takeJoin_72 F P S v0 v1 (D.1 (xr S v0 5) (D.1 v0 9).toNatClampNeg) D)))
set_option maxHeartbeats 4000000 in
theorem t_X6_takeJoin_27 {F P : Nat} {S : xSt} (hS : xWF S) {v0 : Nat} {v1 : Int32} {D : xDt} {r : Int32 × xDt} (k0 : xK S v0 6) (h : f_X6_takeJoin_27 F P S v0 v1 D = some r) : yEx md_X6_takeJoin 1 27 [(0, .ref v0), (1, .int v1)] [] S D (xQi S r) := by
  unfold f_X6_takeJoin_27 at h
  refine x_iload_n dX6_takeJoin_27 1 rfl ?_
  refine x_bipush 61 dX6_takeJoin_28 (by decide) ?_
  refine x_icmp_ne 45 dX6_takeJoin_30 (by decide) (fun c => ?_) (fun c => ?_)
  · rw [if_neg c] at h
    refine x_iload_n dX6_takeJoin_45 1 rfl ?_
    refine x_bipush 38 dX6_takeJoin_46 (by decide) ?_
    refine x_icmp_ne 63 dX6_takeJoin_48 (by decide) (fun c => ?_) (fun c => ?_)
    · rw [if_neg c] at h
      refine x_aload_n dX6_takeJoin_63 0 rfl ?_
      refine y_getr (kd := 100) hS fl_RX6_31 dX6_takeJoin_64 rfl k0 ?_
      refine x_aload_n dX6_takeJoin_67 0 rfl ?_
      refine y_geti fl_RX6_57 dX6_takeJoin_68 rfl k0 ?_
      refine xgrd_e h (fun g1 h => ?_)
      refine y_iald dX6_takeJoin_71 ((hS.f k0 5 100 rfl).2) g1 ?_
      exact t_X6_takeJoin_72 hS k0 h
    · rw [if_pos c] at h
      refine x_aload_n dX6_takeJoin_51 0 rfl ?_
      refine y_getr (kd := 100) hS fl_RX6_34 dX6_takeJoin_52 rfl k0 ?_
      refine x_aload_n dX6_takeJoin_55 0 rfl ?_
      refine y_geti fl_RX6_57 dX6_takeJoin_56 rfl k0 ?_
      refine xgrd_e h (fun g2 h => ?_)
      refine y_iald dX6_takeJoin_59 ((hS.f k0 6 100 rfl).2) g2 ?_
      refine x_goto 72 dX6_takeJoin_60 (by decide) ?_
      exact t_X6_takeJoin_72 hS k0 h
  · rw [if_pos c] at h
    refine x_aload_n dX6_takeJoin_33 0 rfl ?_
    refine y_getr (kd := 100) hS fl_RX6_27 dX6_takeJoin_34 rfl k0 ?_
    refine x_aload_n dX6_takeJoin_37 0 rfl ?_
    refine y_geti fl_RX6_57 dX6_takeJoin_38 rfl k0 ?_
    refine xgrd_e h (fun g3 h => ?_)
    refine y_iald dX6_takeJoin_41 ((hS.f k0 4 100 rfl).2) g3 ?_
    refine x_goto 72 dX6_takeJoin_42 (by decide) ?_
    exact t_X6_takeJoin_72 hS k0 h

def f_X6_takeJoin (F P : Nat) (S : xSt) (v0 : Nat) (v1 : Int32) (D : xDt) : Option (Int32 × xDt) :=
  (f_X11_isJoin F P S v1 D).bind fun q1 => if q1.1 = 0 then (some (0, q1.2)) else (if v1 = 61 then (xgrd (xin (q1.2.1 v0 9) (xl S (xr S v0 8))) (if (q1.2.1 (xr S v0 8) (q1.2.1 v0 9).toNatClampNeg) = 0 then (f_X6_takeJoin_27 F P S v0 v1 q1.2) else (some (0, q1.2)))) else (f_X6_takeJoin_27 F P S v0 v1 q1.2))
set_option maxHeartbeats 4000000 in
theorem S_X6_takeJoin {F P : Nat} {S : xSt} (hS : xWF S) {v0 : Nat} {v1 : Int32} {D : xDt} {r : Int32 × xDt} (k0 : xK S v0 6) (h : f_X6_takeJoin F P S v0 v1 D = some r) : xSp md_X6_takeJoin (1, 0, 0) [.ref v0, .int v1] (S, D) (xQi S r) := by
  unfold f_X6_takeJoin at h
  refine xEntry (by decide) (Nat.le_of_ble_eq_true rfl) ?_
  refine x_lv (lv' := [(0, .ref v0), (1, .int v1)]) [0, 1] rfl ?_
  refine x_iload_n dX6_takeJoin_0 1 rfl ?_
  refine xbnd_e h (fun q1 e1 h => ?_)
  refine y_callNi (As := [.int v1]) (q := q1) cn_RX6_127 dX6_takeJoin_1 rfl (Nat.le_of_ble_eq_true rfl) (by omega) (S_X11_isJoin hS e1) ?_
  refine x_if_eq 25 dX6_takeJoin_4 (by decide) (fun c => ?_) (fun c => ?_)
  · rw [if_pos c] at h
    refine x_iconst 0 dX6_takeJoin_25 (by decide) ?_
    obtain rfl := Option.some.inj h
    exact y_zret rfl rfl dX6_takeJoin_26
  · rw [if_neg c] at h
    refine x_iload_n dX6_takeJoin_7 1 rfl ?_
    refine x_bipush 61 dX6_takeJoin_8 (by decide) ?_
    refine x_icmp_ne 27 dX6_takeJoin_10 (by decide) (fun c => ?_) (fun c => ?_)
    · rw [if_neg c] at h
      exact t_X6_takeJoin_27 hS k0 h
    · rw [if_pos c] at h
      refine x_aload_n dX6_takeJoin_13 0 rfl ?_
      refine y_getr (kd := 104) hS fl_RX6_40 dX6_takeJoin_14 rfl k0 ?_
      refine x_aload_n dX6_takeJoin_17 0 rfl ?_
      refine y_geti fl_RX6_57 dX6_takeJoin_18 rfl k0 ?_
      refine xgrd_e h (fun g2 h => ?_)
      refine y_zald dX6_takeJoin_21 ((hS.f k0 8 104 rfl).2) g2 ?_
      refine x_if_eq 27 dX6_takeJoin_22 (by decide) (fun c => ?_) (fun c => ?_)
      · rw [if_pos c] at h
        exact t_X6_takeJoin_27 hS k0 h
      · rw [if_neg c] at h
        refine x_iconst 0 dX6_takeJoin_25 (by decide) ?_
        obtain rfl := Option.some.inj h
        exact y_zret rfl rfl dX6_takeJoin_26

theorem dX6_takeBehindOne_0 : decode cX6_takeBehindOne 0 = .ok (.iload_n 1, 1) := by decide +kernel
theorem dX6_takeBehindOne_1 : decode cX6_takeBehindOne 1 = .ok (.aload_n 0, 1) := by decide +kernel
theorem dX6_takeBehindOne_2 : decode cX6_takeBehindOne 2 = .ok (.getfield 24, 3) := by decide +kernel
theorem dX6_takeBehindOne_5 : decode cX6_takeBehindOne 5 = .ok (.aload_n 0, 1) := by decide +kernel
theorem dX6_takeBehindOne_6 : decode cX6_takeBehindOne 6 = .ok (.getfield 57, 3) := by decide +kernel
theorem dX6_takeBehindOne_9 : decode cX6_takeBehindOne 9 = .ok (.caload, 1) := by decide +kernel
theorem dX6_takeBehindOne_10 : decode cX6_takeBehindOne 10 = .ok (.if_icmp .ne 11, 3) := by decide +kernel
theorem dX6_takeBehindOne_13 : decode cX6_takeBehindOne 13 = .ok (.aload_n 0, 1) := by decide +kernel
theorem dX6_takeBehindOne_14 : decode cX6_takeBehindOne 14 = .ok (.iload_n 1, 1) := by decide +kernel
theorem dX6_takeBehindOne_15 : decode cX6_takeBehindOne 15 = .ok (.invokevirtual 121, 3) := by decide +kernel
theorem dX6_takeBehindOne_18 : decode cX6_takeBehindOne 18 = .ok (.goto 8, 3) := by decide +kernel
theorem dX6_takeBehindOne_21 : decode cX6_takeBehindOne 21 = .ok (.aload_n 0, 1) := by decide +kernel
theorem dX6_takeBehindOne_22 : decode cX6_takeBehindOne 22 = .ok (.iload_n 1, 1) := by decide +kernel
theorem dX6_takeBehindOne_23 : decode cX6_takeBehindOne 23 = .ok (.invokevirtual 124, 3) := by decide +kernel
theorem dX6_takeBehindOne_26 : decode cX6_takeBehindOne 26 = .ok (.istore_n 2, 1) := by decide +kernel
theorem dX6_takeBehindOne_27 : decode cX6_takeBehindOne 27 = .ok (.iload_n 2, 1) := by decide +kernel
theorem dX6_takeBehindOne_28 : decode cX6_takeBehindOne 28 = .ok (.ifCond .eq 13, 3) := by decide +kernel
theorem dX6_takeBehindOne_31 : decode cX6_takeBehindOne 31 = .ok (.aload_n 0, 1) := by decide +kernel
theorem dX6_takeBehindOne_32 : decode cX6_takeBehindOne 32 = .ok (.aload_n 0, 1) := by decide +kernel
theorem dX6_takeBehindOne_33 : decode cX6_takeBehindOne 33 = .ok (.getfield 71, 3) := by decide +kernel
theorem dX6_takeBehindOne_36 : decode cX6_takeBehindOne 36 = .ok (.iconst 1, 1) := by decide +kernel
theorem dX6_takeBehindOne_37 : decode cX6_takeBehindOne 37 = .ok (.iadd, 1) := by decide +kernel
theorem dX6_takeBehindOne_38 : decode cX6_takeBehindOne 38 = .ok (.invokevirtual 64, 3) := by decide +kernel
theorem dX6_takeBehindOne_41 : decode cX6_takeBehindOne 41 = .ok (.iload_n 2, 1) := by decide +kernel
theorem dX6_takeBehindOne_42 : decode cX6_takeBehindOne 42 = .ok (.ireturn, 1) := by decide +kernel
def f_X6_takeBehindOne_26 (F P : Nat) (S : xSt) (v0 : Nat) (s0 : Int32) (D : xDt) : Option (Int32 × xDt) :=
  if s0 = 0 then (xgrd (xb s0) (some (s0, D))) else ((f_X6_toSign F P S v0 ((D.1 v0 12) + 1) D).bind fun q2 => xgrd (xb s0) (some (s0, q2)))
set_option maxHeartbeats 4000000 in
theorem t_X6_takeBehindOne_26 {F P : Nat} {S : xSt} (hS : xWF S) {v0 : Nat} {s0 : Int32} {D : xDt} {r : Int32 × xDt} (k0 : xK S v0 6) (h : f_X6_takeBehindOne_26 F P S v0 s0 D = some r) : yEx md_X6_takeBehindOne 2 26 [(0, .ref v0)] [.int s0] S D (xQi S r) := by
  unfold f_X6_takeBehindOne_26 at h
  refine y_istore_n s0 rfl [(2, .int s0), (0, .ref v0)] dX6_takeBehindOne_26 (by show _ < 3; decide) rfl ?_
  refine x_iload_n dX6_takeBehindOne_27 0 rfl ?_
  refine x_if_eq 41 dX6_takeBehindOne_28 (by decide) (fun c => ?_) (fun c => ?_)
  · rw [if_pos c] at h
    refine x_iload_n dX6_takeBehindOne_41 0 rfl ?_
    refine xgrd_e h (fun g1 h => ?_)
    obtain rfl := Option.some.inj h
    exact y_zret rfl g1 dX6_takeBehindOne_42
  · rw [if_neg c] at h
    refine x_aload_n dX6_takeBehindOne_31 1 rfl ?_
    refine x_aload_n dX6_takeBehindOne_32 1 rfl ?_
    refine y_geti fl_RX6_71 dX6_takeBehindOne_33 rfl k0 ?_
    refine x_iconst 1 dX6_takeBehindOne_36 (by decide) ?_
    refine x_iadd dX6_takeBehindOne_37 ?_
    refine xbnd_e h (fun q2 e2 h => ?_)
    refine y_callVv (As := [.int ((D.1 v0 12) + 1)]) (q := q2) cv_RX6_64 dX6_takeBehindOne_38 k0 rfl (Nat.le_of_ble_eq_true rfl) (by omega) (S_X6_toSign hS k0 e2) ?_
    refine x_iload_n dX6_takeBehindOne_41 0 rfl ?_
    refine xgrd_e h (fun g3 h => ?_)
    obtain rfl := Option.some.inj h
    exact y_zret rfl g3 dX6_takeBehindOne_42

def f_X6_takeBehindOne (F P : Nat) (S : xSt) (v0 : Nat) (v1 : Int32) (D : xDt) : Option (Int32 × xDt) :=
  xgrd (xin (D.1 v0 9) (xl S (xr S v0 3))) (if v1 = (D.1 (xr S v0 3) (D.1 v0 9).toNatClampNeg) then ((f_X6_leave F P S v0 v1 D).bind fun q3 => f_X6_takeBehindOne_26 F P S v0 q3.1 q3.2) else ((f_X6_takeJoin F P S v0 v1 D).bind fun q2 => f_X6_takeBehindOne_26 F P S v0 q2.1 q2.2))
set_option maxHeartbeats 4000000 in
theorem S_X6_takeBehindOne {F P : Nat} {S : xSt} (hS : xWF S) {v0 : Nat} {v1 : Int32} {D : xDt} {r : Int32 × xDt} (k0 : xK S v0 6) (h : f_X6_takeBehindOne F P S v0 v1 D = some r) : xSp md_X6_takeBehindOne (2, 0, 0) [.ref v0, .int v1] (S, D) (xQi S r) := by
  unfold f_X6_takeBehindOne at h
  refine xEntry (by decide) (Nat.le_of_ble_eq_true rfl) ?_
  refine x_lv (lv' := [(0, .ref v0), (1, .int v1)]) [0, 1] rfl ?_
  refine x_iload_n dX6_takeBehindOne_0 1 rfl ?_
  refine x_aload_n dX6_takeBehindOne_1 0 rfl ?_
  refine y_getr (kd := 102) hS fl_RX6_24 dX6_takeBehindOne_2 rfl k0 ?_
  refine x_aload_n dX6_takeBehindOne_5 0 rfl ?_
  refine y_geti fl_RX6_57 dX6_takeBehindOne_6 rfl k0 ?_
  refine xgrd_e h (fun g1 h => ?_)
  refine y_cald dX6_takeBehindOne_9 ((hS.f k0 3 102 rfl).2) g1 ?_
  refine x_icmp_ne 21 dX6_takeBehindOne_10 (by decide) (fun c => ?_) (fun c => ?_)
  · rw [if_neg c] at h
    refine x_aload_n dX6_takeBehindOne_21 0 rfl ?_
    refine x_iload_n dX6_takeBehindOne_22 1 rfl ?_
    refine xbnd_e h (fun q2 e2 h => ?_)
    refine y_callVi (As := [.int v1]) (q := q2) cv_RX6_124 dX6_takeBehindOne_23 k0 rfl (Nat.le_of_ble_eq_true rfl) (by omega) (S_X6_takeJoin hS k0 e2) ?_
    refine x_lv (lv' := [(0, .ref v0)]) [0] rfl ?_
    exact t_X6_takeBehindOne_26 hS k0 h
  · rw [if_pos c] at h
    refine x_aload_n dX6_takeBehindOne_13 0 rfl ?_
    refine x_iload_n dX6_takeBehindOne_14 1 rfl ?_
    refine xbnd_e h (fun q3 e3 h => ?_)
    refine y_callVi (As := [.int v1]) (q := q3) cv_RX6_121 dX6_takeBehindOne_15 k0 rfl (Nat.le_of_ble_eq_true rfl) (by omega) (S_X6_leave hS k0 e3) ?_
    refine x_goto 26 dX6_takeBehindOne_18 (by decide) ?_
    refine x_lv (lv' := [(0, .ref v0)]) [0] rfl ?_
    exact t_X6_takeBehindOne_26 hS k0 h

theorem dX6_takeAll_0 : decode cX6_takeAll 0 = .ok (.iconst 0, 1) := by decide +kernel
theorem dX6_takeAll_1 : decode cX6_takeAll 1 = .ok (.istore_n 1, 1) := by decide +kernel
theorem dX6_takeAll_2 : decode cX6_takeAll 2 = .ok (.iload_n 1, 1) := by decide +kernel
theorem dX6_takeAll_3 : decode cX6_takeAll 3 = .ok (.sipush 200, 3) := by decide +kernel
theorem dX6_takeAll_6 : decode cX6_takeAll 6 = .ok (.if_icmp .ge 57, 3) := by decide +kernel
theorem dX6_takeAll_9 : decode cX6_takeAll 9 = .ok (.aload_n 0, 1) := by decide +kernel
theorem dX6_takeAll_10 : decode cX6_takeAll 10 = .ok (.getfield 71, 3) := by decide +kernel
theorem dX6_takeAll_13 : decode cX6_takeAll 13 = .ok (.aload_n 0, 1) := by decide +kernel
theorem dX6_takeAll_14 : decode cX6_takeAll 14 = .ok (.getfield 48, 3) := by decide +kernel
theorem dX6_takeAll_17 : decode cX6_takeAll 17 = .ok (.if_icmp .ge 46, 3) := by decide +kernel
theorem dX6_takeAll_20 : decode cX6_takeAll 20 = .ok (.aload_n 0, 1) := by decide +kernel
theorem dX6_takeAll_21 : decode cX6_takeAll 21 = .ok (.getfield 9, 3) := by decide +kernel
theorem dX6_takeAll_24 : decode cX6_takeAll 24 = .ok (.aload_n 0, 1) := by decide +kernel
theorem dX6_takeAll_25 : decode cX6_takeAll 25 = .ok (.getfield 71, 3) := by decide +kernel
theorem dX6_takeAll_28 : decode cX6_takeAll 28 = .ok (.caload, 1) := by decide +kernel
theorem dX6_takeAll_29 : decode cX6_takeAll 29 = .ok (.istore_n 2, 1) := by decide +kernel
theorem dX6_takeAll_30 : decode cX6_takeAll 30 = .ok (.aload_n 0, 1) := by decide +kernel
theorem dX6_takeAll_31 : decode cX6_takeAll 31 = .ok (.getfield 78, 3) := by decide +kernel
theorem dX6_takeAll_34 : decode cX6_takeAll 34 = .ok (.ifCond .eq 11, 3) := by decide +kernel
theorem dX6_takeAll_37 : decode cX6_takeAll 37 = .ok (.aload_n 0, 1) := by decide +kernel
theorem dX6_takeAll_38 : decode cX6_takeAll 38 = .ok (.iload_n 2, 1) := by decide +kernel
theorem dX6_takeAll_39 : decode cX6_takeAll 39 = .ok (.invokevirtual 82, 3) := by decide +kernel
theorem dX6_takeAll_42 : decode cX6_takeAll 42 = .ok (.goto 8, 3) := by decide +kernel
theorem dX6_takeAll_45 : decode cX6_takeAll 45 = .ok (.aload_n 0, 1) := by decide +kernel
theorem dX6_takeAll_46 : decode cX6_takeAll 46 = .ok (.iload_n 2, 1) := by decide +kernel
theorem dX6_takeAll_47 : decode cX6_takeAll 47 = .ok (.invokevirtual 86, 3) := by decide +kernel
theorem dX6_takeAll_50 : decode cX6_takeAll 50 = .ok (.istore_n 3, 1) := by decide +kernel
theorem dX6_takeAll_51 : decode cX6_takeAll 51 = .ok (.iload_n 3, 1) := by decide +kernel
theorem dX6_takeAll_52 : decode cX6_takeAll 52 = .ok (.ifCond .ne 5, 3) := by decide +kernel
theorem dX6_takeAll_55 : decode cX6_takeAll 55 = .ok (.iconst 0, 1) := by decide +kernel
theorem dX6_takeAll_56 : decode cX6_takeAll 56 = .ok (.ireturn, 1) := by decide +kernel
theorem dX6_takeAll_57 : decode cX6_takeAll 57 = .ok (.iinc 1 1, 3) := by decide +kernel
theorem dX6_takeAll_60 : decode cX6_takeAll 60 = .ok (.goto (-58), 3) := by decide +kernel
theorem dX6_takeAll_63 : decode cX6_takeAll 63 = .ok (.aload_n 0, 1) := by decide +kernel
theorem dX6_takeAll_64 : decode cX6_takeAll 64 = .ok (.getfield 71, 3) := by decide +kernel
theorem dX6_takeAll_67 : decode cX6_takeAll 67 = .ok (.aload_n 0, 1) := by decide +kernel
theorem dX6_takeAll_68 : decode cX6_takeAll 68 = .ok (.getfield 48, 3) := by decide +kernel
theorem dX6_takeAll_71 : decode cX6_takeAll 71 = .ok (.if_icmp .lt 21, 3) := by decide +kernel
theorem dX6_takeAll_74 : decode cX6_takeAll 74 = .ok (.aload_n 0, 1) := by decide +kernel
theorem dX6_takeAll_75 : decode cX6_takeAll 75 = .ok (.getfield 57, 3) := by decide +kernel
theorem dX6_takeAll_78 : decode cX6_takeAll 78 = .ok (.ifCond .ne 14, 3) := by decide +kernel
theorem dX6_takeAll_81 : decode cX6_takeAll 81 = .ok (.aload_n 0, 1) := by decide +kernel
theorem dX6_takeAll_82 : decode cX6_takeAll 82 = .ok (.getfield 78, 3) := by decide +kernel
theorem dX6_takeAll_85 : decode cX6_takeAll 85 = .ok (.ifCond .ne 7, 3) := by decide +kernel
theorem dX6_takeAll_88 : decode cX6_takeAll 88 = .ok (.iconst 1, 1) := by decide +kernel
theorem dX6_takeAll_89 : decode cX6_takeAll 89 = .ok (.goto 4, 3) := by decide +kernel
theorem dX6_takeAll_92 : decode cX6_takeAll 92 = .ok (.iconst 0, 1) := by decide +kernel
theorem dX6_takeAll_93 : decode cX6_takeAll 93 = .ok (.ireturn, 1) := by decide +kernel
def f_X6_takeAll_50 (F P : Nat) (S : xSt) (rec_2 : Nat → Int32 → xDt → Option (Int32 × xDt)) (v0 : Nat) (v1 : Int32) (s0 : Int32) (D : xDt) : Option (Int32 × xDt) :=
  if s0 = 0 then (some (0, D)) else (xlet (v1 + 1) fun v1_1 => rec_2 v0 v1_1 D)
set_option maxHeartbeats 4000000 in
theorem t_X6_takeAll_50 {F P : Nat} {S : xSt} (hS : xWF S) {rec_2 : Nat → Int32 → xDt → Option (Int32 × xDt)} (hrec_2 : ∀ {v0 : Nat} {v1 : Int32} {D : xDt} {r : Int32 × xDt}, xK S v0 6 → rec_2 v0 v1 D = some r → yEx md_X6_takeAll 4 2 [(0, .ref v0), (1, .int v1)] [] S D (xQi S r)) {v0 : Nat} {v1 : Int32} {s0 : Int32} {D : xDt} {r : Int32 × xDt} (k0 : xK S v0 6) (h : f_X6_takeAll_50 F P S rec_2 v0 v1 s0 D = some r) : yEx md_X6_takeAll 4 50 [(0, .ref v0), (1, .int v1)] [.int s0] S D (xQi S r) := by
  unfold f_X6_takeAll_50 at h
  refine y_istore_n s0 rfl [(3, .int s0), (0, .ref v0), (1, .int v1)] dX6_takeAll_50 (by show _ < 4; decide) rfl ?_
  refine x_iload_n dX6_takeAll_51 0 rfl ?_
  refine x_if_ne 57 dX6_takeAll_52 (by decide) (fun c => ?_) (fun c => ?_)
  · rw [if_neg c] at h
    refine xlet_e h (fun v1_1 ev1_1 h => ?_)
    refine y_iinc v1_1 ev1_1 (by decide) [(1, .int v1_1), (3, .int s0), (0, .ref v0)] dX6_takeAll_57 2 rfl (by show _ < 4; decide) rfl ?_
    refine x_goto 2 dX6_takeAll_60 (by decide) ?_
    refine x_lv (lv' := [(0, .ref v0), (1, .int v1_1)]) [2, 0] rfl ?_
    exact hrec_2 k0 h
  · rw [if_pos c] at h
    refine x_iconst 0 dX6_takeAll_55 (by decide) ?_
    obtain rfl := Option.some.inj h
    exact y_zret rfl rfl dX6_takeAll_56

def f_X6_takeAll_92 (F P : Nat) (S : xSt) (D : xDt) : Option (Int32 × xDt) :=
  some (0, D)
set_option maxHeartbeats 4000000 in
theorem t_X6_takeAll_92 {F P : Nat} {S : xSt} (hS : xWF S) {D : xDt} {r : Int32 × xDt} (h : f_X6_takeAll_92 F P S D = some r) : yEx md_X6_takeAll 4 92 [] [] S D (xQi S r) := by
  unfold f_X6_takeAll_92 at h
  refine x_iconst 0 dX6_takeAll_92 (by decide) ?_
  obtain rfl := Option.some.inj h
  exact y_zret rfl rfl dX6_takeAll_93

def f_X6_takeAll_63 (F P : Nat) (S : xSt) (v0 : Nat) (D : xDt) : Option (Int32 × xDt) :=
  if (D.1 v0 12) < (D.1 v0 1) then (f_X6_takeAll_92 F P S D) else (if (D.1 v0 9) = 0 then (if (D.1 v0 11) = 0 then (some (1, D)) else (f_X6_takeAll_92 F P S D)) else (f_X6_takeAll_92 F P S D))
set_option maxHeartbeats 4000000 in
theorem t_X6_takeAll_63 {F P : Nat} {S : xSt} (hS : xWF S) {v0 : Nat} {D : xDt} {r : Int32 × xDt} (k0 : xK S v0 6) (h : f_X6_takeAll_63 F P S v0 D = some r) : yEx md_X6_takeAll 4 63 [(0, .ref v0)] [] S D (xQi S r) := by
  unfold f_X6_takeAll_63 at h
  refine x_aload_n dX6_takeAll_63 0 rfl ?_
  refine y_geti fl_RX6_71 dX6_takeAll_64 rfl k0 ?_
  refine x_aload_n dX6_takeAll_67 0 rfl ?_
  refine y_geti fl_RX6_48 dX6_takeAll_68 rfl k0 ?_
  refine x_icmp_lt 92 dX6_takeAll_71 (by decide) (fun c => ?_) (fun c => ?_)
  · rw [if_pos c] at h
    refine x_lv (lv' := []) [] rfl ?_
    exact t_X6_takeAll_92 hS h
  · rw [if_neg c] at h
    refine x_aload_n dX6_takeAll_74 0 rfl ?_
    refine y_geti fl_RX6_57 dX6_takeAll_75 rfl k0 ?_
    refine x_if_ne 92 dX6_takeAll_78 (by decide) (fun c => ?_) (fun c => ?_)
    · rw [if_neg c] at h
      refine x_lv (lv' := []) [] rfl ?_
      exact t_X6_takeAll_92 hS h
    · rw [if_pos c] at h
      refine x_aload_n dX6_takeAll_81 0 rfl ?_
      refine y_geti fl_RX6_78 dX6_takeAll_82 rfl k0 ?_
      refine x_if_ne 92 dX6_takeAll_85 (by decide) (fun c => ?_) (fun c => ?_)
      · rw [if_neg c] at h
        refine x_lv (lv' := []) [] rfl ?_
        exact t_X6_takeAll_92 hS h
      · rw [if_pos c] at h
        refine x_iconst 1 dX6_takeAll_88 (by decide) ?_
        refine x_goto 93 dX6_takeAll_89 (by decide) ?_
        obtain rfl := Option.some.inj h
        exact y_zret rfl rfl dX6_takeAll_93

def f_X6_takeAll_2s (F P : Nat) (S : xSt) (rec_2 : Nat → Int32 → xDt → Option (Int32 × xDt)) (v0 : Nat) (v1 : Int32) (D : xDt) : Option (Int32 × xDt) :=
  if 200 ≤ v1 then (f_X6_takeAll_63 F P S v0 D) else (if (D.1 v0 1) ≤ (D.1 v0 12) then (f_X6_takeAll_63 F P S v0 D) else (xgrd (xin (D.1 v0 12) (xl S (xr S v0 0))) (xlet (D.1 (xr S v0 0) (D.1 v0 12).toNatClampNeg) fun v2_2 => if (D.1 v0 11) = 0 then ((f_X6_takeBehindOne F P S v0 v2_2 D).bind fun q3 => f_X6_takeAll_50 F P S rec_2 v0 v1 q3.1 q3.2) else ((f_X6_takeOne F P S v0 v2_2 D).bind fun q4 => f_X6_takeAll_50 F P S rec_2 v0 v1 q4.1 q4.2))))
def f_X6_takeAll_2 (F P : Nat) (S : xSt) : Nat → Nat → Int32 → xDt → Option (Int32 × xDt)
  | 0 => fun _ _ _ => none
  | n + 1 => f_X6_takeAll_2s F P S (f_X6_takeAll_2 F P S n)
set_option maxHeartbeats 4000000 in
theorem t_X6_takeAll_2s {F P : Nat} {S : xSt} (hS : xWF S) {rec_2 : Nat → Int32 → xDt → Option (Int32 × xDt)} (hrec_2 : ∀ {v0 : Nat} {v1 : Int32} {D : xDt} {r : Int32 × xDt}, xK S v0 6 → rec_2 v0 v1 D = some r → yEx md_X6_takeAll 4 2 [(0, .ref v0), (1, .int v1)] [] S D (xQi S r)) {v0 : Nat} {v1 : Int32} {D : xDt} {r : Int32 × xDt} (k0 : xK S v0 6) (h : f_X6_takeAll_2s F P S rec_2 v0 v1 D = some r) : yEx md_X6_takeAll 4 2 [(0, .ref v0), (1, .int v1)] [] S D (xQi S r) := by
  unfold f_X6_takeAll_2s at h
  refine x_iload_n dX6_takeAll_2 1 rfl ?_
  refine x_sipush 200 dX6_takeAll_3 (by decide) ?_
  refine x_icmp_ge 63 dX6_takeAll_6 (by decide) (fun c => ?_) (fun c => ?_)
  · rw [if_pos c] at h
    refine x_lv (lv' := [(0, .ref v0)]) [0] rfl ?_
    exact t_X6_takeAll_63 hS k0 h
  · rw [if_neg c] at h
    refine x_aload_n dX6_takeAll_9 0 rfl ?_
    refine y_geti fl_RX6_71 dX6_takeAll_10 rfl k0 ?_
    refine x_aload_n dX6_takeAll_13 0 rfl ?_
    refine y_geti fl_RX6_48 dX6_takeAll_14 rfl k0 ?_
    refine x_icmp_ge 63 dX6_takeAll_17 (by decide) (fun c => ?_) (fun c => ?_)
    · rw [if_pos c] at h
      refine x_lv (lv' := [(0, .ref v0)]) [0] rfl ?_
      exact t_X6_takeAll_63 hS k0 h
    · rw [if_neg c] at h
      refine x_aload_n dX6_takeAll_20 0 rfl ?_
      refine y_getr (kd := 102) hS fl_RX6_9 dX6_takeAll_21 rfl k0 ?_
      refine x_aload_n dX6_takeAll_24 0 rfl ?_
      refine y_geti fl_RX6_71 dX6_takeAll_25 rfl k0 ?_
      refine xgrd_e h (fun g1 h => ?_)
      refine y_cald dX6_takeAll_28 ((hS.f k0 0 102 rfl).2) g1 ?_
      refine xlet_e h (fun v2_2 ev2_2 h => ?_)
      refine y_istore_n v2_2 ev2_2 [(2, .int v2_2), (0, .ref v0), (1, .int v1)] dX6_takeAll_29 (by show _ < 4; decide) rfl ?_
      refine x_aload_n dX6_takeAll_30 1 rfl ?_
      refine y_geti fl_RX6_78 dX6_takeAll_31 rfl k0 ?_
      refine x_if_eq 45 dX6_takeAll_34 (by decide) (fun c => ?_) (fun c => ?_)
      · rw [if_pos c] at h
        refine x_aload_n dX6_takeAll_45 1 rfl ?_
        refine x_iload_n dX6_takeAll_46 0 rfl ?_
        refine xbnd_e h (fun q3 e3 h => ?_)
        refine y_callVi (As := [.int v2_2]) (q := q3) cv_RX6_86 dX6_takeAll_47 k0 rfl (Nat.le_of_ble_eq_true rfl) (by omega) (S_X6_takeBehindOne hS k0 e3) ?_
        refine x_lv (lv' := [(0, .ref v0), (1, .int v1)]) [1, 2] rfl ?_
        exact t_X6_takeAll_50 hS hrec_2 k0 h
      · rw [if_neg c] at h
        refine x_aload_n dX6_takeAll_37 1 rfl ?_
        refine x_iload_n dX6_takeAll_38 0 rfl ?_
        refine xbnd_e h (fun q4 e4 h => ?_)
        refine y_callVi (As := [.int v2_2]) (q := q4) cv_RX6_82 dX6_takeAll_39 k0 rfl (Nat.le_of_ble_eq_true rfl) (by omega) (S_X6_takeOne hS k0 e4) ?_
        refine x_goto 50 dX6_takeAll_42 (by decide) ?_
        refine x_lv (lv' := [(0, .ref v0), (1, .int v1)]) [1, 2] rfl ?_
        exact t_X6_takeAll_50 hS hrec_2 k0 h
theorem t_X6_takeAll_2 {F P : Nat} {S : xSt} (hS : xWF S) : ∀ (n : Nat) {v0 : Nat} {v1 : Int32} {D : xDt} {r : Int32 × xDt}, xK S v0 6 → f_X6_takeAll_2 F P S n v0 v1 D = some r → yEx md_X6_takeAll 4 2 [(0, .ref v0), (1, .int v1)] [] S D (xQi S r) := by
  intro n
  induction n with
  | zero => intros; rename_i h; cases h
  | succ n ih =>
    intro v0 v1 D r k0 h
    exact t_X6_takeAll_2s hS (fun k0 h => ih k0 h) k0 h

def f_X6_takeAll (F P : Nat) (S : xSt) (v0 : Nat) (D : xDt) : Option (Int32 × xDt) :=
  f_X6_takeAll_2 F P S F v0 0 D
set_option maxHeartbeats 4000000 in
theorem S_X6_takeAll {F P : Nat} {S : xSt} (hS : xWF S) {v0 : Nat} {D : xDt} {r : Int32 × xDt} (k0 : xK S v0 6) (h : f_X6_takeAll F P S v0 D = some r) : xSp md_X6_takeAll (4, 0, 0) [.ref v0] (S, D) (xQi S r) := by
  unfold f_X6_takeAll at h
  refine xEntry (by decide) (Nat.le_of_ble_eq_true rfl) ?_
  refine x_lv (lv' := [(0, .ref v0)]) [0] rfl ?_
  refine x_iconst 0 dX6_takeAll_0 (by decide) ?_
  refine y_istore_n 0 rfl [(1, .int 0), (0, .ref v0)] dX6_takeAll_1 (by show _ < 4; decide) rfl ?_
  refine x_lv (lv' := [(0, .ref v0), (1, .int 0)]) [1, 0] rfl ?_
  exact t_X6_takeAll_2 hS F k0 h

theorem dX6_read_0 : decode cX6_read 0 = .ok (.aload_n 0, 1) := by decide +kernel
theorem dX6_read_1 : decode cX6_read 1 = .ok (.getfield 20, 3) := by decide +kernel
theorem dX6_read_4 : decode cX6_read 4 = .ok (.iconst 0, 1) := by decide +kernel
theorem dX6_read_5 : decode cX6_read 5 = .ok (.putfield 56, 3) := by decide +kernel
theorem dX6_read_8 : decode cX6_read 8 = .ok (.aload_n 0, 1) := by decide +kernel
theorem dX6_read_9 : decode cX6_read 9 = .ok (.iconst (-1), 1) := by decide +kernel
theorem dX6_read_10 : decode cX6_read 10 = .ok (.putfield 57, 3) := by decide +kernel
theorem dX6_read_13 : decode cX6_read 13 = .ok (.aload_n 0, 1) := by decide +kernel
theorem dX6_read_14 : decode cX6_read 14 = .ok (.iconst 0, 1) := by decide +kernel
theorem dX6_read_15 : decode cX6_read 15 = .ok (.invokevirtual 60, 3) := by decide +kernel
theorem dX6_read_18 : decode cX6_read 18 = .ok (.aload_n 0, 1) := by decide +kernel
theorem dX6_read_19 : decode cX6_read 19 = .ok (.iconst 0, 1) := by decide +kernel
theorem dX6_read_20 : decode cX6_read 20 = .ok (.invokevirtual 64, 3) := by decide +kernel
theorem dX6_read_23 : decode cX6_read 23 = .ok (.aload_n 0, 1) := by decide +kernel
theorem dX6_read_24 : decode cX6_read 24 = .ok (.invokevirtual 67, 3) := by decide +kernel
theorem dX6_read_27 : decode cX6_read 27 = .ok (.istore_n 2, 1) := by decide +kernel
theorem dX6_read_28 : decode cX6_read 28 = .ok (.aload_n 0, 1) := by decide +kernel
theorem dX6_read_29 : decode cX6_read 29 = .ok (.iconst 0, 1) := by decide +kernel
theorem dX6_read_30 : decode cX6_read 30 = .ok (.putfield 48, 3) := by decide +kernel
theorem dX6_read_33 : decode cX6_read 33 = .ok (.iload_n 2, 1) := by decide +kernel
theorem dX6_read_34 : decode cX6_read 34 = .ok (.ifCond .ne 11, 3) := by decide +kernel
theorem dX6_read_37 : decode cX6_read 37 = .ok (.bipush (-10), 2) := by decide +kernel
theorem dX6_read_39 : decode cX6_read 39 = .ok (.aload_n 0, 1) := by decide +kernel
theorem dX6_read_40 : decode cX6_read 40 = .ok (.getfield 71, 3) := by decide +kernel
theorem dX6_read_43 : decode cX6_read 43 = .ok (.isub, 1) := by decide +kernel
theorem dX6_read_44 : decode cX6_read 44 = .ok (.ireturn, 1) := by decide +kernel
theorem dX6_read_45 : decode cX6_read 45 = .ok (.aload_n 1, 1) := by decide +kernel
theorem dX6_read_46 : decode cX6_read 46 = .ok (.aload_n 0, 1) := by decide +kernel
theorem dX6_read_47 : decode cX6_read 47 = .ok (.getfield 20, 3) := by decide +kernel
theorem dX6_read_50 : decode cX6_read 50 = .ok (.invokevirtual 74, 3) := by decide +kernel
theorem dX6_read_53 : decode cX6_read 53 = .ok (.aload_n 1, 1) := by decide +kernel
theorem dX6_read_54 : decode cX6_read 54 = .ok (.getfield 56, 3) := by decide +kernel
theorem dX6_read_57 : decode cX6_read 57 = .ok (.ireturn, 1) := by decide +kernel
def f_X6_read (F P : Nat) (S : xSt) (v0 : Nat) (v1 : Nat) (D : xDt) : Option (Int32 × xDt) :=
  xlet (xup D.1 (xr S v0 2) 1 0, D.2) fun D1 => xlet (xup D1.1 v0 9 (-1), D1.2) fun D2 => (f_X6_enter F P S v0 0 D2).bind fun q3 => (f_X6_toSign F P S v0 0 q3).bind fun q4 => (f_X6_takeAll F P S v0 q4).bind fun q5 => xlet (xup q5.2.1 v0 1 0, q5.2.2) fun D6 => if q5.1 = 0 then (some ((-10) - (D6.1 v0 12), D6)) else ((f_X2_copy F P S v1 (xr S v0 2) D6).bind fun q7 => some (q7.1 v1 1, q7))
set_option maxHeartbeats 4000000 in
theorem S_X6_read {F P : Nat} {S : xSt} (hS : xWF S) {v0 : Nat} {v1 : Nat} {D : xDt} {r : Int32 × xDt} (k0 : xK S v0 6) (k1 : xK S v1 2) (h : f_X6_read F P S v0 v1 D = some r) : xSp md_X6_read (5, 0, 0) [.ref v0, .ref v1] (S, D) (xQi S r) := by
  unfold f_X6_read at h
  refine xEntry (by decide) (Nat.le_of_ble_eq_true rfl) ?_
  refine x_lv (lv' := [(0, .ref v0), (1, .ref v1)]) [0, 1] rfl ?_
  refine x_aload_n dX6_read_0 0 rfl ?_
  refine y_getr (kd := 2) hS fl_RX6_20 dX6_read_1 rfl k0 ?_
  refine x_iconst 0 dX6_read_4 (by decide) ?_
  refine xlet_e h (fun D1 eD1 h => ?_)
  refine y_puti fp_RX6_56 dX6_read_5 rfl ((hS.f k0 2 2 rfl).2) eD1 ?_
  refine x_aload_n dX6_read_8 0 rfl ?_
  refine x_iconst (-1) dX6_read_9 (by decide) ?_
  refine xlet_e h (fun D2 eD2 h => ?_)
  refine y_puti fp_RX6_57 dX6_read_10 rfl k0 eD2 ?_
  refine x_aload_n dX6_read_13 0 rfl ?_
  refine x_iconst 0 dX6_read_14 (by decide) ?_
  refine xbnd_e h (fun q3 e3 h => ?_)
  refine y_callVv (As := [.int 0]) (q := q3) cv_RX6_60 dX6_read_15 k0 rfl (Nat.le_of_ble_eq_true rfl) (by omega) (S_X6_enter hS k0 e3) ?_
  refine x_aload_n dX6_read_18 0 rfl ?_
  refine x_iconst 0 dX6_read_19 (by decide) ?_
  refine xbnd_e h (fun q4 e4 h => ?_)
  refine y_callVv (As := [.int 0]) (q := q4) cv_RX6_64 dX6_read_20 k0 rfl (Nat.le_of_ble_eq_true rfl) (by omega) (S_X6_toSign hS k0 e4) ?_
  refine x_aload_n dX6_read_23 0 rfl ?_
  refine xbnd_e h (fun q5 e5 h => ?_)
  refine y_callVi (As := []) (q := q5) cv_RX6_67 dX6_read_24 k0 rfl (Nat.le_of_ble_eq_true rfl) (by omega) (S_X6_takeAll hS k0 e5) ?_
  refine y_istore_n q5.1 rfl [(2, .int q5.1), (0, .ref v0), (1, .ref v1)] dX6_read_27 (by show _ < 3; decide) rfl ?_
  refine x_aload_n dX6_read_28 1 rfl ?_
  refine x_iconst 0 dX6_read_29 (by decide) ?_
  refine xlet_e h (fun D6 eD6 h => ?_)
  refine y_puti fp_RX6_48 dX6_read_30 rfl k0 eD6 ?_
  refine x_iload_n dX6_read_33 0 rfl ?_
  refine x_if_ne 45 dX6_read_34 (by decide) (fun c => ?_) (fun c => ?_)
  · rw [if_neg c] at h
    refine x_aload_n dX6_read_45 2 rfl ?_
    refine x_aload_n dX6_read_46 1 rfl ?_
    refine y_getr (kd := 2) hS fl_RX6_20 dX6_read_47 rfl k0 ?_
    refine xbnd_e h (fun q7 e7 h => ?_)
    refine y_callVv (As := [.ref (xr S v0 2)]) (q := q7) cv_RX6_74 dX6_read_50 k1 rfl (Nat.le_of_ble_eq_true rfl) (by omega) (S_X2_copy hS k1 ((hS.f k0 2 2 rfl).2) e7) ?_
    refine x_aload_n dX6_read_53 2 rfl ?_
    refine y_geti fl_RX6_56 dX6_read_54 rfl k1 ?_
    obtain rfl := Option.some.inj h
    exact y_iret rfl dX6_read_57
  · rw [if_pos c] at h
    refine x_bipush (-10) dX6_read_37 (by decide) ?_
    refine x_aload_n dX6_read_39 1 rfl ?_
    refine y_geti fl_RX6_71 dX6_read_40 rfl k0 ?_
    refine x_isub dX6_read_43 ?_
    obtain rfl := Option.some.inj h
    exact y_iret rfl dX6_read_44

theorem dX7_push_0 : decode cX7_push 0 = .ok (.iload_n 1, 1) := by decide +kernel
theorem dX7_push_1 : decode cX7_push 1 = .ok (.invokestatic 56, 3) := by decide +kernel
theorem dX7_push_4 : decode cX7_push 4 = .ok (.istore_n 3, 1) := by decide +kernel
theorem dX7_push_5 : decode cX7_push 5 = .ok (.iload_n 3, 1) := by decide +kernel
theorem dX7_push_6 : decode cX7_push 6 = .ok (.invokestatic 69, 3) := by decide +kernel
theorem dX7_push_9 : decode cX7_push 9 = .ok (.ifCond .eq 12, 3) := by decide +kernel
theorem dX7_push_12 : decode cX7_push 12 = .ok (.aload_n 0, 1) := by decide +kernel
theorem dX7_push_13 : decode cX7_push 13 = .ok (.getfield 23, 3) := by decide +kernel
theorem dX7_push_16 : decode cX7_push 16 = .ok (.iload_n 1, 1) := by decide +kernel
theorem dX7_push_17 : decode cX7_push 17 = .ok (.invokevirtual 72, 3) := by decide +kernel
theorem dX7_push_20 : decode cX7_push 20 = .ok (.ireturn, 1) := by decide +kernel
theorem dX7_push_21 : decode cX7_push 21 = .ok (.aload_n 0, 1) := by decide +kernel
theorem dX7_push_22 : decode cX7_push 22 = .ok (.getfield 23, 3) := by decide +kernel
theorem dX7_push_25 : decode cX7_push 25 = .ok (.bipush 62, 2) := by decide +kernel
theorem dX7_push_27 : decode cX7_push 27 = .ok (.invokevirtual 72, 3) := by decide +kernel
theorem dX7_push_30 : decode cX7_push 30 = .ok (.ifCond .eq 37, 3) := by decide +kernel
theorem dX7_push_33 : decode cX7_push 33 = .ok (.aload_n 0, 1) := by decide +kernel
theorem dX7_push_34 : decode cX7_push 34 = .ok (.getfield 23, 3) := by decide +kernel
theorem dX7_push_37 : decode cX7_push 37 = .ok (.aload_n 0, 1) := by decide +kernel
theorem dX7_push_38 : decode cX7_push 38 = .ok (.getfield 9, 3) := by decide +kernel
theorem dX7_push_41 : decode cX7_push 41 = .ok (.aload_n 0, 1) := by decide +kernel
theorem dX7_push_42 : decode cX7_push 42 = .ok (.getfield 39, 3) := by decide +kernel
theorem dX7_push_45 : decode cX7_push 45 = .ok (.iload_n 2, 1) := by decide +kernel
theorem dX7_push_46 : decode cX7_push 46 = .ok (.invokevirtual 52, 3) := by decide +kernel
theorem dX7_push_49 : decode cX7_push 49 = .ok (.ifCond .eq 18, 3) := by decide +kernel
theorem dX7_push_52 : decode cX7_push 52 = .ok (.aload_n 0, 1) := by decide +kernel
theorem dX7_push_53 : decode cX7_push 53 = .ok (.getfield 23, 3) := by decide +kernel
theorem dX7_push_56 : decode cX7_push 56 = .ok (.iload_n 1, 1) := by decide +kernel
theorem dX7_push_57 : decode cX7_push 57 = .ok (.invokevirtual 72, 3) := by decide +kernel
theorem dX7_push_60 : decode cX7_push 60 = .ok (.ifCond .eq 7, 3) := by decide +kernel
theorem dX7_push_63 : decode cX7_push 63 = .ok (.iconst 1, 1) := by decide +kernel
theorem dX7_push_64 : decode cX7_push 64 = .ok (.goto 4, 3) := by decide +kernel
theorem dX7_push_67 : decode cX7_push 67 = .ok (.iconst 0, 1) := by decide +kernel
theorem dX7_push_68 : decode cX7_push 68 = .ok (.istore 4, 2) := by decide +kernel
theorem dX7_push_70 : decode cX7_push 70 = .ok (.iload_n 3, 1) := by decide +kernel
theorem dX7_push_71 : decode cX7_push 71 = .ok (.bipush 80, 2) := by decide +kernel
theorem dX7_push_73 : decode cX7_push 73 = .ok (.if_icmp .eq 6, 3) := by decide +kernel
theorem dX7_push_76 : decode cX7_push 76 = .ok (.iload 4, 2) := by decide +kernel
theorem dX7_push_78 : decode cX7_push 78 = .ok (.ireturn, 1) := by decide +kernel
theorem dX7_push_79 : decode cX7_push 79 = .ok (.iload 4, 2) := by decide +kernel
theorem dX7_push_81 : decode cX7_push 81 = .ok (.ifCond .eq 38, 3) := by decide +kernel
theorem dX7_push_84 : decode cX7_push 84 = .ok (.aload_n 0, 1) := by decide +kernel
theorem dX7_push_85 : decode cX7_push 85 = .ok (.getfield 23, 3) := by decide +kernel
theorem dX7_push_88 : decode cX7_push 88 = .ok (.bipush 38, 2) := by decide +kernel
theorem dX7_push_90 : decode cX7_push 90 = .ok (.invokevirtual 72, 3) := by decide +kernel
theorem dX7_push_93 : decode cX7_push 93 = .ok (.ifCond .eq 26, 3) := by decide +kernel
theorem dX7_push_96 : decode cX7_push 96 = .ok (.aload_n 0, 1) := by decide +kernel
theorem dX7_push_97 : decode cX7_push 97 = .ok (.getfield 23, 3) := by decide +kernel
theorem dX7_push_100 : decode cX7_push 100 = .ok (.aload_n 0, 1) := by decide +kernel
theorem dX7_push_101 : decode cX7_push 101 = .ok (.getfield 9, 3) := by decide +kernel
theorem dX7_push_104 : decode cX7_push 104 = .ok (.aload_n 0, 1) := by decide +kernel
theorem dX7_push_105 : decode cX7_push 105 = .ok (.getfield 39, 3) := by decide +kernel
theorem dX7_push_108 : decode cX7_push 108 = .ok (.iload_n 2, 1) := by decide +kernel
theorem dX7_push_109 : decode cX7_push 109 = .ok (.invokevirtual 52, 3) := by decide +kernel
theorem dX7_push_112 : decode cX7_push 112 = .ok (.ifCond .eq 7, 3) := by decide +kernel
theorem dX7_push_115 : decode cX7_push 115 = .ok (.iconst 1, 1) := by decide +kernel
theorem dX7_push_116 : decode cX7_push 116 = .ok (.goto 4, 3) := by decide +kernel
theorem dX7_push_119 : decode cX7_push 119 = .ok (.iconst 0, 1) := by decide +kernel
theorem dX7_push_120 : decode cX7_push 120 = .ok (.ireturn, 1) := by decide +kernel
def f_X7_push_119 (F P : Nat) (S : xSt) (D : xDt) : Option (Int32 × xDt) :=
  some (0, D)
set_option maxHeartbeats 4000000 in
theorem t_X7_push_119 {F P : Nat} {S : xSt} (hS : xWF S) {D : xDt} {r : Int32 × xDt} (h : f_X7_push_119 F P S D = some r) : yEx md_X7_push 2 119 [] [] S D (xQi S r) := by
  unfold f_X7_push_119 at h
  refine x_iconst 0 dX7_push_119 (by decide) ?_
  obtain rfl := Option.some.inj h
  exact y_zret rfl rfl dX7_push_120

def f_X7_push_68 (F P : Nat) (S : xSt) (v0 : Nat) (v2 : Int32) (v3 : Int32) (s0 : Int32) (D : xDt) : Option (Int32 × xDt) :=
  if v3 = 80 then (if s0 = 0 then (f_X7_push_119 F P S D) else ((f_X2_add F P S (xr S v0 2) 38 D).bind fun q1 => if q1.1 = 0 then (f_X7_push_119 F P S q1.2) else ((f_X2_addAll F P S (xr S v0 2) (xr S v0 0) (q1.2.1 v0 3) v2 q1.2).bind fun q2 => if q2.1 = 0 then (f_X7_push_119 F P S q2.2) else (some (1, q2.2))))) else (xgrd (xb s0) (some (s0, D)))
set_option maxHeartbeats 4000000 in
theorem t_X7_push_68 {F P : Nat} {S : xSt} (hS : xWF S) {v0 : Nat} {v2 : Int32} {v3 : Int32} {s0 : Int32} {D : xDt} {r : Int32 × xDt} (k0 : xK S v0 7) (h : f_X7_push_68 F P S v0 v2 v3 s0 D = some r) : yEx md_X7_push 2 68 [(0, .ref v0), (2, .int v2), (3, .int v3)] [.int s0] S D (xQi S r) := by
  unfold f_X7_push_68 at h
  refine y_istore s0 rfl [(4, .int s0), (0, .ref v0), (2, .int v2), (3, .int v3)] dX7_push_68 (by show _ < 5; decide) rfl ?_
  refine x_iload_n dX7_push_70 3 rfl ?_
  refine x_bipush 80 dX7_push_71 (by decide) ?_
  refine x_icmp_eq 79 dX7_push_73 (by decide) (fun c => ?_) (fun c => ?_)
  · rw [if_pos c] at h
    refine x_iload dX7_push_79 0 rfl ?_
    refine x_if_eq 119 dX7_push_81 (by decide) (fun c => ?_) (fun c => ?_)
    · rw [if_pos c] at h
      refine x_lv (lv' := []) [] rfl ?_
      exact t_X7_push_119 hS h
    · rw [if_neg c] at h
      refine x_aload_n dX7_push_84 1 rfl ?_
      refine y_getr (kd := 2) hS fl_RX7_23 dX7_push_85 rfl k0 ?_
      refine x_bipush 38 dX7_push_88 (by decide) ?_
      refine xbnd_e h (fun q1 e1 h => ?_)
      refine y_callVi (As := [.int 38]) (q := q1) cv_RX7_72 dX7_push_90 ((hS.f k0 2 2 rfl).2) rfl (Nat.le_of_ble_eq_true rfl) (by omega) (S_X2_add hS ((hS.f k0 2 2 rfl).2) e1) ?_
      refine x_if_eq 119 dX7_push_93 (by decide) (fun c => ?_) (fun c => ?_)
      · rw [if_pos c] at h
        refine x_lv (lv' := []) [] rfl ?_
        exact t_X7_push_119 hS h
      · rw [if_neg c] at h
        refine x_aload_n dX7_push_96 1 rfl ?_
        refine y_getr (kd := 2) hS fl_RX7_23 dX7_push_97 rfl k0 ?_
        refine x_aload_n dX7_push_100 1 rfl ?_
        refine y_getr (kd := 100) hS fl_RX7_9 dX7_push_101 rfl k0 ?_
        refine x_aload_n dX7_push_104 1 rfl ?_
        refine y_geti fl_RX7_39 dX7_push_105 rfl k0 ?_
        refine x_iload_n dX7_push_108 2 rfl ?_
        refine xbnd_e h (fun q2 e2 h => ?_)
        refine y_callVi (As := [.ref (xr S v0 0), .int (q1.2.1 v0 3), .int v2]) (q := q2) cv_RX7_52 dX7_push_109 ((hS.f k0 2 2 rfl).2) rfl (Nat.le_of_ble_eq_true rfl) (by omega) (S_X2_addAll hS ((hS.f k0 2 2 rfl).2) ((hS.f k0 0 100 rfl).2) e2) ?_
        refine x_if_eq 119 dX7_push_112 (by decide) (fun c => ?_) (fun c => ?_)
        · rw [if_pos c] at h
          refine x_lv (lv' := []) [] rfl ?_
          exact t_X7_push_119 hS h
        · rw [if_neg c] at h
          refine x_iconst 1 dX7_push_115 (by decide) ?_
          refine x_goto 120 dX7_push_116 (by decide) ?_
          obtain rfl := Option.some.inj h
          exact y_zret rfl rfl dX7_push_120
  · rw [if_neg c] at h
    refine x_iload dX7_push_76 0 rfl ?_
    refine xgrd_e h (fun g3 h => ?_)
    obtain rfl := Option.some.inj h
    exact y_zret rfl g3 dX7_push_78

def f_X7_push_67 (F P : Nat) (S : xSt) (v0 : Nat) (v2 : Int32) (v3 : Int32) (D : xDt) : Option (Int32 × xDt) :=
  f_X7_push_68 F P S v0 v2 v3 0 D
set_option maxHeartbeats 4000000 in
theorem t_X7_push_67 {F P : Nat} {S : xSt} (hS : xWF S) {v0 : Nat} {v2 : Int32} {v3 : Int32} {D : xDt} {r : Int32 × xDt} (k0 : xK S v0 7) (h : f_X7_push_67 F P S v0 v2 v3 D = some r) : yEx md_X7_push 2 67 [(0, .ref v0), (2, .int v2), (3, .int v3)] [] S D (xQi S r) := by
  unfold f_X7_push_67 at h
  refine x_iconst 0 dX7_push_67 (by decide) ?_
  exact t_X7_push_68 hS k0 h

def f_X7_push (F P : Nat) (S : xSt) (v0 : Nat) (v1 : Int32) (v2 : Int32) (D : xDt) : Option (Int32 × xDt) :=
  (f_X11_signOf F P S v1 D).bind fun q1 => (f_X11_isJoin F P S q1.1 q1.2).bind fun q2 => if q2.1 = 0 then ((f_X2_add F P S (xr S v0 2) 62 q2.2).bind fun q3 => if q3.1 = 0 then (f_X7_push_67 F P S v0 v2 q1.1 q3.2) else ((f_X2_addAll F P S (xr S v0 2) (xr S v0 0) (q3.2.1 v0 3) v2 q3.2).bind fun q4 => if q4.1 = 0 then (f_X7_push_67 F P S v0 v2 q1.1 q4.2) else ((f_X2_add F P S (xr S v0 2) v1 q4.2).bind fun q5 => if q5.1 = 0 then (f_X7_push_67 F P S v0 v2 q1.1 q5.2) else (f_X7_push_68 F P S v0 v2 q1.1 1 q5.2)))) else ((f_X2_add F P S (xr S v0 2) v1 q2.2).bind fun q6 => xgrd (xb q6.1) (some (q6.1, q6.2)))
set_option maxHeartbeats 4000000 in
theorem S_X7_push {F P : Nat} {S : xSt} (hS : xWF S) {v0 : Nat} {v1 : Int32} {v2 : Int32} {D : xDt} {r : Int32 × xDt} (k0 : xK S v0 7) (h : f_X7_push F P S v0 v1 v2 D = some r) : xSp md_X7_push (2, 0, 0) [.ref v0, .int v1, .int v2] (S, D) (xQi S r) := by
  unfold f_X7_push at h
  refine xEntry (by decide) (Nat.le_of_ble_eq_true rfl) ?_
  refine x_lv (lv' := [(0, .ref v0), (1, .int v1), (2, .int v2)]) [0, 1, 2] rfl ?_
  refine x_iload_n dX7_push_0 1 rfl ?_
  refine xbnd_e h (fun q1 e1 h => ?_)
  refine y_callNi (As := [.int v1]) (q := q1) cn_RX7_56 dX7_push_1 rfl (Nat.le_of_ble_eq_true rfl) (by omega) (S_X11_signOf hS e1) ?_
  refine y_istore_n q1.1 rfl [(3, .int q1.1), (0, .ref v0), (1, .int v1), (2, .int v2)] dX7_push_4 (by show _ < 5; decide) rfl ?_
  refine x_iload_n dX7_push_5 0 rfl ?_
  refine xbnd_e h (fun q2 e2 h => ?_)
  refine y_callNi (As := [.int q1.1]) (q := q2) cn_RX7_69 dX7_push_6 rfl (Nat.le_of_ble_eq_true rfl) (by omega) (S_X11_isJoin hS e2) ?_
  refine x_if_eq 21 dX7_push_9 (by decide) (fun c => ?_) (fun c => ?_)
  · rw [if_pos c] at h
    refine x_aload_n dX7_push_21 1 rfl ?_
    refine y_getr (kd := 2) hS fl_RX7_23 dX7_push_22 rfl k0 ?_
    refine x_bipush 62 dX7_push_25 (by decide) ?_
    refine xbnd_e h (fun q3 e3 h => ?_)
    refine y_callVi (As := [.int 62]) (q := q3) cv_RX7_72 dX7_push_27 ((hS.f k0 2 2 rfl).2) rfl (Nat.le_of_ble_eq_true rfl) (by omega) (S_X2_add hS ((hS.f k0 2 2 rfl).2) e3) ?_
    refine x_if_eq 67 dX7_push_30 (by decide) (fun c => ?_) (fun c => ?_)
    · rw [if_pos c] at h
      refine x_lv (lv' := [(0, .ref v0), (2, .int v2), (3, .int q1.1)]) [1, 3, 0] rfl ?_
      exact t_X7_push_67 hS k0 h
    · rw [if_neg c] at h
      refine x_aload_n dX7_push_33 1 rfl ?_
      refine y_getr (kd := 2) hS fl_RX7_23 dX7_push_34 rfl k0 ?_
      refine x_aload_n dX7_push_37 1 rfl ?_
      refine y_getr (kd := 100) hS fl_RX7_9 dX7_push_38 rfl k0 ?_
      refine x_aload_n dX7_push_41 1 rfl ?_
      refine y_geti fl_RX7_39 dX7_push_42 rfl k0 ?_
      refine x_iload_n dX7_push_45 3 rfl ?_
      refine xbnd_e h (fun q4 e4 h => ?_)
      refine y_callVi (As := [.ref (xr S v0 0), .int (q3.2.1 v0 3), .int v2]) (q := q4) cv_RX7_52 dX7_push_46 ((hS.f k0 2 2 rfl).2) rfl (Nat.le_of_ble_eq_true rfl) (by omega) (S_X2_addAll hS ((hS.f k0 2 2 rfl).2) ((hS.f k0 0 100 rfl).2) e4) ?_
      refine x_if_eq 67 dX7_push_49 (by decide) (fun c => ?_) (fun c => ?_)
      · rw [if_pos c] at h
        refine x_lv (lv' := [(0, .ref v0), (2, .int v2), (3, .int q1.1)]) [1, 3, 0] rfl ?_
        exact t_X7_push_67 hS k0 h
      · rw [if_neg c] at h
        refine x_aload_n dX7_push_52 1 rfl ?_
        refine y_getr (kd := 2) hS fl_RX7_23 dX7_push_53 rfl k0 ?_
        refine x_iload_n dX7_push_56 2 rfl ?_
        refine xbnd_e h (fun q5 e5 h => ?_)
        refine y_callVi (As := [.int v1]) (q := q5) cv_RX7_72 dX7_push_57 ((hS.f k0 2 2 rfl).2) rfl (Nat.le_of_ble_eq_true rfl) (by omega) (S_X2_add hS ((hS.f k0 2 2 rfl).2) e5) ?_
        refine x_if_eq 67 dX7_push_60 (by decide) (fun c => ?_) (fun c => ?_)
        · rw [if_pos c] at h
          refine x_lv (lv' := [(0, .ref v0), (2, .int v2), (3, .int q1.1)]) [1, 3, 0] rfl ?_
          exact t_X7_push_67 hS k0 h
        · rw [if_neg c] at h
          refine x_iconst 1 dX7_push_63 (by decide) ?_
          refine x_goto 68 dX7_push_64 (by decide) ?_
          refine x_lv (lv' := [(0, .ref v0), (2, .int v2), (3, .int q1.1)]) [1, 3, 0] rfl ?_
          exact t_X7_push_68 hS k0 h
  · rw [if_neg c] at h
    refine x_aload_n dX7_push_12 1 rfl ?_
    refine y_getr (kd := 2) hS fl_RX7_23 dX7_push_13 rfl k0 ?_
    refine x_iload_n dX7_push_16 2 rfl ?_
    refine xbnd_e h (fun q6 e6 h => ?_)
    refine y_callVi (As := [.int v1]) (q := q6) cv_RX7_72 dX7_push_17 ((hS.f k0 2 2 rfl).2) rfl (Nat.le_of_ble_eq_true rfl) (by omega) (S_X2_add hS ((hS.f k0 2 2 rfl).2) e6) ?_
    refine xgrd_e h (fun g7 h => ?_)
    obtain rfl := Option.some.inj h
    exact y_zret rfl g7 dX7_push_20

theorem dX7_unsay_0 : decode cX7_unsay 0 = .ok (.aload_n 0, 1) := by decide +kernel
theorem dX7_unsay_1 : decode cX7_unsay 1 = .ok (.getfield 42, 3) := by decide +kernel
theorem dX7_unsay_4 : decode cX7_unsay 4 = .ok (.iconst 2, 1) := by decide +kernel
theorem dX7_unsay_5 : decode cX7_unsay 5 = .ok (.if_icmp .ge 5, 3) := by decide +kernel
theorem dX7_unsay_8 : decode cX7_unsay 8 = .ok (.iconst 0, 1) := by decide +kernel
theorem dX7_unsay_9 : decode cX7_unsay 9 = .ok (.ireturn, 1) := by decide +kernel
theorem dX7_unsay_10 : decode cX7_unsay 10 = .ok (.aload_n 0, 1) := by decide +kernel
theorem dX7_unsay_11 : decode cX7_unsay 11 = .ok (.getfield 15, 3) := by decide +kernel
theorem dX7_unsay_14 : decode cX7_unsay 14 = .ok (.aload_n 0, 1) := by decide +kernel
theorem dX7_unsay_15 : decode cX7_unsay 15 = .ok (.getfield 42, 3) := by decide +kernel
theorem dX7_unsay_18 : decode cX7_unsay 18 = .ok (.iconst 1, 1) := by decide +kernel
theorem dX7_unsay_19 : decode cX7_unsay 19 = .ok (.isub, 1) := by decide +kernel
theorem dX7_unsay_20 : decode cX7_unsay 20 = .ok (.iaload, 1) := by decide +kernel
theorem dX7_unsay_21 : decode cX7_unsay 21 = .ok (.istore_n 2, 1) := by decide +kernel
theorem dX7_unsay_22 : decode cX7_unsay 22 = .ok (.aload_n 0, 1) := by decide +kernel
theorem dX7_unsay_23 : decode cX7_unsay 23 = .ok (.getfield 15, 3) := by decide +kernel
theorem dX7_unsay_26 : decode cX7_unsay 26 = .ok (.aload_n 0, 1) := by decide +kernel
theorem dX7_unsay_27 : decode cX7_unsay 27 = .ok (.getfield 42, 3) := by decide +kernel
theorem dX7_unsay_30 : decode cX7_unsay 30 = .ok (.iconst 2, 1) := by decide +kernel
theorem dX7_unsay_31 : decode cX7_unsay 31 = .ok (.isub, 1) := by decide +kernel
theorem dX7_unsay_32 : decode cX7_unsay 32 = .ok (.iaload, 1) := by decide +kernel
theorem dX7_unsay_33 : decode cX7_unsay 33 = .ok (.istore_n 3, 1) := by decide +kernel
theorem dX7_unsay_34 : decode cX7_unsay 34 = .ok (.aload_n 0, 1) := by decide +kernel
theorem dX7_unsay_35 : decode cX7_unsay 35 = .ok (.dup, 1) := by decide +kernel
theorem dX7_unsay_36 : decode cX7_unsay 36 = .ok (.getfield 42, 3) := by decide +kernel
theorem dX7_unsay_39 : decode cX7_unsay 39 = .ok (.iconst 1, 1) := by decide +kernel
theorem dX7_unsay_40 : decode cX7_unsay 40 = .ok (.isub, 1) := by decide +kernel
theorem dX7_unsay_41 : decode cX7_unsay 41 = .ok (.putfield 42, 3) := by decide +kernel
theorem dX7_unsay_44 : decode cX7_unsay 44 = .ok (.aload_n 0, 1) := by decide +kernel
theorem dX7_unsay_45 : decode cX7_unsay 45 = .ok (.getfield 23, 3) := by decide +kernel
theorem dX7_unsay_48 : decode cX7_unsay 48 = .ok (.iconst 0, 1) := by decide +kernel
theorem dX7_unsay_49 : decode cX7_unsay 49 = .ok (.putfield 35, 3) := by decide +kernel
theorem dX7_unsay_52 : decode cX7_unsay 52 = .ok (.iload_n 1, 1) := by decide +kernel
theorem dX7_unsay_53 : decode cX7_unsay 53 = .ok (.bipush 91, 2) := by decide +kernel
theorem dX7_unsay_55 : decode cX7_unsay 55 = .ok (.if_icmp .eq 25, 3) := by decide +kernel
theorem dX7_unsay_58 : decode cX7_unsay 58 = .ok (.aload_n 0, 1) := by decide +kernel
theorem dX7_unsay_59 : decode cX7_unsay 59 = .ok (.getfield 23, 3) := by decide +kernel
theorem dX7_unsay_62 : decode cX7_unsay 62 = .ok (.bipush 126, 2) := by decide +kernel
theorem dX7_unsay_64 : decode cX7_unsay 64 = .ok (.invokevirtual 72, 3) := by decide +kernel
theorem dX7_unsay_67 : decode cX7_unsay 67 = .ok (.ifCond .eq 17, 3) := by decide +kernel
theorem dX7_unsay_70 : decode cX7_unsay 70 = .ok (.aload_n 0, 1) := by decide +kernel
theorem dX7_unsay_71 : decode cX7_unsay 71 = .ok (.bipush 126, 2) := by decide +kernel
theorem dX7_unsay_73 : decode cX7_unsay 73 = .ok (.iload_n 2, 1) := by decide +kernel
theorem dX7_unsay_74 : decode cX7_unsay 74 = .ok (.invokevirtual 75, 3) := by decide +kernel
theorem dX7_unsay_77 : decode cX7_unsay 77 = .ok (.ifCond .eq 7, 3) := by decide +kernel
theorem dX7_unsay_80 : decode cX7_unsay 80 = .ok (.iconst 1, 1) := by decide +kernel
theorem dX7_unsay_81 : decode cX7_unsay 81 = .ok (.goto 4, 3) := by decide +kernel
theorem dX7_unsay_84 : decode cX7_unsay 84 = .ok (.iconst 0, 1) := by decide +kernel
theorem dX7_unsay_85 : decode cX7_unsay 85 = .ok (.istore 4, 2) := by decide +kernel
theorem dX7_unsay_87 : decode cX7_unsay 87 = .ok (.iload_n 2, 1) := by decide +kernel
theorem dX7_unsay_88 : decode cX7_unsay 88 = .ok (.istore 5, 2) := by decide +kernel
theorem dX7_unsay_90 : decode cX7_unsay 90 = .ok (.iload 4, 2) := by decide +kernel
theorem dX7_unsay_92 : decode cX7_unsay 92 = .ok (.ifCond .eq 29, 3) := by decide +kernel
theorem dX7_unsay_95 : decode cX7_unsay 95 = .ok (.iload 5, 2) := by decide +kernel
theorem dX7_unsay_97 : decode cX7_unsay 97 = .ok (.iload_n 3, 1) := by decide +kernel
theorem dX7_unsay_98 : decode cX7_unsay 98 = .ok (.if_icmp .ge 23, 3) := by decide +kernel
theorem dX7_unsay_101 : decode cX7_unsay 101 = .ok (.aload_n 0, 1) := by decide +kernel
theorem dX7_unsay_102 : decode cX7_unsay 102 = .ok (.aload_n 0, 1) := by decide +kernel
theorem dX7_unsay_103 : decode cX7_unsay 103 = .ok (.getfield 9, 3) := by decide +kernel
theorem dX7_unsay_106 : decode cX7_unsay 106 = .ok (.iload 5, 2) := by decide +kernel
theorem dX7_unsay_108 : decode cX7_unsay 108 = .ok (.iaload, 1) := by decide +kernel
theorem dX7_unsay_109 : decode cX7_unsay 109 = .ok (.iload_n 2, 1) := by decide +kernel
theorem dX7_unsay_110 : decode cX7_unsay 110 = .ok (.invokevirtual 75, 3) := by decide +kernel
theorem dX7_unsay_113 : decode cX7_unsay 113 = .ok (.istore 4, 2) := by decide +kernel
theorem dX7_unsay_115 : decode cX7_unsay 115 = .ok (.iinc 5 1, 3) := by decide +kernel
theorem dX7_unsay_118 : decode cX7_unsay 118 = .ok (.goto (-28), 3) := by decide +kernel
theorem dX7_unsay_121 : decode cX7_unsay 121 = .ok (.iload 4, 2) := by decide +kernel
theorem dX7_unsay_123 : decode cX7_unsay 123 = .ok (.ifCond .eq 14, 3) := by decide +kernel
theorem dX7_unsay_126 : decode cX7_unsay 126 = .ok (.aload_n 0, 1) := by decide +kernel
theorem dX7_unsay_127 : decode cX7_unsay 127 = .ok (.getfield 23, 3) := by decide +kernel
theorem dX7_unsay_130 : decode cX7_unsay 130 = .ok (.getfield 35, 3) := by decide +kernel
theorem dX7_unsay_133 : decode cX7_unsay 133 = .ok (.iload_n 3, 1) := by decide +kernel
theorem dX7_unsay_134 : decode cX7_unsay 134 = .ok (.if_icmp .le 5, 3) := by decide +kernel
theorem dX7_unsay_137 : decode cX7_unsay 137 = .ok (.iconst 0, 1) := by decide +kernel
theorem dX7_unsay_138 : decode cX7_unsay 138 = .ok (.ireturn, 1) := by decide +kernel
theorem dX7_unsay_139 : decode cX7_unsay 139 = .ok (.aload_n 0, 1) := by decide +kernel
theorem dX7_unsay_140 : decode cX7_unsay 140 = .ok (.iload_n 3, 1) := by decide +kernel
theorem dX7_unsay_141 : decode cX7_unsay 141 = .ok (.aload_n 0, 1) := by decide +kernel
theorem dX7_unsay_142 : decode cX7_unsay 142 = .ok (.getfield 23, 3) := by decide +kernel
theorem dX7_unsay_145 : decode cX7_unsay 145 = .ok (.getfield 35, 3) := by decide +kernel
theorem dX7_unsay_148 : decode cX7_unsay 148 = .ok (.isub, 1) := by decide +kernel
theorem dX7_unsay_149 : decode cX7_unsay 149 = .ok (.putfield 39, 3) := by decide +kernel
theorem dX7_unsay_152 : decode cX7_unsay 152 = .ok (.aload_n 0, 1) := by decide +kernel
theorem dX7_unsay_153 : decode cX7_unsay 153 = .ok (.getfield 23, 3) := by decide +kernel
theorem dX7_unsay_156 : decode cX7_unsay 156 = .ok (.getfield 45, 3) := by decide +kernel
theorem dX7_unsay_159 : decode cX7_unsay 159 = .ok (.iconst 0, 1) := by decide +kernel
theorem dX7_unsay_160 : decode cX7_unsay 160 = .ok (.aload_n 0, 1) := by decide +kernel
theorem dX7_unsay_161 : decode cX7_unsay 161 = .ok (.getfield 9, 3) := by decide +kernel
theorem dX7_unsay_164 : decode cX7_unsay 164 = .ok (.aload_n 0, 1) := by decide +kernel
theorem dX7_unsay_165 : decode cX7_unsay 165 = .ok (.getfield 39, 3) := by decide +kernel
theorem dX7_unsay_168 : decode cX7_unsay 168 = .ok (.aload_n 0, 1) := by decide +kernel
theorem dX7_unsay_169 : decode cX7_unsay 169 = .ok (.getfield 23, 3) := by decide +kernel
theorem dX7_unsay_172 : decode cX7_unsay 172 = .ok (.getfield 35, 3) := by decide +kernel
theorem dX7_unsay_175 : decode cX7_unsay 175 = .ok (.invokestatic 79, 3) := by decide +kernel
theorem dX7_unsay_178 : decode cX7_unsay 178 = .ok (.iconst 1, 1) := by decide +kernel
theorem dX7_unsay_179 : decode cX7_unsay 179 = .ok (.ireturn, 1) := by decide +kernel
def f_X7_unsay_121 (F P : Nat) (S : xSt) (v0 : Nat) (v3 : Int32) (v4 : Int32) (D : xDt) : Option (Int32 × xDt) :=
  if v4 = 0 then (some (0, D)) else (if (D.1 (xr S v0 2) 1) ≤ v3 then (xlet (xup D.1 v0 3 (v3 - (D.1 (xr S v0 2) 1)), D.2) fun D1 => xgrd (xcpin 0 (D1.1 v0 3) (D1.1 (xr S v0 2) 1) (xl S (xr S (xr S v0 2) 0)) (xl S (xr S v0 0))) (xlet (xcp D1.1 (xr S (xr S v0 2) 0) (xr S v0 0) (0 : Int32).toNatClampNeg (D1.1 v0 3).toNatClampNeg (D1.1 (xr S v0 2) 1).toNatClampNeg, D1.2) fun D3 => some (1, D3))) else (some (0, D)))
set_option maxHeartbeats 4000000 in
theorem t_X7_unsay_121 {F P : Nat} {S : xSt} (hS : xWF S) {v0 : Nat} {v3 : Int32} {v4 : Int32} {D : xDt} {r : Int32 × xDt} (k0 : xK S v0 7) (h : f_X7_unsay_121 F P S v0 v3 v4 D = some r) : yEx md_X7_unsay 3 121 [(0, .ref v0), (3, .int v3), (4, .int v4)] [] S D (xQi S r) := by
  unfold f_X7_unsay_121 at h
  refine x_iload dX7_unsay_121 2 rfl ?_
  refine x_if_eq 137 dX7_unsay_123 (by decide) (fun c => ?_) (fun c => ?_)
  · rw [if_pos c] at h
    refine x_iconst 0 dX7_unsay_137 (by decide) ?_
    obtain rfl := Option.some.inj h
    exact y_zret rfl rfl dX7_unsay_138
  · rw [if_neg c] at h
    refine x_aload_n dX7_unsay_126 0 rfl ?_
    refine y_getr (kd := 2) hS fl_RX7_23 dX7_unsay_127 rfl k0 ?_
    refine y_geti fl_RX7_35 dX7_unsay_130 rfl ((hS.f k0 2 2 rfl).2) ?_
    refine x_iload_n dX7_unsay_133 1 rfl ?_
    refine x_icmp_le 139 dX7_unsay_134 (by decide) (fun c => ?_) (fun c => ?_)
    · rw [if_pos c] at h
      refine x_aload_n dX7_unsay_139 0 rfl ?_
      refine x_iload_n dX7_unsay_140 1 rfl ?_
      refine x_aload_n dX7_unsay_141 0 rfl ?_
      refine y_getr (kd := 2) hS fl_RX7_23 dX7_unsay_142 rfl k0 ?_
      refine y_geti fl_RX7_35 dX7_unsay_145 rfl ((hS.f k0 2 2 rfl).2) ?_
      refine x_isub dX7_unsay_148 ?_
      refine xlet_e h (fun D1 eD1 h => ?_)
      refine y_puti fp_RX7_39 dX7_unsay_149 rfl k0 eD1 ?_
      refine x_aload_n dX7_unsay_152 0 rfl ?_
      refine y_getr (kd := 2) hS fl_RX7_23 dX7_unsay_153 rfl k0 ?_
      refine y_getr (kd := 100) hS fl_RX7_45 dX7_unsay_156 rfl ((hS.f k0 2 2 rfl).2) ?_
      refine x_iconst 0 dX7_unsay_159 (by decide) ?_
      refine x_aload_n dX7_unsay_160 0 rfl ?_
      refine y_getr (kd := 100) hS fl_RX7_9 dX7_unsay_161 rfl k0 ?_
      refine x_aload_n dX7_unsay_164 0 rfl ?_
      refine y_geti fl_RX7_39 dX7_unsay_165 rfl k0 ?_
      refine x_aload_n dX7_unsay_168 0 rfl ?_
      refine y_getr (kd := 2) hS fl_RX7_23 dX7_unsay_169 rfl k0 ?_
      refine y_geti fl_RX7_35 dX7_unsay_172 rfl ((hS.f k0 2 2 rfl).2) ?_
      refine xgrd_e h (fun g2 h => ?_)
      refine xlet_e h (fun D3 eD3 h => ?_)
      refine y_copyi cp_RX7_79 dX7_unsay_175 ((hS.f ((hS.f k0 2 2 rfl).2) 0 100 rfl).2) ((hS.f k0 0 100 rfl).2) g2 (Nat.le_of_ble_eq_true rfl) (by omega) eD3 ?_
      refine x_iconst 1 dX7_unsay_178 (by decide) ?_
      obtain rfl := Option.some.inj h
      exact y_zret rfl rfl dX7_unsay_179
    · rw [if_neg c] at h
      refine x_iconst 0 dX7_unsay_137 (by decide) ?_
      obtain rfl := Option.some.inj h
      exact y_zret rfl rfl dX7_unsay_138

def f_X7_unsay_90s (F P : Nat) (S : xSt) (rec_90 : Nat → Int32 → Int32 → Int32 → Int32 → xDt → Option (Int32 × xDt)) (v0 : Nat) (v2 : Int32) (v3 : Int32) (v4 : Int32) (v5 : Int32) (D : xDt) : Option (Int32 × xDt) :=
  if v4 = 0 then (f_X7_unsay_121 F P S v0 v3 v4 D) else (if v3 ≤ v5 then (f_X7_unsay_121 F P S v0 v3 v4 D) else (xgrd (xin v5 (xl S (xr S v0 0))) ((f_X7_push F P S v0 (D.1 (xr S v0 0) (v5).toNatClampNeg) v2 D).bind fun q2 => xlet (v5 + 1) fun v5_3 => rec_90 v0 v2 v3 q2.1 v5_3 q2.2)))
def f_X7_unsay_90 (F P : Nat) (S : xSt) : Nat → Nat → Int32 → Int32 → Int32 → Int32 → xDt → Option (Int32 × xDt)
  | 0 => fun _ _ _ _ _ _ => none
  | n + 1 => f_X7_unsay_90s F P S (f_X7_unsay_90 F P S n)
set_option maxHeartbeats 4000000 in
theorem t_X7_unsay_90s {F P : Nat} {S : xSt} (hS : xWF S) {rec_90 : Nat → Int32 → Int32 → Int32 → Int32 → xDt → Option (Int32 × xDt)} (hrec_90 : ∀ {v0 : Nat} {v2 : Int32} {v3 : Int32} {v4 : Int32} {v5 : Int32} {D : xDt} {r : Int32 × xDt}, xK S v0 7 → rec_90 v0 v2 v3 v4 v5 D = some r → yEx md_X7_unsay 3 90 [(0, .ref v0), (2, .int v2), (3, .int v3), (4, .int v4), (5, .int v5)] [] S D (xQi S r)) {v0 : Nat} {v2 : Int32} {v3 : Int32} {v4 : Int32} {v5 : Int32} {D : xDt} {r : Int32 × xDt} (k0 : xK S v0 7) (h : f_X7_unsay_90s F P S rec_90 v0 v2 v3 v4 v5 D = some r) : yEx md_X7_unsay 3 90 [(0, .ref v0), (2, .int v2), (3, .int v3), (4, .int v4), (5, .int v5)] [] S D (xQi S r) := by
  unfold f_X7_unsay_90s at h
  refine x_iload dX7_unsay_90 3 rfl ?_
  refine x_if_eq 121 dX7_unsay_92 (by decide) (fun c => ?_) (fun c => ?_)
  · rw [if_pos c] at h
    refine x_lv (lv' := [(0, .ref v0), (3, .int v3), (4, .int v4)]) [0, 2, 3] rfl ?_
    exact t_X7_unsay_121 hS k0 h
  · rw [if_neg c] at h
    refine x_iload dX7_unsay_95 4 rfl ?_
    refine x_iload_n dX7_unsay_97 2 rfl ?_
    refine x_icmp_ge 121 dX7_unsay_98 (by decide) (fun c => ?_) (fun c => ?_)
    · rw [if_pos c] at h
      refine x_lv (lv' := [(0, .ref v0), (3, .int v3), (4, .int v4)]) [0, 2, 3] rfl ?_
      exact t_X7_unsay_121 hS k0 h
    · rw [if_neg c] at h
      refine x_aload_n dX7_unsay_101 0 rfl ?_
      refine x_aload_n dX7_unsay_102 0 rfl ?_
      refine y_getr (kd := 100) hS fl_RX7_9 dX7_unsay_103 rfl k0 ?_
      refine x_iload dX7_unsay_106 4 rfl ?_
      refine xgrd_e h (fun g1 h => ?_)
      refine y_iald dX7_unsay_108 ((hS.f k0 0 100 rfl).2) g1 ?_
      refine x_iload_n dX7_unsay_109 1 rfl ?_
      refine xbnd_e h (fun q2 e2 h => ?_)
      refine y_callVi (As := [.int (D.1 (xr S v0 0) (v5).toNatClampNeg), .int v2]) (q := q2) cv_RX7_75 dX7_unsay_110 k0 rfl (Nat.le_of_ble_eq_true rfl) (by omega) (S_X7_push hS k0 e2) ?_
      refine y_istore q2.1 rfl [(4, .int q2.1), (0, .ref v0), (2, .int v2), (3, .int v3), (5, .int v5)] dX7_unsay_113 (by show _ < 6; decide) rfl ?_
      refine xlet_e h (fun v5_3 ev5_3 h => ?_)
      refine y_iinc v5_3 ev5_3 (by decide) [(5, .int v5_3), (4, .int q2.1), (0, .ref v0), (2, .int v2), (3, .int v3)] dX7_unsay_115 4 rfl (by show _ < 6; decide) rfl ?_
      refine x_goto 90 dX7_unsay_118 (by decide) ?_
      refine x_lv (lv' := [(0, .ref v0), (2, .int v2), (3, .int v3), (4, .int q2.1), (5, .int v5_3)]) [2, 3, 4, 1, 0] rfl ?_
      exact hrec_90 k0 h
theorem t_X7_unsay_90 {F P : Nat} {S : xSt} (hS : xWF S) : ∀ (n : Nat) {v0 : Nat} {v2 : Int32} {v3 : Int32} {v4 : Int32} {v5 : Int32} {D : xDt} {r : Int32 × xDt}, xK S v0 7 → f_X7_unsay_90 F P S n v0 v2 v3 v4 v5 D = some r → yEx md_X7_unsay 3 90 [(0, .ref v0), (2, .int v2), (3, .int v3), (4, .int v4), (5, .int v5)] [] S D (xQi S r) := by
  intro n
  induction n with
  | zero => intros; rename_i h; cases h
  | succ n ih =>
    intro v0 v2 v3 v4 v5 D r k0 h
    exact t_X7_unsay_90s hS (fun k0 h => ih k0 h) k0 h

def f_X7_unsay_85 (F P : Nat) (S : xSt) (v0 : Nat) (v2 : Int32) (v3 : Int32) (s0 : Int32) (D : xDt) : Option (Int32 × xDt) :=
  f_X7_unsay_90 F P S F v0 v2 v3 s0 v2 D
set_option maxHeartbeats 4000000 in
theorem t_X7_unsay_85 {F P : Nat} {S : xSt} (hS : xWF S) {v0 : Nat} {v2 : Int32} {v3 : Int32} {s0 : Int32} {D : xDt} {r : Int32 × xDt} (k0 : xK S v0 7) (h : f_X7_unsay_85 F P S v0 v2 v3 s0 D = some r) : yEx md_X7_unsay 3 85 [(0, .ref v0), (2, .int v2), (3, .int v3)] [.int s0] S D (xQi S r) := by
  unfold f_X7_unsay_85 at h
  refine y_istore s0 rfl [(4, .int s0), (0, .ref v0), (2, .int v2), (3, .int v3)] dX7_unsay_85 (by show _ < 6; decide) rfl ?_
  refine x_iload_n dX7_unsay_87 2 rfl ?_
  refine y_istore v2 rfl [(5, .int v2), (4, .int s0), (0, .ref v0), (2, .int v2), (3, .int v3)] dX7_unsay_88 (by show _ < 6; decide) rfl ?_
  refine x_lv (lv' := [(0, .ref v0), (2, .int v2), (3, .int v3), (4, .int s0), (5, .int v2)]) [2, 3, 4, 1, 0] rfl ?_
  exact t_X7_unsay_90 hS F k0 h

def f_X7_unsay_80 (F P : Nat) (S : xSt) (v0 : Nat) (v2 : Int32) (v3 : Int32) (D : xDt) : Option (Int32 × xDt) :=
  f_X7_unsay_85 F P S v0 v2 v3 1 D
set_option maxHeartbeats 4000000 in
theorem t_X7_unsay_80 {F P : Nat} {S : xSt} (hS : xWF S) {v0 : Nat} {v2 : Int32} {v3 : Int32} {D : xDt} {r : Int32 × xDt} (k0 : xK S v0 7) (h : f_X7_unsay_80 F P S v0 v2 v3 D = some r) : yEx md_X7_unsay 3 80 [(0, .ref v0), (2, .int v2), (3, .int v3)] [] S D (xQi S r) := by
  unfold f_X7_unsay_80 at h
  refine x_iconst 1 dX7_unsay_80 (by decide) ?_
  refine x_goto 85 dX7_unsay_81 (by decide) ?_
  exact t_X7_unsay_85 hS k0 h

def f_X7_unsay_84 (F P : Nat) (S : xSt) (v0 : Nat) (v2 : Int32) (v3 : Int32) (D : xDt) : Option (Int32 × xDt) :=
  f_X7_unsay_85 F P S v0 v2 v3 0 D
set_option maxHeartbeats 4000000 in
theorem t_X7_unsay_84 {F P : Nat} {S : xSt} (hS : xWF S) {v0 : Nat} {v2 : Int32} {v3 : Int32} {D : xDt} {r : Int32 × xDt} (k0 : xK S v0 7) (h : f_X7_unsay_84 F P S v0 v2 v3 D = some r) : yEx md_X7_unsay 3 84 [(0, .ref v0), (2, .int v2), (3, .int v3)] [] S D (xQi S r) := by
  unfold f_X7_unsay_84 at h
  refine x_iconst 0 dX7_unsay_84 (by decide) ?_
  exact t_X7_unsay_85 hS k0 h

def f_X7_unsay (F P : Nat) (S : xSt) (v0 : Nat) (v1 : Int32) (D : xDt) : Option (Int32 × xDt) :=
  if 2 ≤ (D.1 v0 4) then (xgrd (xin ((D.1 v0 4) - 1) (xl S (xr S v0 1))) (xlet (D.1 (xr S v0 1) ((D.1 v0 4) - 1).toNatClampNeg) fun v2_2 => xgrd (xin ((D.1 v0 4) - 2) (xl S (xr S v0 1))) (xlet (D.1 (xr S v0 1) ((D.1 v0 4) - 2).toNatClampNeg) fun v3_4 => xlet (xup D.1 v0 4 ((D.1 v0 4) - 1), D.2) fun D5 => xlet (xup D5.1 (xr S v0 2) 1 0, D5.2) fun D6 => if v1 = 91 then (f_X7_unsay_80 F P S v0 v2_2 v3_4 D6) else ((f_X2_add F P S (xr S v0 2) 126 D6).bind fun q7 => if q7.1 = 0 then (f_X7_unsay_84 F P S v0 v2_2 v3_4 q7.2) else ((f_X7_push F P S v0 126 v2_2 q7.2).bind fun q8 => if q8.1 = 0 then (f_X7_unsay_84 F P S v0 v2_2 v3_4 q8.2) else (f_X7_unsay_80 F P S v0 v2_2 v3_4 q8.2)))))) else (some (0, D))
set_option maxHeartbeats 4000000 in
theorem S_X7_unsay {F P : Nat} {S : xSt} (hS : xWF S) {v0 : Nat} {v1 : Int32} {D : xDt} {r : Int32 × xDt} (k0 : xK S v0 7) (h : f_X7_unsay F P S v0 v1 D = some r) : xSp md_X7_unsay (3, 0, 0) [.ref v0, .int v1] (S, D) (xQi S r) := by
  unfold f_X7_unsay at h
  refine xEntry (by decide) (Nat.le_of_ble_eq_true rfl) ?_
  refine x_lv (lv' := [(0, .ref v0), (1, .int v1)]) [0, 1] rfl ?_
  refine x_aload_n dX7_unsay_0 0 rfl ?_
  refine y_geti fl_RX7_42 dX7_unsay_1 rfl k0 ?_
  refine x_iconst 2 dX7_unsay_4 (by decide) ?_
  refine x_icmp_ge 10 dX7_unsay_5 (by decide) (fun c => ?_) (fun c => ?_)
  · rw [if_pos c] at h
    refine x_aload_n dX7_unsay_10 0 rfl ?_
    refine y_getr (kd := 100) hS fl_RX7_15 dX7_unsay_11 rfl k0 ?_
    refine x_aload_n dX7_unsay_14 0 rfl ?_
    refine y_geti fl_RX7_42 dX7_unsay_15 rfl k0 ?_
    refine x_iconst 1 dX7_unsay_18 (by decide) ?_
    refine x_isub dX7_unsay_19 ?_
    refine xgrd_e h (fun g1 h => ?_)
    refine y_iald dX7_unsay_20 ((hS.f k0 1 100 rfl).2) g1 ?_
    refine xlet_e h (fun v2_2 ev2_2 h => ?_)
    refine y_istore_n v2_2 ev2_2 [(2, .int v2_2), (0, .ref v0), (1, .int v1)] dX7_unsay_21 (by show _ < 6; decide) rfl ?_
    refine x_aload_n dX7_unsay_22 1 rfl ?_
    refine y_getr (kd := 100) hS fl_RX7_15 dX7_unsay_23 rfl k0 ?_
    refine x_aload_n dX7_unsay_26 1 rfl ?_
    refine y_geti fl_RX7_42 dX7_unsay_27 rfl k0 ?_
    refine x_iconst 2 dX7_unsay_30 (by decide) ?_
    refine x_isub dX7_unsay_31 ?_
    refine xgrd_e h (fun g3 h => ?_)
    refine y_iald dX7_unsay_32 ((hS.f k0 1 100 rfl).2) g3 ?_
    refine xlet_e h (fun v3_4 ev3_4 h => ?_)
    refine y_istore_n v3_4 ev3_4 [(3, .int v3_4), (2, .int v2_2), (0, .ref v0), (1, .int v1)] dX7_unsay_33 (by show _ < 6; decide) rfl ?_
    refine x_aload_n dX7_unsay_34 2 rfl ?_
    refine x_dup dX7_unsay_35 rfl ?_
    refine y_geti fl_RX7_42 dX7_unsay_36 rfl k0 ?_
    refine x_iconst 1 dX7_unsay_39 (by decide) ?_
    refine x_isub dX7_unsay_40 ?_
    refine xlet_e h (fun D5 eD5 h => ?_)
    refine y_puti fp_RX7_42 dX7_unsay_41 rfl k0 eD5 ?_
    refine x_aload_n dX7_unsay_44 2 rfl ?_
    refine y_getr (kd := 2) hS fl_RX7_23 dX7_unsay_45 rfl k0 ?_
    refine x_iconst 0 dX7_unsay_48 (by decide) ?_
    refine xlet_e h (fun D6 eD6 h => ?_)
    refine y_puti fp_RX7_35 dX7_unsay_49 rfl ((hS.f k0 2 2 rfl).2) eD6 ?_
    refine x_iload_n dX7_unsay_52 3 rfl ?_
    refine x_bipush 91 dX7_unsay_53 (by decide) ?_
    refine x_icmp_eq 80 dX7_unsay_55 (by decide) (fun c => ?_) (fun c => ?_)
    · rw [if_pos c] at h
      refine x_lv (lv' := [(0, .ref v0), (2, .int v2_2), (3, .int v3_4)]) [2, 1, 0] rfl ?_
      exact t_X7_unsay_80 hS k0 h
    · rw [if_neg c] at h
      refine x_aload_n dX7_unsay_58 2 rfl ?_
      refine y_getr (kd := 2) hS fl_RX7_23 dX7_unsay_59 rfl k0 ?_
      refine x_bipush 126 dX7_unsay_62 (by decide) ?_
      refine xbnd_e h (fun q7 e7 h => ?_)
      refine y_callVi (As := [.int 126]) (q := q7) cv_RX7_72 dX7_unsay_64 ((hS.f k0 2 2 rfl).2) rfl (Nat.le_of_ble_eq_true rfl) (by omega) (S_X2_add hS ((hS.f k0 2 2 rfl).2) e7) ?_
      refine x_if_eq 84 dX7_unsay_67 (by decide) (fun c => ?_) (fun c => ?_)
      · rw [if_pos c] at h
        refine x_lv (lv' := [(0, .ref v0), (2, .int v2_2), (3, .int v3_4)]) [2, 1, 0] rfl ?_
        exact t_X7_unsay_84 hS k0 h
      · rw [if_neg c] at h
        refine x_aload_n dX7_unsay_70 2 rfl ?_
        refine x_bipush 126 dX7_unsay_71 (by decide) ?_
        refine x_iload_n dX7_unsay_73 1 rfl ?_
        refine xbnd_e h (fun q8 e8 h => ?_)
        refine y_callVi (As := [.int 126, .int v2_2]) (q := q8) cv_RX7_75 dX7_unsay_74 k0 rfl (Nat.le_of_ble_eq_true rfl) (by omega) (S_X7_push hS k0 e8) ?_
        refine x_if_eq 84 dX7_unsay_77 (by decide) (fun c => ?_) (fun c => ?_)
        · rw [if_pos c] at h
          refine x_lv (lv' := [(0, .ref v0), (2, .int v2_2), (3, .int v3_4)]) [2, 1, 0] rfl ?_
          exact t_X7_unsay_84 hS k0 h
        · rw [if_neg c] at h
          refine x_lv (lv' := [(0, .ref v0), (2, .int v2_2), (3, .int v3_4)]) [2, 1, 0] rfl ?_
          exact t_X7_unsay_80 hS k0 h
  · rw [if_neg c] at h
    refine x_iconst 0 dX7_unsay_8 (by decide) ?_
    obtain rfl := Option.some.inj h
    exact y_zret rfl rfl dX7_unsay_9

