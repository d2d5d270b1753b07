/-! printed by wip/whole/gen.py: the methods as plain functions, each proved to be what its bytecode does -/
theorem dX11_letter_0 : decode cX11_letter 0 = .ok (.iload_n 1, 1) := by decide +kernel
theorem dX11_letter_1 : decode cX11_letter 1 = .ok (.ifCond .lt 14, 3) := by decide +kernel
theorem dX11_letter_4 : decode cX11_letter 4 = .ok (.iload_n 1, 1) := by decide +kernel
theorem dX11_letter_5 : decode cX11_letter 5 = .ok (.aload_n 0, 1) := by decide +kernel
theorem dX11_letter_6 : decode cX11_letter 6 = .ok (.getfield 49, 3) := by decide +kernel
theorem dX11_letter_9 : decode cX11_letter 9 = .ok (.getfield 163, 3) := by decide +kernel
theorem dX11_letter_12 : decode cX11_letter 12 = .ok (.if_icmp .lt 6, 3) := by decide +kernel
theorem dX11_letter_15 : decode cX11_letter 15 = .ok (.bipush (-2), 2) := by decide +kernel
theorem dX11_letter_17 : decode cX11_letter 17 = .ok (.ireturn, 1) := by decide +kernel
theorem dX11_letter_18 : decode cX11_letter 18 = .ok (.aload_n 0, 1) := by decide +kernel
theorem dX11_letter_19 : decode cX11_letter 19 = .ok (.getfield 49, 3) := by decide +kernel
theorem dX11_letter_22 : decode cX11_letter 22 = .ok (.getfield 164, 3) := by decide +kernel
theorem dX11_letter_25 : decode cX11_letter 25 = .ok (.iload_n 1, 1) := by decide +kernel
theorem dX11_letter_26 : decode cX11_letter 26 = .ok (.caload, 1) := by decide +kernel
theorem dX11_letter_27 : decode cX11_letter 27 = .ok (.ireturn, 1) := by decide +kernel
def f_X11_letter (F P : Nat) (S : xSt) (v0 : Nat) (v1 : Int32) (D : xDt) : Option (Int32 × xDt) :=
  if v1 < 0 then (some ((-2), D)) else (if v1 < (D.1 (xr S v0 5) 1) then (xgrd (xin v1 (xl S (xr S (xr S v0 5) 0))) (some (D.1 (xr S (xr S v0 5) 0) (v1).toNatClampNeg, D))) else (some ((-2), D)))
set_option maxHeartbeats 4000000 in
theorem S_X11_letter {F P : Nat} {S : xSt} (hS : xWF S) {v0 : Nat} {v1 : Int32} {D : xDt} {r : Int32 × xDt} (k0 : xK S v0 11) (h : f_X11_letter F P S v0 v1 D = some r) : xSp md_X11_letter (0, 0, 0) [.ref v0, .int v1] (S, D) (xQi S r) := by
  unfold f_X11_letter at h
  refine xEntry (by decide) (Nat.le_of_ble_eq_true rfl) ?_
  refine x_lv (lv' := [(0, .ref v0), (1, .int v1)]) [0, 1] rfl ?_
  refine x_iload_n dX11_letter_0 1 rfl ?_
  refine x_if_lt 15 dX11_letter_1 (by decide) (fun c => ?_) (fun c => ?_)
  · rw [if_pos c] at h
    refine x_bipush (-2) dX11_letter_15 (by decide) ?_
    obtain rfl := Option.some.inj h
    exact y_iret rfl dX11_letter_17
  · rw [if_neg c] at h
    refine x_iload_n dX11_letter_4 1 rfl ?_
    refine x_aload_n dX11_letter_5 0 rfl ?_
    refine y_getr (kd := 9) hS fl_RX11_49 dX11_letter_6 rfl k0 ?_
    refine y_geti fl_RX11_163 dX11_letter_9 rfl ((hS.f k0 5 9 rfl).2) ?_
    refine x_icmp_lt 18 dX11_letter_12 (by decide) (fun c => ?_) (fun c => ?_)
    · rw [if_pos c] at h
      refine x_aload_n dX11_letter_18 0 rfl ?_
      refine y_getr (kd := 9) hS fl_RX11_49 dX11_letter_19 rfl k0 ?_
      refine y_getr (kd := 102) hS fl_RX11_164 dX11_letter_22 rfl ((hS.f k0 5 9 rfl).2) ?_
      refine x_iload_n dX11_letter_25 1 rfl ?_
      refine xgrd_e h (fun g1 h => ?_)
      refine y_cald dX11_letter_26 ((hS.f ((hS.f k0 5 9 rfl).2) 0 102 rfl).2) g1 ?_
      obtain rfl := Option.some.inj h
      exact y_iret rfl dX11_letter_27
    · rw [if_neg c] at h
      refine x_bipush (-2) dX11_letter_15 (by decide) ?_
      obtain rfl := Option.some.inj h
      exact y_iret rfl dX11_letter_17

theorem dX11_choose_0 : decode cX11_choose 0 = .ok (.iconst 0, 1) := by decide +kernel
theorem dX11_choose_1 : decode cX11_choose 1 = .ok (.istore_n 3, 1) := by decide +kernel
theorem dX11_choose_2 : decode cX11_choose 2 = .ok (.iconst 0, 1) := by decide +kernel
theorem dX11_choose_3 : decode cX11_choose 3 = .ok (.istore 4, 2) := by decide +kernel
theorem dX11_choose_5 : decode cX11_choose 5 = .ok (.iload 4, 2) := by decide +kernel
theorem dX11_choose_7 : decode cX11_choose 7 = .ok (.bipush 64, 2) := by decide +kernel
theorem dX11_choose_9 : decode cX11_choose 9 = .ok (.if_icmp .ge 31, 3) := by decide +kernel
theorem dX11_choose_12 : decode cX11_choose 12 = .ok (.lload_n 1, 1) := by decide +kernel
theorem dX11_choose_13 : decode cX11_choose 13 = .ok (.iload 4, 2) := by decide +kernel
theorem dX11_choose_15 : decode cX11_choose 15 = .ok (.lushr, 1) := by decide +kernel
theorem dX11_choose_16 : decode cX11_choose 16 = .ok (.lconst 1, 1) := by decide +kernel
theorem dX11_choose_17 : decode cX11_choose 17 = .ok (.land, 1) := by decide +kernel
theorem dX11_choose_18 : decode cX11_choose 18 = .ok (.lconst 0, 1) := by decide +kernel
theorem dX11_choose_19 : decode cX11_choose 19 = .ok (.lcmp, 1) := by decide +kernel
theorem dX11_choose_20 : decode cX11_choose 20 = .ok (.ifCond .eq 14, 3) := by decide +kernel
theorem dX11_choose_23 : decode cX11_choose 23 = .ok (.aload_n 0, 1) := by decide +kernel
theorem dX11_choose_24 : decode cX11_choose 24 = .ok (.getfield 81, 3) := by decide +kernel
theorem dX11_choose_27 : decode cX11_choose 27 = .ok (.iload_n 3, 1) := by decide +kernel
theorem dX11_choose_28 : decode cX11_choose 28 = .ok (.iinc 3 1, 3) := by decide +kernel
theorem dX11_choose_31 : decode cX11_choose 31 = .ok (.iload 4, 2) := by decide +kernel
theorem dX11_choose_33 : decode cX11_choose 33 = .ok (.iastore, 1) := by decide +kernel
theorem dX11_choose_34 : decode cX11_choose 34 = .ok (.iinc 4 1, 3) := by decide +kernel
theorem dX11_choose_37 : decode cX11_choose 37 = .ok (.goto (-32), 3) := by decide +kernel
theorem dX11_choose_40 : decode cX11_choose 40 = .ok (.iload_n 3, 1) := by decide +kernel
theorem dX11_choose_41 : decode cX11_choose 41 = .ok (.ireturn, 1) := by decide +kernel
def f_X11_choose_34 (F P : Nat) (S : xSt) (rec_5 : Nat → Int64 → Int32 → Int32 → xDt → Option (Int32 × xDt)) (v0 : Nat) (v1 : Int64) (v3 : Int32) (v4 : Int32) (D : xDt) : Option (Int32 × xDt) :=
  xlet (v4 + 1) fun v4_1 => rec_5 v0 v1 v3 v4_1 D
set_option maxHeartbeats 4000000 in
theorem t_X11_choose_34 {F P : Nat} {S : xSt} (hS : xWF S) {rec_5 : Nat → Int64 → Int32 → Int32 → xDt → Option (Int32 × xDt)} (hrec_5 : ∀ {v0 : Nat} {v1 : Int64} {v3 : Int32} {v4 : Int32} {D : xDt} {r : Int32 × xDt}, xK S v0 11 → rec_5 v0 v1 v3 v4 D = some r → yEx md_X11_choose 0 5 [(0, .ref v0), (1, .long v1), (3, .int v3), (4, .int v4)] [] S D (xQi S r)) {v0 : Nat} {v1 : Int64} {v3 : Int32} {v4 : Int32} {D : xDt} {r : Int32 × xDt} (k0 : xK S v0 11) (h : f_X11_choose_34 F P S rec_5 v0 v1 v3 v4 D = some r) : yEx md_X11_choose 0 34 [(0, .ref v0), (1, .long v1), (3, .int v3), (4, .int v4)] [] S D (xQi S r) := by
  unfold f_X11_choose_34 at h
  refine xlet_e h (fun v4_1 ev4_1 h => ?_)
  refine y_iinc v4_1 ev4_1 (by decide) [(4, .int v4_1), (0, .ref v0), (1, .long v1), (3, .int v3)] dX11_choose_34 3 rfl (by show _ < 5; decide) rfl ?_
  refine x_goto 5 dX11_choose_37 (by decide) ?_
  refine x_lv (lv' := [(0, .ref v0), (1, .long v1), (3, .int v3), (4, .int v4_1)]) [1, 2, 3, 0] rfl ?_
  exact hrec_5 k0 h

def f_X11_choose_5s (F P : Nat) (S : xSt) (rec_5 : Nat → Int64 → Int32 → Int32 → xDt → Option (Int32 × xDt)) (v0 : Nat) (v1 : Int64) (v3 : Int32) (v4 : Int32) (D : xDt) : Option (Int32 × xDt) :=
  if 64 ≤ v4 then (some (v3, D)) else (if (lg_cmp ((jlushr v1 v4) &&& 1) 0) = 0 then (f_X11_choose_34 F P S rec_5 v0 v1 v3 v4 D) else (xlet (v3 + 1) fun v3_1 => xgrd (xin v3 (xl S (xr S v0 10))) (xlet (xup D.1 (xr S v0 10) (v3).toNatClampNeg v4, D.2) fun D3 => f_X11_choose_34 F P S rec_5 v0 v1 v3_1 v4 D3)))
def f_X11_choose_5 (F P : Nat) (S : xSt) : Nat → Nat → Int64 → Int32 → Int32 → xDt → Option (Int32 × xDt)
  | 0 => fun _ _ _ _ _ => none
  | n + 1 => f_X11_choose_5s F P S (f_X11_choose_5 F P S n)
set_option maxHeartbeats 4000000 in
theorem t_X11_choose_5s {F P : Nat} {S : xSt} (hS : xWF S) {rec_5 : Nat → Int64 → Int32 → Int32 → xDt → Option (Int32 × xDt)} (hrec_5 : ∀ {v0 : Nat} {v1 : Int64} {v3 : Int32} {v4 : Int32} {D : xDt} {r : Int32 × xDt}, xK S v0 11 → rec_5 v0 v1 v3 v4 D = some r → yEx md_X11_choose 0 5 [(0, .ref v0), (1, .long v1), (3, .int v3), (4, .int v4)] [] S D (xQi S r)) {v0 : Nat} {v1 : Int64} {v3 : Int32} {v4 : Int32} {D : xDt} {r : Int32 × xDt} (k0 : xK S v0 11) (h : f_X11_choose_5s F P S rec_5 v0 v1 v3 v4 D = some r) : yEx md_X11_choose 0 5 [(0, .ref v0), (1, .long v1), (3, .int v3), (4, .int v4)] [] S D (xQi S r) := by
  unfold f_X11_choose_5s at h
  refine x_iload dX11_choose_5 3 rfl ?_
  refine x_bipush 64 dX11_choose_7 (by decide) ?_
  refine x_icmp_ge 40 dX11_choose_9 (by decide) (fun c => ?_) (fun c => ?_)
  · rw [if_pos c] at h
    refine x_iload_n dX11_choose_40 2 rfl ?_
    obtain rfl := Option.some.inj h
    exact y_iret rfl dX11_choose_41
  · rw [if_neg c] at h
    refine x_lload_n dX11_choose_12 1 rfl ?_
    refine x_iload dX11_choose_13 3 rfl ?_
    refine x_lushr dX11_choose_15 ?_
    refine x_lconst 1 dX11_choose_16 (by decide) ?_
    refine x_land dX11_choose_17 ?_
    refine x_lconst 0 dX11_choose_18 (by decide) ?_
    refine x_lcmp dX11_choose_19 ?_
    refine x_if_eq 34 dX11_choose_20 (by decide) (fun c => ?_) (fun c => ?_)
    · rw [if_pos c] at h
      exact t_X11_choose_34 hS hrec_5 k0 h
    · rw [if_neg c] at h
      refine x_aload_n dX11_choose_23 0 rfl ?_
      refine y_getr (kd := 100) hS fl_RX11_81 dX11_choose_24 rfl k0 ?_
      refine x_iload_n dX11_choose_27 2 rfl ?_
      refine xlet_e h (fun v3_1 ev3_1 h => ?_)
      refine y_iinc v3_1 ev3_1 (by decide) [(3, .int v3_1), (0, .ref v0), (1, .long v1), (4, .int v4)] dX11_choose_28 2 rfl (by show _ < 5; decide) rfl ?_
      refine x_iload dX11_choose_31 3 rfl ?_
      refine xgrd_e h (fun g2 h => ?_)
      refine xlet_e h (fun D3 eD3 h => ?_)
      refine y_iast dX11_choose_33 ((hS.f k0 10 100 rfl).2) g2 eD3 ?_
      refine x_lv (lv' := [(0, .ref v0), (1, .long v1), (3, .int v3_1), (4, .int v4)]) [1, 2, 0, 3] rfl ?_
      exact t_X11_choose_34 hS hrec_5 k0 h
theorem t_X11_choose_5 {F P : Nat} {S : xSt} (hS : xWF S) : ∀ (n : Nat) {v0 : Nat} {v1 : Int64} {v3 : Int32} {v4 : Int32} {D : xDt} {r : Int32 × xDt}, xK S v0 11 → f_X11_choose_5 F P S n v0 v1 v3 v4 D = some r → yEx md_X11_choose 0 5 [(0, .ref v0), (1, .long v1), (3, .int v3), (4, .int v4)] [] S D (xQi S r) := by
  intro n
  induction n with
  | zero => intros; rename_i h; cases h
  | succ n ih =>
    intro v0 v1 v3 v4 D r k0 h
    exact t_X11_choose_5s hS (fun k0 h => ih k0 h) k0 h

def f_X11_choose (F P : Nat) (S : xSt) (v0 : Nat) (v1 : Int64) (D : xDt) : Option (Int32 × xDt) :=
  f_X11_choose_5 F P S F v0 v1 0 0 D
set_option maxHeartbeats 4000000 in
theorem S_X11_choose {F P : Nat} {S : xSt} (hS : xWF S) {v0 : Nat} {v1 : Int64} {D : xDt} {r : Int32 × xDt} (k0 : xK S v0 11) (h : f_X11_choose F P S v0 v1 D = some r) : xSp md_X11_choose (0, 0, 0) [.ref v0, .long v1] (S, D) (xQi S r) := by
  unfold f_X11_choose at h
  refine xEntry (by decide) (Nat.le_of_ble_eq_true rfl) ?_
  refine x_lv (lv' := [(0, .ref v0), (1, .long v1)]) [0, 1] rfl ?_
  refine x_iconst 0 dX11_choose_0 (by decide) ?_
  refine y_istore_n 0 rfl [(3, .int 0), (0, .ref v0), (1, .long v1)] dX11_choose_1 (by show _ < 5; decide) rfl ?_
  refine x_iconst 0 dX11_choose_2 (by decide) ?_
  refine y_istore 0 rfl [(4, .int 0), (3, .int 0), (0, .ref v0), (1, .long v1)] dX11_choose_3 (by show _ < 5; decide) rfl ?_
  refine x_lv (lv' := [(0, .ref v0), (1, .long v1), (3, .int 0), (4, .int 0)]) [2, 3, 1, 0] rfl ?_
  exact t_X11_choose_5 hS F k0 h

theorem dX11_keptWorlds_0 : decode cX11_keptWorlds 0 = .ok (.aload_n 0, 1) := by decide +kernel
theorem dX11_keptWorlds_1 : decode cX11_keptWorlds 1 = .ok (.iconst 0, 1) := by decide +kernel
theorem dX11_keptWorlds_2 : decode cX11_keptWorlds 2 = .ok (.putfield 211, 3) := by decide +kernel
theorem dX11_keptWorlds_5 : decode cX11_keptWorlds 5 = .ok (.aload_n 0, 1) := by decide +kernel
theorem dX11_keptWorlds_6 : decode cX11_keptWorlds 6 = .ok (.getfield 19, 3) := by decide +kernel
theorem dX11_keptWorlds_9 : decode cX11_keptWorlds 9 = .ok (.aload_n 0, 1) := by decide +kernel
theorem dX11_keptWorlds_10 : decode cX11_keptWorlds 10 = .ok (.getfield 10, 3) := by decide +kernel
theorem dX11_keptWorlds_13 : decode cX11_keptWorlds 13 = .ok (.invokevirtual 247, 3) := by decide +kernel
theorem dX11_keptWorlds_16 : decode cX11_keptWorlds 16 = .ok (.areturn, 1) := by decide +kernel
def f_X11_keptWorlds (F P : Nat) (S : xSt) (v0 : Nat) (D : xDt) : Option (Nat × xDt) :=
  xlet (xup D.1 v0 13 0, D.2) fun D1 => (f_X5_keep F P S (xr S v0 1) (xr S v0 0) D1).bind fun q2 => xgrd (xkb S q2.1 10) (some (q2.1, q2.2))
set_option maxHeartbeats 4000000 in
theorem S_X11_keptWorlds {F P : Nat} {S : xSt} (hS : xWF S) {v0 : Nat} {D : xDt} {r : Nat × xDt} (k0 : xK S v0 11) (h : f_X11_keptWorlds F P S v0 D = some r) : xSp md_X11_keptWorlds (3, 0, 0) [.ref v0] (S, D) (xQr S r) := by
  unfold f_X11_keptWorlds at h
  refine xEntry (by decide) (Nat.le_of_ble_eq_true rfl) ?_
  refine x_lv (lv' := [(0, .ref v0)]) [0] rfl ?_
  refine x_aload_n dX11_keptWorlds_0 0 rfl ?_
  refine x_iconst 0 dX11_keptWorlds_1 (by decide) ?_
  refine xlet_e h (fun D1 eD1 h => ?_)
  refine y_putz rfl fp_RX11_211 dX11_keptWorlds_2 rfl k0 eD1 ?_
  refine x_aload_n dX11_keptWorlds_5 0 rfl ?_
  refine y_getr (kd := 5) hS fl_RX11_19 dX11_keptWorlds_6 rfl k0 ?_
  refine x_aload_n dX11_keptWorlds_9 0 rfl ?_
  refine y_getr (kd := 10) hS fl_RX11_10 dX11_keptWorlds_10 rfl k0 ?_
  refine xbnd_e h (fun q2 e2 h => ?_)
  refine y_callVr (As := [.ref (xr S v0 0)]) (q := q2) cv_RX11_247 dX11_keptWorlds_13 ((hS.f k0 1 5 rfl).2) rfl (Nat.le_of_ble_eq_true rfl) (by omega) (S_X5_keep hS ((hS.f k0 1 5 rfl).2) ((hS.f k0 0 10 rfl).2) e2) ?_
  refine xgrd_e h (fun g3 h => ?_)
  obtain rfl := Option.some.inj h
  exact y_aret rfl dX11_keptWorlds_16

theorem dX11_say_0 : decode cX11_say 0 = .ok (.aload_n 0, 1) := by decide +kernel
theorem dX11_say_1 : decode cX11_say 1 = .ok (.aload_n 0, 1) := by decide +kernel
theorem dX11_say_2 : decode cX11_say 2 = .ok (.invokevirtual 151, 3) := by decide +kernel
theorem dX11_say_5 : decode cX11_say 5 = .ok (.invokevirtual 168, 3) := by decide +kernel
theorem dX11_say_8 : decode cX11_say 8 = .ok (.istore_n 1, 1) := by decide +kernel
theorem dX11_say_9 : decode cX11_say 9 = .ok (.iload_n 1, 1) := by decide +kernel
theorem dX11_say_10 : decode cX11_say 10 = .ok (.ifCond .le 36, 3) := by decide +kernel
theorem dX11_say_13 : decode cX11_say 13 = .ok (.iload_n 1, 1) := by decide +kernel
theorem dX11_say_14 : decode cX11_say 14 = .ok (.aload_n 0, 1) := by decide +kernel
theorem dX11_say_15 : decode cX11_say 15 = .ok (.getfield 10, 3) := by decide +kernel
theorem dX11_say_18 : decode cX11_say 18 = .ok (.getfield 92, 3) := by decide +kernel
theorem dX11_say_21 : decode cX11_say 21 = .ok (.if_icmp .ge 25, 3) := by decide +kernel
theorem dX11_say_24 : decode cX11_say 24 = .ok (.aload_n 0, 1) := by decide +kernel
theorem dX11_say_25 : decode cX11_say 25 = .ok (.invokevirtual 171, 3) := by decide +kernel
theorem dX11_say_28 : decode cX11_say 28 = .ok (.astore_n 2, 1) := by decide +kernel
theorem dX11_say_29 : decode cX11_say 29 = .ok (.aload_n 0, 1) := by decide +kernel
theorem dX11_say_30 : decode cX11_say 30 = .ok (.getfield 10, 3) := by decide +kernel
theorem dX11_say_33 : decode cX11_say 33 = .ok (.aload_n 2, 1) := by decide +kernel
theorem dX11_say_34 : decode cX11_say 34 = .ok (.aload_n 2, 1) := by decide +kernel
theorem dX11_say_35 : decode cX11_say 35 = .ok (.getfield 175, 3) := by decide +kernel
theorem dX11_say_38 : decode cX11_say 38 = .ok (.aload_n 0, 1) := by decide +kernel
theorem dX11_say_39 : decode cX11_say 39 = .ok (.getfield 81, 3) := by decide +kernel
theorem dX11_say_42 : decode cX11_say 42 = .ok (.iload_n 1, 1) := by decide +kernel
theorem dX11_say_43 : decode cX11_say 43 = .ok (.invokevirtual 178, 3) := by decide +kernel
theorem dX11_say_46 : decode cX11_say 46 = .ok (.iload_n 1, 1) := by decide +kernel
theorem dX11_say_47 : decode cX11_say 47 = .ok (.ireturn, 1) := by decide +kernel
def f_X11_say (F P : Nat) (S : xSt) (v0 : Nat) (D : xDt) : Option (Int32 × xDt) :=
  (f_X11_truths F P S v0 D).bind fun q1 => (f_X11_choose F P S v0 q1.1 q1.2).bind fun q2 => if q2.1 ≤ 0 then (some (q2.1, q2.2)) else (if (q2.2.1 (xr S v0 0) 0) ≤ q2.1 then (some (q2.1, q2.2)) else ((f_X11_keptWorlds F P S v0 q2.2).bind fun q3 => xgrd (xkb S q3.1 10) ((f_X10_take F P S (xr S v0 0) q3.1 (xr S q3.1 2) (xr S v0 10) q2.1 q3.2).bind fun q5 => some (q2.1, q5))))
set_option maxHeartbeats 4000000 in
theorem S_X11_say {F P : Nat} {S : xSt} (hS : xWF S) {v0 : Nat} {D : xDt} {r : Int32 × xDt} (k0 : xK S v0 11) (h : f_X11_say F P S v0 D = some r) : xSp md_X11_say (6, 0, 0) [.ref v0] (S, D) (xQi S r) := by
  unfold f_X11_say at h
  refine xEntry (by decide) (Nat.le_of_ble_eq_true rfl) ?_
  refine x_lv (lv' := [(0, .ref v0)]) [0] rfl ?_
  refine x_aload_n dX11_say_0 0 rfl ?_
  refine x_aload_n dX11_say_1 0 rfl ?_
  refine xbnd_e h (fun q1 e1 h => ?_)
  refine y_callVl (As := []) (q := q1) cv_RX11_151 dX11_say_2 k0 rfl (Nat.le_of_ble_eq_true rfl) (by omega) (S_X11_truths hS k0 e1) ?_
  refine xbnd_e h (fun q2 e2 h => ?_)
  refine y_callVi (As := [.long q1.1]) (q := q2) cv_RX11_168 dX11_say_5 k0 rfl (Nat.le_of_ble_eq_true rfl) (by omega) (S_X11_choose hS k0 e2) ?_
  refine y_istore_n q2.1 rfl [(1, .int q2.1), (0, .ref v0)] dX11_say_8 (by show _ < 3; decide) rfl ?_
  refine x_iload_n dX11_say_9 0 rfl ?_
  refine x_if_le 46 dX11_say_10 (by decide) (fun c => ?_) (fun c => ?_)
  · rw [if_pos c] at h
    refine x_iload_n dX11_say_46 0 rfl ?_
    obtain rfl := Option.some.inj h
    exact y_iret rfl dX11_say_47
  · rw [if_neg c] at h
    refine x_iload_n dX11_say_13 0 rfl ?_
    refine x_aload_n dX11_say_14 1 rfl ?_
    refine y_getr (kd := 10) hS fl_RX11_10 dX11_say_15 rfl k0 ?_
    refine y_geti fl_RX11_92 dX11_say_18 rfl ((hS.f k0 0 10 rfl).2) ?_
    refine x_icmp_ge 46 dX11_say_21 (by decide) (fun c => ?_) (fun c => ?_)
    · rw [if_pos c] at h
      refine x_iload_n dX11_say_46 0 rfl ?_
      obtain rfl := Option.some.inj h
      exact y_iret rfl dX11_say_47
    · rw [if_neg c] at h
      refine x_aload_n dX11_say_24 1 rfl ?_
      refine xbnd_e h (fun q3 e3 h => ?_)
      refine y_callVr (As := []) (q := q3) cv_RX11_171 dX11_say_25 k0 rfl (Nat.le_of_ble_eq_true rfl) (by omega) (S_X11_keptWorlds hS k0 e3) ?_
      refine xgrd_e h (fun g4 h => ?_)
      refine x_astore_n [(2, .ref q3.1), (1, .int q2.1), (0, .ref v0)] dX11_say_28 (by show _ < 3; decide) rfl ?_
      refine x_aload_n dX11_say_29 2 rfl ?_
      refine y_getr (kd := 10) hS fl_RX11_10 dX11_say_30 rfl k0 ?_
      refine x_aload_n dX11_say_33 0 rfl ?_
      refine x_aload_n dX11_say_34 0 rfl ?_
      refine y_getr (kd := 101) hS fl_RX11_175 dX11_say_35 rfl (xkb_K g4) ?_
      refine x_aload_n dX11_say_38 2 rfl ?_
      refine y_getr (kd := 100) hS fl_RX11_81 dX11_say_39 rfl k0 ?_
      refine x_iload_n dX11_say_42 1 rfl ?_
      refine xbnd_e h (fun q5 e5 h => ?_)
      refine y_callVv (As := [.ref q3.1, .ref (xr S q3.1 2), .ref (xr S v0 10), .int q2.1]) (q := q5) cv_RX11_178 dX11_say_43 ((hS.f k0 0 10 rfl).2) rfl (Nat.le_of_ble_eq_true rfl) (by omega) (S_X10_take hS ((hS.f k0 0 10 rfl).2) (xkb_K g4) ((hS.f (xkb_K g4) 2 101 rfl).2) ((hS.f k0 10 100 rfl).2) e5) ?_
      refine x_iload_n dX11_say_46 1 rfl ?_
      obtain rfl := Option.some.inj h
      exact y_iret rfl dX11_say_47

theorem dX11_event_0 : decode cX11_event 0 = .ok (.aload_n 0, 1) := by decide +kernel
theorem dX11_event_1 : decode cX11_event 1 = .ok (.getfield 26, 3) := by decide +kernel
theorem dX11_event_4 : decode cX11_event 4 = .ok (.aload_n 0, 1) := by decide +kernel
theorem dX11_event_5 : decode cX11_event 5 = .ok (.getfield 42, 3) := by decide +kernel
theorem dX11_event_8 : decode cX11_event 8 = .ok (.invokevirtual 182, 3) := by decide +kernel
theorem dX11_event_11 : decode cX11_event 11 = .ok (.ireturn, 1) := by decide +kernel
def f_X11_event (F P : Nat) (S : xSt) (v0 : Nat) (D : xDt) : Option (Int32 × xDt) :=
  (f_X1_add F P S (xr S v0 2) (xr S v0 4) D).bind fun q1 => some (q1.1, q1.2)
set_option maxHeartbeats 4000000 in
theorem S_X11_event {F P : Nat} {S : xSt} (hS : xWF S) {v0 : Nat} {D : xDt} {r : Int32 × xDt} (k0 : xK S v0 11) (h : f_X11_event F P S v0 D = some r) : xSp md_X11_event (4, 0, 0) [.ref v0] (S, D) (xQi S r) := by
  unfold f_X11_event at h
  refine xEntry (by decide) (Nat.le_of_ble_eq_true rfl) ?_
  refine x_lv (lv' := [(0, .ref v0)]) [0] rfl ?_
  refine x_aload_n dX11_event_0 0 rfl ?_
  refine y_getr (kd := 1) hS fl_RX11_26 dX11_event_1 rfl k0 ?_
  refine x_aload_n dX11_event_4 0 rfl ?_
  refine y_getr (kd := 2) hS fl_RX11_42 dX11_event_5 rfl k0 ?_
  refine xbnd_e h (fun q1 e1 h => ?_)
  refine y_callVi (As := [.ref (xr S v0 4)]) (q := q1) cv_RX11_182 dX11_event_8 ((hS.f k0 2 1 rfl).2) rfl (Nat.le_of_ble_eq_true rfl) (by omega) (S_X1_add hS ((hS.f k0 2 1 rfl).2) ((hS.f k0 4 2 rfl).2) e1) ?_
  obtain rfl := Option.some.inj h
  exact y_iret rfl dX11_event_11

theorem dX11_tieEvents_0 : decode cX11_tieEvents 0 = .ok (.iload_n 1, 1) := by decide +kernel
theorem dX11_tieEvents_1 : decode cX11_tieEvents 1 = .ok (.invokestatic 102, 3) := by decide +kernel
theorem dX11_tieEvents_4 : decode cX11_tieEvents 4 = .ok (.ifCond .eq 25, 3) := by decide +kernel
theorem dX11_tieEvents_7 : decode cX11_tieEvents 7 = .ok (.aload_n 0, 1) := by decide +kernel
theorem dX11_tieEvents_8 : decode cX11_tieEvents 8 = .ok (.getfield 26, 3) := by decide +kernel
theorem dX11_tieEvents_11 : decode cX11_tieEvents 11 = .ok (.iload_n 2, 1) := by decide +kernel
theorem dX11_tieEvents_12 : decode cX11_tieEvents 12 = .ok (.invokevirtual 184, 3) := by decide +kernel
theorem dX11_tieEvents_15 : decode cX11_tieEvents 15 = .ok (.ifCond .eq 14, 3) := by decide +kernel
theorem dX11_tieEvents_18 : decode cX11_tieEvents 18 = .ok (.aload_n 0, 1) := by decide +kernel
theorem dX11_tieEvents_19 : decode cX11_tieEvents 19 = .ok (.getfield 26, 3) := by decide +kernel
theorem dX11_tieEvents_22 : decode cX11_tieEvents 22 = .ok (.iload_n 3, 1) := by decide +kernel
theorem dX11_tieEvents_23 : decode cX11_tieEvents 23 = .ok (.invokevirtual 184, 3) := by decide +kernel
theorem dX11_tieEvents_26 : decode cX11_tieEvents 26 = .ok (.ifCond .ne 5, 3) := by decide +kernel
theorem dX11_tieEvents_29 : decode cX11_tieEvents 29 = .ok (.iconst (-1), 1) := by decide +kernel
theorem dX11_tieEvents_30 : decode cX11_tieEvents 30 = .ok (.ireturn, 1) := by decide +kernel
theorem dX11_tieEvents_31 : decode cX11_tieEvents 31 = .ok (.aload_n 0, 1) := by decide +kernel
theorem dX11_tieEvents_32 : decode cX11_tieEvents 32 = .ok (.getfield 26, 3) := by decide +kernel
theorem dX11_tieEvents_35 : decode cX11_tieEvents 35 = .ok (.iload_n 1, 1) := by decide +kernel
theorem dX11_tieEvents_36 : decode cX11_tieEvents 36 = .ok (.iconst 1, 1) := by decide +kernel
theorem dX11_tieEvents_37 : decode cX11_tieEvents 37 = .ok (.isub, 1) := by decide +kernel
theorem dX11_tieEvents_38 : decode cX11_tieEvents 38 = .ok (.iload_n 2, 1) := by decide +kernel
theorem dX11_tieEvents_39 : decode cX11_tieEvents 39 = .ok (.iload_n 3, 1) := by decide +kernel
theorem dX11_tieEvents_40 : decode cX11_tieEvents 40 = .ok (.invokevirtual 185, 3) := by decide +kernel
theorem dX11_tieEvents_43 : decode cX11_tieEvents 43 = .ok (.ireturn, 1) := by decide +kernel
def f_X11_tieEvents (F P : Nat) (S : xSt) (v0 : Nat) (v1 : Int32) (v2 : Int32) (v3 : Int32) (D : xDt) : Option (Int32 × xDt) :=
  (f_X11_isAgent F P S v1 D).bind fun q1 => if q1.1 = 0 then (some ((-1), q1.2)) else ((f_X1_has F P S (xr S v0 2) v2 q1.2).bind fun q2 => if q2.1 = 0 then (some ((-1), q2.2)) else ((f_X1_has F P S (xr S v0 2) v3 q2.2).bind fun q3 => if q3.1 = 0 then (some ((-1), q3.2)) else ((f_X1_merge F P S (xr S v0 2) (v1 - 1) v2 v3 q3.2).bind fun q4 => some (q4.1, q4.2))))
set_option maxHeartbeats 4000000 in
theorem S_X11_tieEvents {F P : Nat} {S : xSt} (hS : xWF S) {v0 : Nat} {v1 : Int32} {v2 : Int32} {v3 : Int32} {D : xDt} {r : Int32 × xDt} (k0 : xK S v0 11) (h : f_X11_tieEvents F P S v0 v1 v2 v3 D = some r) : xSp md_X11_tieEvents (2, 0, 0) [.ref v0, .int v1, .int v2, .int v3] (S, D) (xQi S r) := by
  unfold f_X11_tieEvents at h
  refine xEntry (by decide) (Nat.le_of_ble_eq_true rfl) ?_
  refine x_lv (lv' := [(0, .ref v0), (1, .int v1), (2, .int v2), (3, .int v3)]) [0, 1, 2, 3] rfl ?_
  refine x_iload_n dX11_tieEvents_0 1 rfl ?_
  refine xbnd_e h (fun q1 e1 h => ?_)
  refine y_callSi (As := [.int v1]) (q := q1) cs_RX11_102 dX11_tieEvents_1 rfl (Nat.le_of_ble_eq_true rfl) (by omega) (S_X11_isAgent hS e1) ?_
  refine x_if_eq 29 dX11_tieEvents_4 (by decide) (fun c => ?_) (fun c => ?_)
  · rw [if_pos c] at h
    refine x_iconst (-1) dX11_tieEvents_29 (by decide) ?_
    obtain rfl := Option.some.inj h
    exact y_iret rfl dX11_tieEvents_30
  · rw [if_neg c] at h
    refine x_aload_n dX11_tieEvents_7 0 rfl ?_
    refine y_getr (kd := 1) hS fl_RX11_26 dX11_tieEvents_8 rfl k0 ?_
    refine x_iload_n dX11_tieEvents_11 2 rfl ?_
    refine xbnd_e h (fun q2 e2 h => ?_)
    refine y_callVi (As := [.int v2]) (q := q2) cv_RX11_184 dX11_tieEvents_12 ((hS.f k0 2 1 rfl).2) rfl (Nat.le_of_ble_eq_true rfl) (by omega) (S_X1_has hS ((hS.f k0 2 1 rfl).2) e2) ?_
    refine x_if_eq 29 dX11_tieEvents_15 (by decide) (fun c => ?_) (fun c => ?_)
    · rw [if_pos c] at h
      refine x_iconst (-1) dX11_tieEvents_29 (by decide) ?_
      obtain rfl := Option.some.inj h
      exact y_iret rfl dX11_tieEvents_30
    · rw [if_neg c] at h
      refine x_aload_n dX11_tieEvents_18 0 rfl ?_
      refine y_getr (kd := 1) hS fl_RX11_26 dX11_tieEvents_19 rfl k0 ?_
      refine x_iload_n dX11_tieEvents_22 3 rfl ?_
      refine xbnd_e h (fun q3 e3 h => ?_)
      refine y_callVi (As := [.int v3]) (q := q3) cv_RX11_184 dX11_tieEvents_23 ((hS.f k0 2 1 rfl).2) rfl (Nat.le_of_ble_eq_true rfl) (by omega) (S_X1_has hS ((hS.f k0 2 1 rfl).2) e3) ?_
      refine x_if_ne 31 dX11_tieEvents_26 (by decide) (fun c => ?_) (fun c => ?_)
      · rw [if_neg c] at h
        refine x_aload_n dX11_tieEvents_31 0 rfl ?_
        refine y_getr (kd := 1) hS fl_RX11_26 dX11_tieEvents_32 rfl k0 ?_
        refine x_iload_n dX11_tieEvents_35 1 rfl ?_
        refine x_iconst 1 dX11_tieEvents_36 (by decide) ?_
        refine x_isub dX11_tieEvents_37 ?_
        refine x_iload_n dX11_tieEvents_38 2 rfl ?_
        refine x_iload_n dX11_tieEvents_39 3 rfl ?_
        refine xbnd_e h (fun q4 e4 h => ?_)
        refine y_callVi (As := [.int (v1 - 1), .int v2, .int v3]) (q := q4) cv_RX11_185 dX11_tieEvents_40 ((hS.f k0 2 1 rfl).2) rfl (Nat.le_of_ble_eq_true rfl) (by omega) (S_X1_merge hS ((hS.f k0 2 1 rfl).2) e4) ?_
        obtain rfl := Option.some.inj h
        exact y_iret rfl dX11_tieEvents_43
      · rw [if_pos c] at h
        refine x_iconst (-1) dX11_tieEvents_29 (by decide) ?_
        obtain rfl := Option.some.inj h
        exact y_iret rfl dX11_tieEvents_30

theorem dX11_change_0 : decode cX11_change 0 = .ok (.aload_n 0, 1) := by decide +kernel
theorem dX11_change_1 : decode cX11_change 1 = .ok (.getfield 26, 3) := by decide +kernel
theorem dX11_change_4 : decode cX11_change 4 = .ok (.iload_n 1, 1) := by decide +kernel
theorem dX11_change_5 : decode cX11_change 5 = .ok (.invokevirtual 184, 3) := by decide +kernel
theorem dX11_change_8 : decode cX11_change 8 = .ok (.ifCond .eq 23, 3) := by decide +kernel
theorem dX11_change_11 : decode cX11_change 11 = .ok (.iload_n 2, 1) := by decide +kernel
theorem dX11_change_12 : decode cX11_change 12 = .ok (.invokestatic 116, 3) := by decide +kernel
theorem dX11_change_15 : decode cX11_change 15 = .ok (.ifCond .eq 16, 3) := by decide +kernel
theorem dX11_change_18 : decode cX11_change 18 = .ok (.aload_n 0, 1) := by decide +kernel
theorem dX11_change_19 : decode cX11_change 19 = .ok (.getfield 42, 3) := by decide +kernel
theorem dX11_change_22 : decode cX11_change 22 = .ok (.getfield 186, 3) := by decide +kernel
theorem dX11_change_25 : decode cX11_change 25 = .ok (.sipush 150, 3) := by decide +kernel
theorem dX11_change_28 : decode cX11_change 28 = .ok (.if_icmp .le 5, 3) := by decide +kernel
theorem dX11_change_31 : decode cX11_change 31 = .ok (.iconst (-1), 1) := by decide +kernel
theorem dX11_change_32 : decode cX11_change 32 = .ok (.ireturn, 1) := by decide +kernel
theorem dX11_change_33 : decode cX11_change 33 = .ok (.aload_n 0, 1) := by decide +kernel
theorem dX11_change_34 : decode cX11_change 34 = .ok (.getfield 26, 3) := by decide +kernel
theorem dX11_change_37 : decode cX11_change 37 = .ok (.iload_n 1, 1) := by decide +kernel
theorem dX11_change_38 : decode cX11_change 38 = .ok (.iload_n 2, 1) := by decide +kernel
theorem dX11_change_39 : decode cX11_change 39 = .ok (.aload_n 0, 1) := by decide +kernel
theorem dX11_change_40 : decode cX11_change 40 = .ok (.getfield 42, 3) := by decide +kernel
theorem dX11_change_43 : decode cX11_change 43 = .ok (.invokevirtual 187, 3) := by decide +kernel
theorem dX11_change_46 : decode cX11_change 46 = .ok (.iconst 0, 1) := by decide +kernel
theorem dX11_change_47 : decode cX11_change 47 = .ok (.ireturn, 1) := by decide +kernel
def f_X11_change (F P : Nat) (S : xSt) (v0 : Nat) (v1 : Int32) (v2 : Int32) (D : xDt) : Option (Int32 × xDt) :=
  (f_X1_has F P S (xr S v0 2) v1 D).bind fun q1 => if q1.1 = 0 then (some ((-1), q1.2)) else ((f_X11_isAtom F P S v2 q1.2).bind fun q2 => if q2.1 = 0 then (some ((-1), q2.2)) else (if (q2.2.1 (xr S v0 4) 1) ≤ 150 then ((f_X1_setChange F P S (xr S v0 2) v1 v2 (xr S v0 4) q2.2).bind fun q3 => some (0, q3)) else (some ((-1), q2.2))))
set_option maxHeartbeats 4000000 in
theorem S_X11_change {F P : Nat} {S : xSt} (hS : xWF S) {v0 : Nat} {v1 : Int32} {v2 : Int32} {D : xDt} {r : Int32 × xDt} (k0 : xK S v0 11) (h : f_X11_change F P S v0 v1 v2 D = some r) : xSp md_X11_change (4, 0, 0) [.ref v0, .int v1, .int v2] (S, D) (xQi S r) := by
  unfold f_X11_change at h
  refine xEntry (by decide) (Nat.le_of_ble_eq_true rfl) ?_
  refine x_lv (lv' := [(0, .ref v0), (1, .int v1), (2, .int v2)]) [0, 1, 2] rfl ?_
  refine x_aload_n dX11_change_0 0 rfl ?_
  refine y_getr (kd := 1) hS fl_RX11_26 dX11_change_1 rfl k0 ?_
  refine x_iload_n dX11_change_4 1 rfl ?_
  refine xbnd_e h (fun q1 e1 h => ?_)
  refine y_callVi (As := [.int v1]) (q := q1) cv_RX11_184 dX11_change_5 ((hS.f k0 2 1 rfl).2) rfl (Nat.le_of_ble_eq_true rfl) (by omega) (S_X1_has hS ((hS.f k0 2 1 rfl).2) e1) ?_
  refine x_if_eq 31 dX11_change_8 (by decide) (fun c => ?_) (fun c => ?_)
  · rw [if_pos c] at h
    refine x_iconst (-1) dX11_change_31 (by decide) ?_
    obtain rfl := Option.some.inj h
    exact y_iret rfl dX11_change_32
  · rw [if_neg c] at h
    refine x_iload_n dX11_change_11 2 rfl ?_
    refine xbnd_e h (fun q2 e2 h => ?_)
    refine y_callSi (As := [.int v2]) (q := q2) cs_RX11_116 dX11_change_12 rfl (Nat.le_of_ble_eq_true rfl) (by omega) (S_X11_isAtom hS e2) ?_
    refine x_if_eq 31 dX11_change_15 (by decide) (fun c => ?_) (fun c => ?_)
    · rw [if_pos c] at h
      refine x_iconst (-1) dX11_change_31 (by decide) ?_
      obtain rfl := Option.some.inj h
      exact y_iret rfl dX11_change_32
    · rw [if_neg c] at h
      refine x_aload_n dX11_change_18 0 rfl ?_
      refine y_getr (kd := 2) hS fl_RX11_42 dX11_change_19 rfl k0 ?_
      refine y_geti fl_RX11_186 dX11_change_22 rfl ((hS.f k0 4 2 rfl).2) ?_
      refine x_sipush 150 dX11_change_25 (by decide) ?_
      refine x_icmp_le 33 dX11_change_28 (by decide) (fun c => ?_) (fun c => ?_)
      · rw [if_pos c] at h
        refine x_aload_n dX11_change_33 0 rfl ?_
        refine y_getr (kd := 1) hS fl_RX11_26 dX11_change_34 rfl k0 ?_
        refine x_iload_n dX11_change_37 1 rfl ?_
        refine x_iload_n dX11_change_38 2 rfl ?_
        refine x_aload_n dX11_change_39 0 rfl ?_
        refine y_getr (kd := 2) hS fl_RX11_42 dX11_change_40 rfl k0 ?_
        refine xbnd_e h (fun q3 e3 h => ?_)
        refine y_callVv (As := [.int v1, .int v2, .ref (xr S v0 4)]) (q := q3) cv_RX11_187 dX11_change_43 ((hS.f k0 2 1 rfl).2) rfl (Nat.le_of_ble_eq_true rfl) (by omega) (S_X1_setChange hS ((hS.f k0 2 1 rfl).2) ((hS.f k0 4 2 rfl).2) e3) ?_
        refine x_iconst 0 dX11_change_46 (by decide) ?_
        obtain rfl := Option.some.inj h
        exact y_iret rfl dX11_change_47
      · rw [if_neg c] at h
        refine x_iconst (-1) dX11_change_31 (by decide) ?_
        obtain rfl := Option.some.inj h
        exact y_iret rfl dX11_change_32

theorem dX11_noEvents_0 : decode cX11_noEvents 0 = .ok (.aload_n 0, 1) := by decide +kernel
theorem dX11_noEvents_1 : decode cX11_noEvents 1 = .ok (.getfield 26, 3) := by decide +kernel
theorem dX11_noEvents_4 : decode cX11_noEvents 4 = .ok (.getfield 191, 3) := by decide +kernel
theorem dX11_noEvents_7 : decode cX11_noEvents 7 = .ok (.istore_n 1, 1) := by decide +kernel
theorem dX11_noEvents_8 : decode cX11_noEvents 8 = .ok (.aload_n 0, 1) := by decide +kernel
theorem dX11_noEvents_9 : decode cX11_noEvents 9 = .ok (.getfield 26, 3) := by decide +kernel
theorem dX11_noEvents_12 : decode cX11_noEvents 12 = .ok (.iconst 0, 1) := by decide +kernel
theorem dX11_noEvents_13 : decode cX11_noEvents 13 = .ok (.putfield 191, 3) := by decide +kernel
theorem dX11_noEvents_16 : decode cX11_noEvents 16 = .ok (.iload_n 1, 1) := by decide +kernel
theorem dX11_noEvents_17 : decode cX11_noEvents 17 = .ok (.ireturn, 1) := by decide +kernel
def f_X11_noEvents (F P : Nat) (S : xSt) (v0 : Nat) (D : xDt) : Option (Int32 × xDt) :=
  xlet (D.1 (xr S v0 2) 0) fun v1_1 => xlet (xup D.1 (xr S v0 2) 0 0, D.2) fun D2 => some (v1_1, D2)
set_option maxHeartbeats 4000000 in
theorem S_X11_noEvents {F P : Nat} {S : xSt} (hS : xWF S) {v0 : Nat} {D : xDt} {r : Int32 × xDt} (k0 : xK S v0 11) (h : f_X11_noEvents F P S v0 D = some r) : xSp md_X11_noEvents (0, 0, 0) [.ref v0] (S, D) (xQi S r) := by
  unfold f_X11_noEvents at h
  refine xEntry (by decide) (Nat.le_of_ble_eq_true rfl) ?_
  refine x_lv (lv' := [(0, .ref v0)]) [0] rfl ?_
  refine x_aload_n dX11_noEvents_0 0 rfl ?_
  refine y_getr (kd := 1) hS fl_RX11_26 dX11_noEvents_1 rfl k0 ?_
  refine y_geti fl_RX11_191 dX11_noEvents_4 rfl ((hS.f k0 2 1 rfl).2) ?_
  refine xlet_e h (fun v1_1 ev1_1 h => ?_)
  refine y_istore_n v1_1 ev1_1 [(1, .int v1_1), (0, .ref v0)] dX11_noEvents_7 (by show _ < 2; decide) rfl ?_
  refine x_aload_n dX11_noEvents_8 1 rfl ?_
  refine y_getr (kd := 1) hS fl_RX11_26 dX11_noEvents_9 rfl k0 ?_
  refine x_iconst 0 dX11_noEvents_12 (by decide) ?_
  refine xlet_e h (fun D2 eD2 h => ?_)
  refine y_puti fp_RX11_191 dX11_noEvents_13 rfl ((hS.f k0 2 1 rfl).2) eD2 ?_
  refine x_iload_n dX11_noEvents_16 0 rfl ?_
  obtain rfl := Option.some.inj h
  exact y_iret rfl dX11_noEvents_17

theorem dX11_happen_0 : decode cX11_happen 0 = .ok (.aload_n 0, 1) := by decide +kernel
theorem dX11_happen_1 : decode cX11_happen 1 = .ok (.getfield 26, 3) := by decide +kernel
theorem dX11_happen_4 : decode cX11_happen 4 = .ok (.aload_n 0, 1) := by decide +kernel
theorem dX11_happen_5 : decode cX11_happen 5 = .ok (.getfield 10, 3) := by decide +kernel
theorem dX11_happen_8 : decode cX11_happen 8 = .ok (.aload_n 0, 1) := by decide +kernel
theorem dX11_happen_9 : decode cX11_happen 9 = .ok (.getfield 56, 3) := by decide +kernel
theorem dX11_happen_12 : decode cX11_happen 12 = .ok (.invokevirtual 192, 3) := by decide +kernel
theorem dX11_happen_15 : decode cX11_happen 15 = .ok (.istore_n 1, 1) := by decide +kernel
theorem dX11_happen_16 : decode cX11_happen 16 = .ok (.iload_n 1, 1) := by decide +kernel
theorem dX11_happen_17 : decode cX11_happen 17 = .ok (.bipush 64, 2) := by decide +kernel
theorem dX11_happen_19 : decode cX11_happen 19 = .ok (.if_icmp .le 6, 3) := by decide +kernel
theorem dX11_happen_22 : decode cX11_happen 22 = .ok (.bipush (-3), 2) := by decide +kernel
theorem dX11_happen_24 : decode cX11_happen 24 = .ok (.ireturn, 1) := by decide +kernel
theorem dX11_happen_25 : decode cX11_happen 25 = .ok (.iload_n 1, 1) := by decide +kernel
theorem dX11_happen_26 : decode cX11_happen 26 = .ok (.ifCond .le 55, 3) := by decide +kernel
theorem dX11_happen_29 : decode cX11_happen 29 = .ok (.aload_n 0, 1) := by decide +kernel
theorem dX11_happen_30 : decode cX11_happen 30 = .ok (.invokevirtual 171, 3) := by decide +kernel
theorem dX11_happen_33 : decode cX11_happen 33 = .ok (.astore_n 2, 1) := by decide +kernel
theorem dX11_happen_34 : decode cX11_happen 34 = .ok (.aload_n 0, 1) := by decide +kernel
theorem dX11_happen_35 : decode cX11_happen 35 = .ok (.getfield 10, 3) := by decide +kernel
theorem dX11_happen_38 : decode cX11_happen 38 = .ok (.aload_n 2, 1) := by decide +kernel
theorem dX11_happen_39 : decode cX11_happen 39 = .ok (.aload_n 2, 1) := by decide +kernel
theorem dX11_happen_40 : decode cX11_happen 40 = .ok (.getfield 175, 3) := by decide +kernel
theorem dX11_happen_43 : decode cX11_happen 43 = .ok (.aload_n 0, 1) := by decide +kernel
theorem dX11_happen_44 : decode cX11_happen 44 = .ok (.getfield 26, 3) := by decide +kernel
theorem dX11_happen_47 : decode cX11_happen 47 = .ok (.getfield 196, 3) := by decide +kernel
theorem dX11_happen_50 : decode cX11_happen 50 = .ok (.iload_n 1, 1) := by decide +kernel
theorem dX11_happen_51 : decode cX11_happen 51 = .ok (.invokevirtual 178, 3) := by decide +kernel
theorem dX11_happen_54 : decode cX11_happen 54 = .ok (.aload_n 0, 1) := by decide +kernel
theorem dX11_happen_55 : decode cX11_happen 55 = .ok (.getfield 26, 3) := by decide +kernel
theorem dX11_happen_58 : decode cX11_happen 58 = .ok (.aload_n 0, 1) := by decide +kernel
theorem dX11_happen_59 : decode cX11_happen 59 = .ok (.getfield 10, 3) := by decide +kernel
theorem dX11_happen_62 : decode cX11_happen 62 = .ok (.invokevirtual 199, 3) := by decide +kernel
theorem dX11_happen_65 : decode cX11_happen 65 = .ok (.aload_n 0, 1) := by decide +kernel
theorem dX11_happen_66 : decode cX11_happen 66 = .ok (.getfield 26, 3) := by decide +kernel
theorem dX11_happen_69 : decode cX11_happen 69 = .ok (.aload_n 0, 1) := by decide +kernel
theorem dX11_happen_70 : decode cX11_happen 70 = .ok (.getfield 10, 3) := by decide +kernel
theorem dX11_happen_73 : decode cX11_happen 73 = .ok (.aload_n 2, 1) := by decide +kernel
theorem dX11_happen_74 : decode cX11_happen 74 = .ok (.aload_n 0, 1) := by decide +kernel
theorem dX11_happen_75 : decode cX11_happen 75 = .ok (.getfield 56, 3) := by decide +kernel
theorem dX11_happen_78 : decode cX11_happen 78 = .ok (.invokevirtual 203, 3) := by decide +kernel
theorem dX11_happen_81 : decode cX11_happen 81 = .ok (.iload_n 1, 1) := by decide +kernel
theorem dX11_happen_82 : decode cX11_happen 82 = .ok (.ireturn, 1) := by decide +kernel
def f_X11_happen (F P : Nat) (S : xSt) (v0 : Nat) (D : xDt) : Option (Int32 × xDt) :=
  (f_X1_pair F P S (xr S v0 2) (xr S v0 0) (xr S v0 6) D).bind fun q1 => if q1.1 ≤ 64 then (if q1.1 ≤ 0 then (some (q1.1, q1.2)) else ((f_X11_keptWorlds F P S v0 q1.2).bind fun q2 => xgrd (xkb S q2.1 10) ((f_X10_take F P S (xr S v0 0) q2.1 (xr S q2.1 2) (xr S (xr S v0 2) 4) q1.1 q2.2).bind fun q4 => (f_X1_narrowCells F P S (xr S v0 2) (xr S v0 0) q4).bind fun q5 => (f_X1_changeAtoms F P S (xr S v0 2) (xr S v0 0) q2.1 (xr S v0 6) q5).bind fun q6 => some (q1.1, q6)))) else (some ((-3), q1.2))
set_option maxHeartbeats 4000000 in
theorem S_X11_happen {F P : Nat} {S : xSt} (hS : xWF S) {v0 : Nat} {D : xDt} {r : Int32 × xDt} (k0 : xK S v0 11) (h : f_X11_happen F P S v0 D = some r) : xSp md_X11_happen (6, 0, 0) [.ref v0] (S, D) (xQi S r) := by
  unfold f_X11_happen at h
  refine xEntry (by decide) (Nat.le_of_ble_eq_true rfl) ?_
  refine x_lv (lv' := [(0, .ref v0)]) [0] rfl ?_
  refine x_aload_n dX11_happen_0 0 rfl ?_
  refine y_getr (kd := 1) hS fl_RX11_26 dX11_happen_1 rfl k0 ?_
  refine x_aload_n dX11_happen_4 0 rfl ?_
  refine y_getr (kd := 10) hS fl_RX11_10 dX11_happen_5 rfl k0 ?_
  refine x_aload_n dX11_happen_8 0 rfl ?_
  refine y_getr (kd := 3) hS fl_RX11_56 dX11_happen_9 rfl k0 ?_
  refine xbnd_e h (fun q1 e1 h => ?_)
  refine y_callVi (As := [.ref (xr S v0 0), .ref (xr S v0 6)]) (q := q1) cv_RX11_192 dX11_happen_12 ((hS.f k0 2 1 rfl).2) rfl (Nat.le_of_ble_eq_true rfl) (by omega) (S_X1_pair hS ((hS.f k0 2 1 rfl).2) ((hS.f k0 0 10 rfl).2) ((hS.f k0 6 3 rfl).2) e1) ?_
  refine y_istore_n q1.1 rfl [(1, .int q1.1), (0, .ref v0)] dX11_happen_15 (by show _ < 3; decide) rfl ?_
  refine x_iload_n dX11_happen_16 0 rfl ?_
  refine x_bipush 64 dX11_happen_17 (by decide) ?_
  refine x_icmp_le 25 dX11_happen_19 (by decide) (fun c => ?_) (fun c => ?_)
  · rw [if_pos c] at h
    refine x_iload_n dX11_happen_25 0 rfl ?_
    refine x_if_le 81 dX11_happen_26 (by decide) (fun c => ?_) (fun c => ?_)
    · rw [if_pos c] at h
      refine x_iload_n dX11_happen_81 0 rfl ?_
      obtain rfl := Option.some.inj h
      exact y_iret rfl dX11_happen_82
    · rw [if_neg c] at h
      refine x_aload_n dX11_happen_29 1 rfl ?_
      refine xbnd_e h (fun q2 e2 h => ?_)
      refine y_callVr (As := []) (q := q2) cv_RX11_171 dX11_happen_30 k0 rfl (Nat.le_of_ble_eq_true rfl) (by omega) (S_X11_keptWorlds hS k0 e2) ?_
      refine xgrd_e h (fun g3 h => ?_)
      refine x_astore_n [(2, .ref q2.1), (1, .int q1.1), (0, .ref v0)] dX11_happen_33 (by show _ < 3; decide) rfl ?_
      refine x_aload_n dX11_happen_34 2 rfl ?_
      refine y_getr (kd := 10) hS fl_RX11_10 dX11_happen_35 rfl k0 ?_
      refine x_aload_n dX11_happen_38 0 rfl ?_
      refine x_aload_n dX11_happen_39 0 rfl ?_
      refine y_getr (kd := 101) hS fl_RX11_175 dX11_happen_40 rfl (xkb_K g3) ?_
      refine x_aload_n dX11_happen_43 2 rfl ?_
      refine y_getr (kd := 1) hS fl_RX11_26 dX11_happen_44 rfl k0 ?_
      refine y_getr (kd := 100) hS fl_RX11_196 dX11_happen_47 rfl ((hS.f k0 2 1 rfl).2) ?_
      refine x_iload_n dX11_happen_50 1 rfl ?_
      refine xbnd_e h (fun q4 e4 h => ?_)
      refine y_callVv (As := [.ref q2.1, .ref (xr S q2.1 2), .ref (xr S (xr S v0 2) 4), .int q1.1]) (q := q4) cv_RX11_178 dX11_happen_51 ((hS.f k0 0 10 rfl).2) rfl (Nat.le_of_ble_eq_true rfl) (by omega) (S_X10_take hS ((hS.f k0 0 10 rfl).2) (xkb_K g3) ((hS.f (xkb_K g3) 2 101 rfl).2) ((hS.f ((hS.f k0 2 1 rfl).2) 4 100 rfl).2) e4) ?_
      refine x_aload_n dX11_happen_54 2 rfl ?_
      refine y_getr (kd := 1) hS fl_RX11_26 dX11_happen_55 rfl k0 ?_
      refine x_aload_n dX11_happen_58 2 rfl ?_
      refine y_getr (kd := 10) hS fl_RX11_10 dX11_happen_59 rfl k0 ?_
      refine xbnd_e h (fun q5 e5 h => ?_)
      refine y_callVv (As := [.ref (xr S v0 0)]) (q := q5) cv_RX11_199 dX11_happen_62 ((hS.f k0 2 1 rfl).2) rfl (Nat.le_of_ble_eq_true rfl) (by omega) (S_X1_narrowCells hS ((hS.f k0 2 1 rfl).2) ((hS.f k0 0 10 rfl).2) e5) ?_
      refine x_aload_n dX11_happen_65 2 rfl ?_
      refine y_getr (kd := 1) hS fl_RX11_26 dX11_happen_66 rfl k0 ?_
      refine x_aload_n dX11_happen_69 2 rfl ?_
      refine y_getr (kd := 10) hS fl_RX11_10 dX11_happen_70 rfl k0 ?_
      refine x_aload_n dX11_happen_73 0 rfl ?_
      refine x_aload_n dX11_happen_74 2 rfl ?_
      refine y_getr (kd := 3) hS fl_RX11_56 dX11_happen_75 rfl k0 ?_
      refine xbnd_e h (fun q6 e6 h => ?_)
      refine y_callVv (As := [.ref (xr S v0 0), .ref q2.1, .ref (xr S v0 6)]) (q := q6) cv_RX11_203 dX11_happen_78 ((hS.f k0 2 1 rfl).2) rfl (Nat.le_of_ble_eq_true rfl) (by omega) (S_X1_changeAtoms hS ((hS.f k0 2 1 rfl).2) ((hS.f k0 0 10 rfl).2) (xkb_K g3) ((hS.f k0 6 3 rfl).2) e6) ?_
      refine x_iload_n dX11_happen_81 1 rfl ?_
      obtain rfl := Option.some.inj h
      exact y_iret rfl dX11_happen_82
  · rw [if_neg c] at h
    refine x_bipush (-3) dX11_happen_22 (by decide) ?_
    obtain rfl := Option.some.inj h
    exact y_iret rfl dX11_happen_24

theorem dX11_back_0 : decode cX11_back 0 = .ok (.aload_n 0, 1) := by decide +kernel
theorem dX11_back_1 : decode cX11_back 1 = .ok (.getfield 19, 3) := by decide +kernel
theorem dX11_back_4 : decode cX11_back 4 = .ok (.getfield 207, 3) := by decide +kernel
theorem dX11_back_7 : decode cX11_back 7 = .ok (.ifCond .ne 5, 3) := by decide +kernel
theorem dX11_back_10 : decode cX11_back 10 = .ok (.iconst (-1), 1) := by decide +kernel
theorem dX11_back_11 : decode cX11_back 11 = .ok (.ireturn, 1) := by decide +kernel
theorem dX11_back_12 : decode cX11_back 12 = .ok (.aload_n 0, 1) := by decide +kernel
theorem dX11_back_13 : decode cX11_back 13 = .ok (.getfield 19, 3) := by decide +kernel
theorem dX11_back_16 : decode cX11_back 16 = .ok (.aload_n 0, 1) := by decide +kernel
theorem dX11_back_17 : decode cX11_back 17 = .ok (.getfield 10, 3) := by decide +kernel
theorem dX11_back_20 : decode cX11_back 20 = .ok (.invokevirtual 208, 3) := by decide +kernel
theorem dX11_back_23 : decode cX11_back 23 = .ok (.aload_n 0, 1) := by decide +kernel
theorem dX11_back_24 : decode cX11_back 24 = .ok (.iconst 0, 1) := by decide +kernel
theorem dX11_back_25 : decode cX11_back 25 = .ok (.putfield 211, 3) := by decide +kernel
theorem dX11_back_28 : decode cX11_back 28 = .ok (.aload_n 0, 1) := by decide +kernel
theorem dX11_back_29 : decode cX11_back 29 = .ok (.getfield 10, 3) := by decide +kernel
theorem dX11_back_32 : decode cX11_back 32 = .ok (.getfield 92, 3) := by decide +kernel
theorem dX11_back_35 : decode cX11_back 35 = .ok (.ireturn, 1) := by decide +kernel
def f_X11_back (F P : Nat) (S : xSt) (v0 : Nat) (D : xDt) : Option (Int32 × xDt) :=
  if (D.1 (xr S v0 1) 2) = 0 then (some ((-1), D)) else ((f_X5_restore F P S (xr S v0 1) (xr S v0 0) D).bind fun q1 => xlet (xup q1.1 v0 13 0, q1.2) fun D2 => some (D2.1 (xr S v0 0) 0, D2))
set_option maxHeartbeats 4000000 in
theorem S_X11_back {F P : Nat} {S : xSt} (hS : xWF S) {v0 : Nat} {D : xDt} {r : Int32 × xDt} (k0 : xK S v0 11) (h : f_X11_back F P S v0 D = some r) : xSp md_X11_back (3, 0, 0) [.ref v0] (S, D) (xQi S r) := by
  unfold f_X11_back at h
  refine xEntry (by decide) (Nat.le_of_ble_eq_true rfl) ?_
  refine x_lv (lv' := [(0, .ref v0)]) [0] rfl ?_
  refine x_aload_n dX11_back_0 0 rfl ?_
  refine y_getr (kd := 5) hS fl_RX11_19 dX11_back_1 rfl k0 ?_
  refine y_geti fl_RX11_207 dX11_back_4 rfl ((hS.f k0 1 5 rfl).2) ?_
  refine x_if_ne 12 dX11_back_7 (by decide) (fun c => ?_) (fun c => ?_)
  · rw [if_neg c] at h
    refine x_aload_n dX11_back_12 0 rfl ?_
    refine y_getr (kd := 5) hS fl_RX11_19 dX11_back_13 rfl k0 ?_
    refine x_aload_n dX11_back_16 0 rfl ?_
    refine y_getr (kd := 10) hS fl_RX11_10 dX11_back_17 rfl k0 ?_
    refine xbnd_e h (fun q1 e1 h => ?_)
    refine y_callVv (As := [.ref (xr S v0 0)]) (q := q1) cv_RX11_208 dX11_back_20 ((hS.f k0 1 5 rfl).2) rfl (Nat.le_of_ble_eq_true rfl) (by omega) (S_X5_restore hS ((hS.f k0 1 5 rfl).2) ((hS.f k0 0 10 rfl).2) e1) ?_
    refine x_aload_n dX11_back_23 0 rfl ?_
    refine x_iconst 0 dX11_back_24 (by decide) ?_
    refine xlet_e h (fun D2 eD2 h => ?_)
    refine y_putz rfl fp_RX11_211 dX11_back_25 rfl k0 eD2 ?_
    refine x_aload_n dX11_back_28 0 rfl ?_
    refine y_getr (kd := 10) hS fl_RX11_10 dX11_back_29 rfl k0 ?_
    refine y_geti fl_RX11_92 dX11_back_32 rfl ((hS.f k0 0 10 rfl).2) ?_
    obtain rfl := Option.some.inj h
    exact y_iret rfl dX11_back_35
  · rw [if_pos c] at h
    refine x_iconst (-1) dX11_back_10 (by decide) ?_
    obtain rfl := Option.some.inj h
    exact y_iret rfl dX11_back_11

theorem dX11_contract_0 : decode cX11_contract 0 = .ok (.aload_n 0, 1) := by decide +kernel
theorem dX11_contract_1 : decode cX11_contract 1 = .ok (.getfield 63, 3) := by decide +kernel
theorem dX11_contract_4 : decode cX11_contract 4 = .ok (.aload_n 0, 1) := by decide +kernel
theorem dX11_contract_5 : decode cX11_contract 5 = .ok (.getfield 10, 3) := by decide +kernel
theorem dX11_contract_8 : decode cX11_contract 8 = .ok (.invokevirtual 215, 3) := by decide +kernel
theorem dX11_contract_11 : decode cX11_contract 11 = .ok (.aload_n 0, 1) := by decide +kernel
theorem dX11_contract_12 : decode cX11_contract 12 = .ok (.aload_n 0, 1) := by decide +kernel
theorem dX11_contract_13 : decode cX11_contract 13 = .ok (.getfield 63, 3) := by decide +kernel
theorem dX11_contract_16 : decode cX11_contract 16 = .ok (.aload_n 0, 1) := by decide +kernel
theorem dX11_contract_17 : decode cX11_contract 17 = .ok (.getfield 10, 3) := by decide +kernel
theorem dX11_contract_20 : decode cX11_contract 20 = .ok (.invokevirtual 218, 3) := by decide +kernel
theorem dX11_contract_23 : decode cX11_contract 23 = .ok (.invokevirtual 168, 3) := by decide +kernel
theorem dX11_contract_26 : decode cX11_contract 26 = .ok (.istore_n 1, 1) := by decide +kernel
theorem dX11_contract_27 : decode cX11_contract 27 = .ok (.iload_n 1, 1) := by decide +kernel
theorem dX11_contract_28 : decode cX11_contract 28 = .ok (.aload_n 0, 1) := by decide +kernel
theorem dX11_contract_29 : decode cX11_contract 29 = .ok (.getfield 10, 3) := by decide +kernel
theorem dX11_contract_32 : decode cX11_contract 32 = .ok (.getfield 92, 3) := by decide +kernel
theorem dX11_contract_35 : decode cX11_contract 35 = .ok (.if_icmp .ge 28, 3) := by decide +kernel
theorem dX11_contract_38 : decode cX11_contract 38 = .ok (.aload_n 0, 1) := by decide +kernel
theorem dX11_contract_39 : decode cX11_contract 39 = .ok (.invokevirtual 171, 3) := by decide +kernel
theorem dX11_contract_42 : decode cX11_contract 42 = .ok (.astore_n 2, 1) := by decide +kernel
theorem dX11_contract_43 : decode cX11_contract 43 = .ok (.aload_n 0, 1) := by decide +kernel
theorem dX11_contract_44 : decode cX11_contract 44 = .ok (.getfield 10, 3) := by decide +kernel
theorem dX11_contract_47 : decode cX11_contract 47 = .ok (.aload_n 2, 1) := by decide +kernel
theorem dX11_contract_48 : decode cX11_contract 48 = .ok (.aload_n 0, 1) := by decide +kernel
theorem dX11_contract_49 : decode cX11_contract 49 = .ok (.getfield 63, 3) := by decide +kernel
theorem dX11_contract_52 : decode cX11_contract 52 = .ok (.getfield 222, 3) := by decide +kernel
theorem dX11_contract_55 : decode cX11_contract 55 = .ok (.aload_n 0, 1) := by decide +kernel
theorem dX11_contract_56 : decode cX11_contract 56 = .ok (.getfield 81, 3) := by decide +kernel
theorem dX11_contract_59 : decode cX11_contract 59 = .ok (.iload_n 1, 1) := by decide +kernel
theorem dX11_contract_60 : decode cX11_contract 60 = .ok (.invokevirtual 178, 3) := by decide +kernel
theorem dX11_contract_63 : decode cX11_contract 63 = .ok (.iload_n 1, 1) := by decide +kernel
theorem dX11_contract_64 : decode cX11_contract 64 = .ok (.ireturn, 1) := by decide +kernel
def f_X11_contract (F P : Nat) (S : xSt) (v0 : Nat) (D : xDt) : Option (Int32 × xDt) :=
  (f_X4_settle F P S (xr S v0 7) (xr S v0 0) D).bind fun q1 => (f_X4_firsts F P S (xr S v0 7) (xr S v0 0) q1).bind fun q2 => (f_X11_choose F P S v0 q2.1 q2.2).bind fun q3 => if (q3.2.1 (xr S v0 0) 0) ≤ q3.1 then (some (q3.1, q3.2)) else ((f_X11_keptWorlds F P S v0 q3.2).bind fun q4 => xgrd (xkb S q4.1 10) ((f_X10_take F P S (xr S v0 0) q4.1 (xr S (xr S v0 7) 1) (xr S v0 10) q3.1 q4.2).bind fun q6 => some (q3.1, q6)))
set_option maxHeartbeats 4000000 in
theorem S_X11_contract {F P : Nat} {S : xSt} (hS : xWF S) {v0 : Nat} {D : xDt} {r : Int32 × xDt} (k0 : xK S v0 11) (h : f_X11_contract F P S v0 D = some r) : xSp md_X11_contract (5, 0, 0) [.ref v0] (S, D) (xQi S r) := by
  unfold f_X11_contract at h
  refine xEntry (by decide) (Nat.le_of_ble_eq_true rfl) ?_
  refine x_lv (lv' := [(0, .ref v0)]) [0] rfl ?_
  refine x_aload_n dX11_contract_0 0 rfl ?_
  refine y_getr (kd := 4) hS fl_RX11_63 dX11_contract_1 rfl k0 ?_
  refine x_aload_n dX11_contract_4 0 rfl ?_
  refine y_getr (kd := 10) hS fl_RX11_10 dX11_contract_5 rfl k0 ?_
  refine xbnd_e h (fun q1 e1 h => ?_)
  refine y_callVv (As := [.ref (xr S v0 0)]) (q := q1) cv_RX11_215 dX11_contract_8 ((hS.f k0 7 4 rfl).2) rfl (Nat.le_of_ble_eq_true rfl) (by omega) (S_X4_settle hS ((hS.f k0 7 4 rfl).2) ((hS.f k0 0 10 rfl).2) e1) ?_
  refine x_aload_n dX11_contract_11 0 rfl ?_
  refine x_aload_n dX11_contract_12 0 rfl ?_
  refine y_getr (kd := 4) hS fl_RX11_63 dX11_contract_13 rfl k0 ?_
  refine x_aload_n dX11_contract_16 0 rfl ?_
  refine y_getr (kd := 10) hS fl_RX11_10 dX11_contract_17 rfl k0 ?_
  refine xbnd_e h (fun q2 e2 h => ?_)
  refine y_callVl (As := [.ref (xr S v0 0)]) (q := q2) cv_RX11_218 dX11_contract_20 ((hS.f k0 7 4 rfl).2) rfl (Nat.le_of_ble_eq_true rfl) (by omega) (S_X4_firsts hS ((hS.f k0 7 4 rfl).2) ((hS.f k0 0 10 rfl).2) e2) ?_
  refine xbnd_e h (fun q3 e3 h => ?_)
  refine y_callVi (As := [.long q2.1]) (q := q3) cv_RX11_168 dX11_contract_23 k0 rfl (Nat.le_of_ble_eq_true rfl) (by omega) (S_X11_choose hS k0 e3) ?_
  refine y_istore_n q3.1 rfl [(1, .int q3.1), (0, .ref v0)] dX11_contract_26 (by show _ < 3; decide) rfl ?_
  refine x_iload_n dX11_contract_27 0 rfl ?_
  refine x_aload_n dX11_contract_28 1 rfl ?_
  refine y_getr (kd := 10) hS fl_RX11_10 dX11_contract_29 rfl k0 ?_
  refine y_geti fl_RX11_92 dX11_contract_32 rfl ((hS.f k0 0 10 rfl).2) ?_
  refine x_icmp_ge 63 dX11_contract_35 (by decide) (fun c => ?_) (fun c => ?_)
  · rw [if_pos c] at h
    refine x_iload_n dX11_contract_63 0 rfl ?_
    obtain rfl := Option.some.inj h
    exact y_iret rfl dX11_contract_64
  · rw [if_neg c] at h
    refine x_aload_n dX11_contract_38 1 rfl ?_
    refine xbnd_e h (fun q4 e4 h => ?_)
    refine y_callVr (As := []) (q := q4) cv_RX11_171 dX11_contract_39 k0 rfl (Nat.le_of_ble_eq_true rfl) (by omega) (S_X11_keptWorlds hS k0 e4) ?_
    refine xgrd_e h (fun g5 h => ?_)
    refine x_astore_n [(2, .ref q4.1), (1, .int q3.1), (0, .ref v0)] dX11_contract_42 (by show _ < 3; decide) rfl ?_
    refine x_aload_n dX11_contract_43 2 rfl ?_
    refine y_getr (kd := 10) hS fl_RX11_10 dX11_contract_44 rfl k0 ?_
    refine x_aload_n dX11_contract_47 0 rfl ?_
    refine x_aload_n dX11_contract_48 2 rfl ?_
    refine y_getr (kd := 4) hS fl_RX11_63 dX11_contract_49 rfl k0 ?_
    refine y_getr (kd := 101) hS fl_RX11_222 dX11_contract_52 rfl ((hS.f k0 7 4 rfl).2) ?_
    refine x_aload_n dX11_contract_55 2 rfl ?_
    refine y_getr (kd := 100) hS fl_RX11_81 dX11_contract_56 rfl k0 ?_
    refine x_iload_n dX11_contract_59 1 rfl ?_
    refine xbnd_e h (fun q6 e6 h => ?_)
    refine y_callVv (As := [.ref q4.1, .ref (xr S (xr S v0 7) 1), .ref (xr S v0 10), .int q3.1]) (q := q6) cv_RX11_178 dX11_contract_60 ((hS.f k0 0 10 rfl).2) rfl (Nat.le_of_ble_eq_true rfl) (by omega) (S_X10_take hS ((hS.f k0 0 10 rfl).2) (xkb_K g5) ((hS.f ((hS.f k0 7 4 rfl).2) 1 101 rfl).2) ((hS.f k0 10 100 rfl).2) e6) ?_
    refine x_iload_n dX11_contract_63 1 rfl ?_
    obtain rfl := Option.some.inj h
    exact y_iret rfl dX11_contract_64

theorem dX11_differ_0 : decode cX11_differ 0 = .ok (.aload_n 0, 1) := by decide +kernel
theorem dX11_differ_1 : decode cX11_differ 1 = .ok (.getfield 10, 3) := by decide +kernel
theorem dX11_differ_4 : decode cX11_differ 4 = .ok (.iload_n 1, 1) := by decide +kernel
theorem dX11_differ_5 : decode cX11_differ 5 = .ok (.invokevirtual 105, 3) := by decide +kernel
theorem dX11_differ_8 : decode cX11_differ 8 = .ok (.ifCond .eq 14, 3) := by decide +kernel
theorem dX11_differ_11 : decode cX11_differ 11 = .ok (.aload_n 0, 1) := by decide +kernel
theorem dX11_differ_12 : decode cX11_differ 12 = .ok (.getfield 10, 3) := by decide +kernel
theorem dX11_differ_15 : decode cX11_differ 15 = .ok (.iload_n 2, 1) := by decide +kernel
theorem dX11_differ_16 : decode cX11_differ 16 = .ok (.invokevirtual 105, 3) := by decide +kernel
theorem dX11_differ_19 : decode cX11_differ 19 = .ok (.ifCond .ne 5, 3) := by decide +kernel
theorem dX11_differ_22 : decode cX11_differ 22 = .ok (.iconst (-1), 1) := by decide +kernel
theorem dX11_differ_23 : decode cX11_differ 23 = .ok (.ireturn, 1) := by decide +kernel
theorem dX11_differ_24 : decode cX11_differ 24 = .ok (.aload_n 0, 1) := by decide +kernel
theorem dX11_differ_25 : decode cX11_differ 25 = .ok (.getfield 63, 3) := by decide +kernel
theorem dX11_differ_28 : decode cX11_differ 28 = .ok (.aload_n 0, 1) := by decide +kernel
theorem dX11_differ_29 : decode cX11_differ 29 = .ok (.getfield 10, 3) := by decide +kernel
theorem dX11_differ_32 : decode cX11_differ 32 = .ok (.iload_n 1, 1) := by decide +kernel
theorem dX11_differ_33 : decode cX11_differ 33 = .ok (.iload_n 2, 1) := by decide +kernel
theorem dX11_differ_34 : decode cX11_differ 34 = .ok (.invokevirtual 225, 3) := by decide +kernel
theorem dX11_differ_37 : decode cX11_differ 37 = .ok (.ireturn, 1) := by decide +kernel
def f_X11_differ (F P : Nat) (S : xSt) (v0 : Nat) (v1 : Int32) (v2 : Int32) (D : xDt) : Option (Int32 × xDt) :=
  (f_X10_has F P S (xr S v0 0) v1 D).bind fun q1 => if q1.1 = 0 then (some ((-1), q1.2)) else ((f_X10_has F P S (xr S v0 0) v2 q1.2).bind fun q2 => if q2.1 = 0 then (some ((-1), q2.2)) else ((f_X4_difference F P S (xr S v0 7) (xr S v0 0) v1 v2 q2.2).bind fun q3 => some (q3.1, q3.2)))
set_option maxHeartbeats 4000000 in
theorem S_X11_differ {F P : Nat} {S : xSt} (hS : xWF S) {v0 : Nat} {v1 : Int32} {v2 : Int32} {D : xDt} {r : Int32 × xDt} (k0 : xK S v0 11) (h : f_X11_differ F P S v0 v1 v2 D = some r) : xSp md_X11_differ (5, 0, 0) [.ref v0, .int v1, .int v2] (S, D) (xQi S r) := by
  unfold f_X11_differ at h
  refine xEntry (by decide) (Nat.le_of_ble_eq_true rfl) ?_
  refine x_lv (lv' := [(0, .ref v0), (1, .int v1), (2, .int v2)]) [0, 1, 2] rfl ?_
  refine x_aload_n dX11_differ_0 0 rfl ?_
  refine y_getr (kd := 10) hS fl_RX11_10 dX11_differ_1 rfl k0 ?_
  refine x_iload_n dX11_differ_4 1 rfl ?_
  refine xbnd_e h (fun q1 e1 h => ?_)
  refine y_callVi (As := [.int v1]) (q := q1) cv_RX11_105 dX11_differ_5 ((hS.f k0 0 10 rfl).2) rfl (Nat.le_of_ble_eq_true rfl) (by omega) (S_X10_has hS ((hS.f k0 0 10 rfl).2) e1) ?_
  refine x_if_eq 22 dX11_differ_8 (by decide) (fun c => ?_) (fun c => ?_)
  · rw [if_pos c] at h
    refine x_iconst (-1) dX11_differ_22 (by decide) ?_
    obtain rfl := Option.some.inj h
    exact y_iret rfl dX11_differ_23
  · rw [if_neg c] at h
    refine x_aload_n dX11_differ_11 0 rfl ?_
    refine y_getr (kd := 10) hS fl_RX11_10 dX11_differ_12 rfl k0 ?_
    refine x_iload_n dX11_differ_15 2 rfl ?_
    refine xbnd_e h (fun q2 e2 h => ?_)
    refine y_callVi (As := [.int v2]) (q := q2) cv_RX11_105 dX11_differ_16 ((hS.f k0 0 10 rfl).2) rfl (Nat.le_of_ble_eq_true rfl) (by omega) (S_X10_has hS ((hS.f k0 0 10 rfl).2) e2) ?_
    refine x_if_ne 24 dX11_differ_19 (by decide) (fun c => ?_) (fun c => ?_)
    · rw [if_neg c] at h
      refine x_aload_n dX11_differ_24 0 rfl ?_
      refine y_getr (kd := 4) hS fl_RX11_63 dX11_differ_25 rfl k0 ?_
      refine x_aload_n dX11_differ_28 0 rfl ?_
      refine y_getr (kd := 10) hS fl_RX11_10 dX11_differ_29 rfl k0 ?_
      refine x_iload_n dX11_differ_32 1 rfl ?_
      refine x_iload_n dX11_differ_33 2 rfl ?_
      refine xbnd_e h (fun q3 e3 h => ?_)
      refine y_callVi (As := [.ref (xr S v0 0), .int v1, .int v2]) (q := q3) cv_RX11_225 dX11_differ_34 ((hS.f k0 7 4 rfl).2) rfl (Nat.le_of_ble_eq_true rfl) (by omega) (S_X4_difference hS ((hS.f k0 7 4 rfl).2) ((hS.f k0 0 10 rfl).2) e3) ?_
      obtain rfl := Option.some.inj h
      exact y_iret rfl dX11_differ_37
    · rw [if_pos c] at h
      refine x_iconst (-1) dX11_differ_22 (by decide) ?_
      obtain rfl := Option.some.inj h
      exact y_iret rfl dX11_differ_23

theorem dX11_count_0 : decode cX11_count 0 = .ok (.iload_n 1, 1) := by decide +kernel
theorem dX11_count_1 : decode cX11_count 1 = .ok (.tableswitch 91 0 5 #[39, 47, 55, 63, 71, 79], 39) := by decide +kernel
theorem dX11_count_40 : decode cX11_count 40 = .ok (.aload_n 0, 1) := by decide +kernel
theorem dX11_count_41 : decode cX11_count 41 = .ok (.getfield 10, 3) := by decide +kernel
theorem dX11_count_44 : decode cX11_count 44 = .ok (.getfield 92, 3) := by decide +kernel
theorem dX11_count_47 : decode cX11_count 47 = .ok (.ireturn, 1) := by decide +kernel
theorem dX11_count_48 : decode cX11_count 48 = .ok (.aload_n 0, 1) := by decide +kernel
theorem dX11_count_49 : decode cX11_count 49 = .ok (.getfield 26, 3) := by decide +kernel
theorem dX11_count_52 : decode cX11_count 52 = .ok (.getfield 191, 3) := by decide +kernel
theorem dX11_count_55 : decode cX11_count 55 = .ok (.ireturn, 1) := by decide +kernel
theorem dX11_count_56 : decode cX11_count 56 = .ok (.aload_n 0, 1) := by decide +kernel
theorem dX11_count_57 : decode cX11_count 57 = .ok (.getfield 42, 3) := by decide +kernel
theorem dX11_count_60 : decode cX11_count 60 = .ok (.getfield 186, 3) := by decide +kernel
theorem dX11_count_63 : decode cX11_count 63 = .ok (.ireturn, 1) := by decide +kernel
theorem dX11_count_64 : decode cX11_count 64 = .ok (.aload_n 0, 1) := by decide +kernel
theorem dX11_count_65 : decode cX11_count 65 = .ok (.getfield 33, 3) := by decide +kernel
theorem dX11_count_68 : decode cX11_count 68 = .ok (.getfield 242, 3) := by decide +kernel
theorem dX11_count_71 : decode cX11_count 71 = .ok (.ireturn, 1) := by decide +kernel
theorem dX11_count_72 : decode cX11_count 72 = .ok (.aload_n 0, 1) := by decide +kernel
theorem dX11_count_73 : decode cX11_count 73 = .ok (.getfield 19, 3) := by decide +kernel
theorem dX11_count_76 : decode cX11_count 76 = .ok (.getfield 207, 3) := by decide +kernel
theorem dX11_count_79 : decode cX11_count 79 = .ok (.ireturn, 1) := by decide +kernel
theorem dX11_count_80 : decode cX11_count 80 = .ok (.aload_n 0, 1) := by decide +kernel
theorem dX11_count_81 : decode cX11_count 81 = .ok (.getfield 42, 3) := by decide +kernel
theorem dX11_count_84 : decode cX11_count 84 = .ok (.aload_n 0, 1) := by decide +kernel
theorem dX11_count_85 : decode cX11_count 85 = .ok (.getfield 85, 3) := by decide +kernel
theorem dX11_count_88 : decode cX11_count 88 = .ok (.invokevirtual 243, 3) := by decide +kernel
theorem dX11_count_91 : decode cX11_count 91 = .ok (.ireturn, 1) := by decide +kernel
theorem dX11_count_92 : decode cX11_count 92 = .ok (.iconst (-1), 1) := by decide +kernel
theorem dX11_count_93 : decode cX11_count 93 = .ok (.ireturn, 1) := by decide +kernel
def f_X11_count (F P : Nat) (S : xSt) (v0 : Nat) (v1 : Int32) (D : xDt) : Option (Int32 × xDt) :=
  if v1 = 0 then (some (D.1 (xr S v0 0) 0, D)) else (if v1 = 1 then (some (D.1 (xr S v0 2) 0, D)) else (if v1 = 2 then (some (D.1 (xr S v0 4) 1, D)) else (if v1 = 3 then (some (D.1 (xr S v0 3) 1, D)) else (if v1 = 4 then (some (D.1 (xr S v0 1) 2, D)) else (if v1 = 5 then ((f_X2_depth F P S (xr S v0 4) (xr S v0 11) D).bind fun q1 => some (q1.1, q1.2)) else (some ((-1), D)))))))
set_option maxHeartbeats 4000000 in
theorem S_X11_count {F P : Nat} {S : xSt} (hS : xWF S) {v0 : Nat} {v1 : Int32} {D : xDt} {r : Int32 × xDt} (k0 : xK S v0 11) (h : f_X11_count F P S v0 v1 D = some r) : xSp md_X11_count (3, 0, 0) [.ref v0, .int v1] (S, D) (xQi S r) := by
  unfold f_X11_count at h
  refine xEntry (by decide) (Nat.le_of_ble_eq_true rfl) ?_
  refine x_lv (lv' := [(0, .ref v0), (1, .int v1)]) [0, 1] rfl ?_
  refine x_iload_n dX11_count_0 1 rfl ?_
  by_cases c0 : v1 = 0
  · rw [if_pos c0] at h
    refine x_tsIn 0 40 c0 dX11_count_1 (by decide) (by decide) rfl (by decide) ?_
    refine x_aload_n dX11_count_40 0 rfl ?_
    refine y_getr (kd := 10) hS fl_RX11_10 dX11_count_41 rfl k0 ?_
    refine y_geti fl_RX11_92 dX11_count_44 rfl ((hS.f k0 0 10 rfl).2) ?_
    obtain rfl := Option.some.inj h
    exact y_iret rfl dX11_count_47
  · rw [if_neg c0] at h
    by_cases c1 : v1 = 1
    · rw [if_pos c1] at h
      refine x_tsIn 1 48 c1 dX11_count_1 (by decide) (by decide) rfl (by decide) ?_
      refine x_aload_n dX11_count_48 0 rfl ?_
      refine y_getr (kd := 1) hS fl_RX11_26 dX11_count_49 rfl k0 ?_
      refine y_geti fl_RX11_191 dX11_count_52 rfl ((hS.f k0 2 1 rfl).2) ?_
      obtain rfl := Option.some.inj h
      exact y_iret rfl dX11_count_55
    · rw [if_neg c1] at h
      by_cases c2 : v1 = 2
      · rw [if_pos c2] at h
        refine x_tsIn 2 56 c2 dX11_count_1 (by decide) (by decide) rfl (by decide) ?_
        refine x_aload_n dX11_count_56 0 rfl ?_
        refine y_getr (kd := 2) hS fl_RX11_42 dX11_count_57 rfl k0 ?_
        refine y_geti fl_RX11_186 dX11_count_60 rfl ((hS.f k0 4 2 rfl).2) ?_
        obtain rfl := Option.some.inj h
        exact y_iret rfl dX11_count_63
      · rw [if_neg c2] at h
        by_cases c3 : v1 = 3
        · rw [if_pos c3] at h
          refine x_tsIn 3 64 c3 dX11_count_1 (by decide) (by decide) rfl (by decide) ?_
          refine x_aload_n dX11_count_64 0 rfl ?_
          refine y_getr (kd := 6) hS fl_RX11_33 dX11_count_65 rfl k0 ?_
          refine y_geti fl_RX11_242 dX11_count_68 rfl ((hS.f k0 3 6 rfl).2) ?_
          obtain rfl := Option.some.inj h
          exact y_iret rfl dX11_count_71
        · rw [if_neg c3] at h
          by_cases c4 : v1 = 4
          · rw [if_pos c4] at h
            refine x_tsIn 4 72 c4 dX11_count_1 (by decide) (by decide) rfl (by decide) ?_
            refine x_aload_n dX11_count_72 0 rfl ?_
            refine y_getr (kd := 5) hS fl_RX11_19 dX11_count_73 rfl k0 ?_
            refine y_geti fl_RX11_207 dX11_count_76 rfl ((hS.f k0 1 5 rfl).2) ?_
            obtain rfl := Option.some.inj h
            exact y_iret rfl dX11_count_79
          · rw [if_neg c4] at h
            by_cases c5 : v1 = 5
            · rw [if_pos c5] at h
              refine x_tsIn 5 80 c5 dX11_count_1 (by decide) (by decide) rfl (by decide) ?_
              refine x_aload_n dX11_count_80 0 rfl ?_
              refine y_getr (kd := 2) hS fl_RX11_42 dX11_count_81 rfl k0 ?_
              refine x_aload_n dX11_count_84 0 rfl ?_
              refine y_getr (kd := 100) hS fl_RX11_85 dX11_count_85 rfl k0 ?_
              refine xbnd_e h (fun q1 e1 h => ?_)
              refine y_callVi (As := [.ref (xr S v0 11)]) (q := q1) cv_RX11_243 dX11_count_88 ((hS.f k0 4 2 rfl).2) rfl (Nat.le_of_ble_eq_true rfl) (by omega) (S_X2_depth hS ((hS.f k0 4 2 rfl).2) ((hS.f k0 11 100 rfl).2) e1) ?_
              obtain rfl := Option.some.inj h
              exact y_iret rfl dX11_count_91
            · rw [if_neg c5] at h
              refine x_tsOut 92 dX11_count_1 (by have := lv_neT c0 (a := 0) (by decide); have := lv_neT c1 (a := 1) (by decide); have := lv_neT c2 (a := 2) (by decide); have := lv_neT c3 (a := 3) (by decide); have := lv_neT c4 (a := 4) (by decide); have := lv_neT c5 (a := 5) (by decide); omega) (by decide) ?_
              refine x_iconst (-1) dX11_count_92 (by decide) ?_
              obtain rfl := Option.some.inj h
              exact y_iret rfl dX11_count_93

theorem dX12_in_0 : decode cX12_in 0 = .ok (.iload_n 0, 1) := by decide +kernel
theorem dX12_in_1 : decode cX12_in 1 = .ok (.iload_n 1, 1) := by decide +kernel
theorem dX12_in_2 : decode cX12_in 2 = .ok (.if_icmp .lt 12, 3) := by decide +kernel
theorem dX12_in_5 : decode cX12_in 5 = .ok (.iload_n 0, 1) := by decide +kernel
theorem dX12_in_6 : decode cX12_in 6 = .ok (.iload_n 2, 1) := by decide +kernel
theorem dX12_in_7 : decode cX12_in 7 = .ok (.if_icmp .gt 7, 3) := by decide +kernel
theorem dX12_in_10 : decode cX12_in 10 = .ok (.iconst 1, 1) := by decide +kernel
theorem dX12_in_11 : decode cX12_in 11 = .ok (.goto 4, 3) := by decide +kernel
theorem dX12_in_14 : decode cX12_in 14 = .ok (.iconst 0, 1) := by decide +kernel
theorem dX12_in_15 : decode cX12_in 15 = .ok (.ireturn, 1) := by decide +kernel
def f_X12_in_14 (F P : Nat) (S : xSt) (D : xDt) : Option (Int32 × xDt) :=
  some (0, D)
set_option maxHeartbeats 4000000 in
theorem t_X12_in_14 {F P : Nat} {S : xSt} (hS : xWF S) {D : xDt} {r : Int32 × xDt} (h : f_X12_in_14 F P S D = some r) : yEx md_X12_in 0 14 [] [] S D (xQi S r) := by
  unfold f_X12_in_14 at h
  refine x_iconst 0 dX12_in_14 (by decide) ?_
  obtain rfl := Option.some.inj h
  exact y_zret rfl rfl dX12_in_15

def f_X12_in (F P : Nat) (S : xSt) (v0 : Int32) (v1 : Int32) (v2 : Int32) (D : xDt) : Option (Int32 × xDt) :=
  if v0 < v1 then (f_X12_in_14 F P S D) else (if v2 < v0 then (f_X12_in_14 F P S D) else (some (1, D)))
set_option maxHeartbeats 4000000 in
theorem S_X12_in {F P : Nat} {S : xSt} (hS : xWF S) {v0 : Int32} {v1 : Int32} {v2 : Int32} {D : xDt} {r : Int32 × xDt} (h : f_X12_in F P S v0 v1 v2 D = some r) : xSp md_X12_in (0, 0, 0) [.int v0, .int v1, .int v2] (S, D) (xQi S r) := by
  unfold f_X12_in at h
  refine xEntry (by decide) (Nat.le_of_ble_eq_true rfl) ?_
  refine x_lv (lv' := [(0, .int v0), (1, .int v1), (2, .int v2)]) [0, 1, 2] rfl ?_
  refine x_iload_n dX12_in_0 0 rfl ?_
  refine x_iload_n dX12_in_1 1 rfl ?_
  refine x_icmp_lt 14 dX12_in_2 (by decide) (fun c => ?_) (fun c => ?_)
  · rw [if_pos c] at h
    refine x_lv (lv' := []) [] rfl ?_
    exact t_X12_in_14 hS h
  · rw [if_neg c] at h
    refine x_iload_n dX12_in_5 0 rfl ?_
    refine x_iload_n dX12_in_6 2 rfl ?_
    refine x_icmp_gt 14 dX12_in_7 (by decide) (fun c => ?_) (fun c => ?_)
    · rw [if_pos c] at h
      refine x_lv (lv' := []) [] rfl ?_
      exact t_X12_in_14 hS h
    · rw [if_neg c] at h
      refine x_iconst 1 dX12_in_10 (by decide) ?_
      refine x_goto 15 dX12_in_11 (by decide) ?_
      obtain rfl := Option.some.inj h
      exact y_zret rfl rfl dX12_in_15

theorem dX12_isWorld_0 : decode cX12_isWorld 0 = .ok (.iload_n 1, 1) := by decide +kernel
theorem dX12_isWorld_1 : decode cX12_isWorld 1 = .ok (.iconst 0, 1) := by decide +kernel
theorem dX12_isWorld_2 : decode cX12_isWorld 2 = .ok (.aload_n 0, 1) := by decide +kernel
theorem dX12_isWorld_3 : decode cX12_isWorld 3 = .ok (.getfield 7, 3) := by decide +kernel
theorem dX12_isWorld_6 : decode cX12_isWorld 6 = .ok (.iconst 1, 1) := by decide +kernel
theorem dX12_isWorld_7 : decode cX12_isWorld 7 = .ok (.isub, 1) := by decide +kernel
theorem dX12_isWorld_8 : decode cX12_isWorld 8 = .ok (.invokestatic 10, 3) := by decide +kernel
theorem dX12_isWorld_11 : decode cX12_isWorld 11 = .ok (.ireturn, 1) := by decide +kernel
def f_X12_isWorld (F P : Nat) (S : xSt) (v0 : Nat) (v1 : Int32) (D : xDt) : Option (Int32 × xDt) :=
  (f_X12_in F P S v1 0 ((D.1 v0 1) - 1) D).bind fun q1 => xgrd (xb q1.1) (some (q1.1, q1.2))
set_option maxHeartbeats 4000000 in
theorem S_X12_isWorld {F P : Nat} {S : xSt} (hS : xWF S) {v0 : Nat} {v1 : Int32} {D : xDt} {r : Int32 × xDt} (k0 : xK S v0 12) (h : f_X12_isWorld F P S v0 v1 D = some r) : xSp md_X12_isWorld (1, 0, 0) [.ref v0, .int v1] (S, D) (xQi S r) := by
  unfold f_X12_isWorld at h
  refine xEntry (by decide) (Nat.le_of_ble_eq_true rfl) ?_
  refine x_lv (lv' := [(0, .ref v0), (1, .int v1)]) [0, 1] rfl ?_
  refine x_iload_n dX12_isWorld_0 1 rfl ?_
  refine x_iconst 0 dX12_isWorld_1 (by decide) ?_
  refine x_aload_n dX12_isWorld_2 0 rfl ?_
  refine y_geti fl_RX12_7 dX12_isWorld_3 rfl k0 ?_
  refine x_iconst 1 dX12_isWorld_6 (by decide) ?_
  refine x_isub dX12_isWorld_7 ?_
  refine xbnd_e h (fun q1 e1 h => ?_)
  refine y_callSi (As := [.int v1, .int 0, .int ((D.1 v0 1) - 1)]) (q := q1) cs_RX12_10 dX12_isWorld_8 rfl (Nat.le_of_ble_eq_true rfl) (by omega) (S_X12_in hS e1) ?_
  refine xgrd_e h (fun g2 h => ?_)
  obtain rfl := Option.some.inj h
  exact y_zret rfl g2 dX12_isWorld_11

theorem dX12_isAgent_0 : decode cX12_isAgent 0 = .ok (.iload_n 0, 1) := by decide +kernel
theorem dX12_isAgent_1 : decode cX12_isAgent 1 = .ok (.iconst 1, 1) := by decide +kernel
theorem dX12_isAgent_2 : decode cX12_isAgent 2 = .ok (.iconst 4, 1) := by decide +kernel
theorem dX12_isAgent_3 : decode cX12_isAgent 3 = .ok (.invokestatic 10, 3) := by decide +kernel
theorem dX12_isAgent_6 : decode cX12_isAgent 6 = .ok (.ireturn, 1) := by decide +kernel
def f_X12_isAgent (F P : Nat) (S : xSt) (v0 : Int32) (D : xDt) : Option (Int32 × xDt) :=
  (f_X12_in F P S v0 1 4 D).bind fun q1 => xgrd (xb q1.1) (some (q1.1, q1.2))
set_option maxHeartbeats 4000000 in
theorem S_X12_isAgent {F P : Nat} {S : xSt} (hS : xWF S) {v0 : Int32} {D : xDt} {r : Int32 × xDt} (h : f_X12_isAgent F P S v0 D = some r) : xSp md_X12_isAgent (1, 0, 0) [.int v0] (S, D) (xQi S r) := by
  unfold f_X12_isAgent at h
  refine xEntry (by decide) (Nat.le_of_ble_eq_true rfl) ?_
  refine x_lv (lv' := [(0, .int v0)]) [0] rfl ?_
  refine x_iload_n dX12_isAgent_0 0 rfl ?_
  refine x_iconst 1 dX12_isAgent_1 (by decide) ?_
  refine x_iconst 4 dX12_isAgent_2 (by decide) ?_
  refine xbnd_e h (fun q1 e1 h => ?_)
  refine y_callSi (As := [.int v0, .int 1, .int 4]) (q := q1) cs_RX12_10 dX12_isAgent_3 rfl (Nat.le_of_ble_eq_true rfl) (by omega) (S_X12_in hS e1) ?_
  refine xgrd_e h (fun g2 h => ?_)
  obtain rfl := Option.some.inj h
  exact y_zret rfl g2 dX12_isAgent_6

theorem dX12_cell_0 : decode cX12_cell 0 = .ok (.aload_n 0, 1) := by decide +kernel
theorem dX12_cell_1 : decode cX12_cell 1 = .ok (.getfield 14, 3) := by decide +kernel
theorem dX12_cell_4 : decode cX12_cell 4 = .ok (.bipush 64, 2) := by decide +kernel
theorem dX12_cell_6 : decode cX12_cell 6 = .ok (.iload_n 1, 1) := by decide +kernel
theorem dX12_cell_7 : decode cX12_cell 7 = .ok (.iconst 1, 1) := by decide +kernel
theorem dX12_cell_8 : decode cX12_cell 8 = .ok (.isub, 1) := by decide +kernel
theorem dX12_cell_9 : decode cX12_cell 9 = .ok (.imul, 1) := by decide +kernel
theorem dX12_cell_10 : decode cX12_cell 10 = .ok (.iload_n 2, 1) := by decide +kernel
theorem dX12_cell_11 : decode cX12_cell 11 = .ok (.iadd, 1) := by decide +kernel
theorem dX12_cell_12 : decode cX12_cell 12 = .ok (.iaload, 1) := by decide +kernel
theorem dX12_cell_13 : decode cX12_cell 13 = .ok (.ireturn, 1) := by decide +kernel
def f_X12_cell (F P : Nat) (S : xSt) (v0 : Nat) (v1 : Int32) (v2 : Int32) (D : xDt) : Option (Int32 × xDt) :=
  xgrd (xin ((64 * (v1 - 1)) + v2) (xl S (xr S v0 3))) (some (D.1 (xr S v0 3) ((64 * (v1 - 1)) + v2).toNatClampNeg, D))
set_option maxHeartbeats 4000000 in
theorem S_X12_cell {F P : Nat} {S : xSt} (hS : xWF S) {v0 : Nat} {v1 : Int32} {v2 : Int32} {D : xDt} {r : Int32 × xDt} (k0 : xK S v0 12) (h : f_X12_cell F P S v0 v1 v2 D = some r) : xSp md_X12_cell (0, 0, 0) [.ref v0, .int v1, .int v2] (S, D) (xQi S r) := by
  unfold f_X12_cell at h
  refine xEntry (by decide) (Nat.le_of_ble_eq_true rfl) ?_
  refine x_lv (lv' := [(0, .ref v0), (1, .int v1), (2, .int v2)]) [0, 1, 2] rfl ?_
  refine x_aload_n dX12_cell_0 0 rfl ?_
  refine y_getr (kd := 100) hS fl_RX12_14 dX12_cell_1 rfl k0 ?_
  refine x_bipush 64 dX12_cell_4 (by decide) ?_
  refine x_iload_n dX12_cell_6 1 rfl ?_
  refine x_iconst 1 dX12_cell_7 (by decide) ?_
  refine x_isub dX12_cell_8 ?_
  refine x_imul dX12_cell_9 ?_
  refine x_iload_n dX12_cell_10 2 rfl ?_
  refine x_iadd dX12_cell_11 ?_
  refine xgrd_e h (fun g1 h => ?_)
  refine y_iald dX12_cell_12 ((hS.f k0 3 100 rfl).2) g1 ?_
  obtain rfl := Option.some.inj h
  exact y_iret rfl dX12_cell_13

theorem dX12_cellOf_0 : decode cX12_cellOf 0 = .ok (.lconst 0, 1) := by decide +kernel
theorem dX12_cellOf_1 : decode cX12_cellOf 1 = .ok (.lstore_n 3, 1) := by decide +kernel
theorem dX12_cellOf_2 : decode cX12_cellOf 2 = .ok (.iconst 0, 1) := by decide +kernel
theorem dX12_cellOf_3 : decode cX12_cellOf 3 = .ok (.istore 5, 2) := by decide +kernel
theorem dX12_cellOf_5 : decode cX12_cellOf 5 = .ok (.iload 5, 2) := by decide +kernel
theorem dX12_cellOf_7 : decode cX12_cellOf 7 = .ok (.aload_n 0, 1) := by decide +kernel
theorem dX12_cellOf_8 : decode cX12_cellOf 8 = .ok (.getfield 7, 3) := by decide +kernel
theorem dX12_cellOf_11 : decode cX12_cellOf 11 = .ok (.if_icmp .ge 36, 3) := by decide +kernel
theorem dX12_cellOf_14 : decode cX12_cellOf 14 = .ok (.lload_n 3, 1) := by decide +kernel
theorem dX12_cellOf_15 : decode cX12_cellOf 15 = .ok (.aload_n 0, 1) := by decide +kernel
theorem dX12_cellOf_16 : decode cX12_cellOf 16 = .ok (.iload_n 1, 1) := by decide +kernel
theorem dX12_cellOf_17 : decode cX12_cellOf 17 = .ok (.iload 5, 2) := by decide +kernel
theorem dX12_cellOf_19 : decode cX12_cellOf 19 = .ok (.invokevirtual 18, 3) := by decide +kernel
theorem dX12_cellOf_22 : decode cX12_cellOf 22 = .ok (.aload_n 0, 1) := by decide +kernel
theorem dX12_cellOf_23 : decode cX12_cellOf 23 = .ok (.iload_n 1, 1) := by decide +kernel
theorem dX12_cellOf_24 : decode cX12_cellOf 24 = .ok (.iload_n 2, 1) := by decide +kernel
theorem dX12_cellOf_25 : decode cX12_cellOf 25 = .ok (.invokevirtual 18, 3) := by decide +kernel
theorem dX12_cellOf_28 : decode cX12_cellOf 28 = .ok (.if_icmp .ne 10, 3) := by decide +kernel
theorem dX12_cellOf_31 : decode cX12_cellOf 31 = .ok (.lconst 1, 1) := by decide +kernel
theorem dX12_cellOf_32 : decode cX12_cellOf 32 = .ok (.iload 5, 2) := by decide +kernel
theorem dX12_cellOf_34 : decode cX12_cellOf 34 = .ok (.lshl, 1) := by decide +kernel
theorem dX12_cellOf_35 : decode cX12_cellOf 35 = .ok (.goto 4, 3) := by decide +kernel
theorem dX12_cellOf_38 : decode cX12_cellOf 38 = .ok (.lconst 0, 1) := by decide +kernel
theorem dX12_cellOf_39 : decode cX12_cellOf 39 = .ok (.lor, 1) := by decide +kernel
theorem dX12_cellOf_40 : decode cX12_cellOf 40 = .ok (.lstore_n 3, 1) := by decide +kernel
theorem dX12_cellOf_41 : decode cX12_cellOf 41 = .ok (.iinc 5 1, 3) := by decide +kernel
theorem dX12_cellOf_44 : decode cX12_cellOf 44 = .ok (.goto (-39), 3) := by decide +kernel
theorem dX12_cellOf_47 : decode cX12_cellOf 47 = .ok (.lload_n 3, 1) := by decide +kernel
theorem dX12_cellOf_48 : decode cX12_cellOf 48 = .ok (.lreturn, 1) := by decide +kernel
def f_X12_cellOf_39 (F P : Nat) (S : xSt) (rec_5 : Nat → Int32 → Int32 → Int64 → Int32 → xDt → Option (Int64 × xDt)) (v0 : Nat) (v1 : Int32) (v2 : Int32) (v5 : Int32) (s0 : Int64) (s1 : Int64) (D : xDt) : Option (Int64 × xDt) :=
  xlet (s1 ||| s0) fun v3_1 => xlet (v5 + 1) fun v5_2 => rec_5 v0 v1 v2 v3_1 v5_2 D
set_option maxHeartbeats 4000000 in
theorem t_X12_cellOf_39 {F P : Nat} {S : xSt} (hS : xWF S) {rec_5 : Nat → Int32 → Int32 → Int64 → Int32 → xDt → Option (Int64 × xDt)} (hrec_5 : ∀ {v0 : Nat} {v1 : Int32} {v2 : Int32} {v3 : Int64} {v5 : Int32} {D : xDt} {r : Int64 × xDt}, xK S v0 12 → rec_5 v0 v1 v2 v3 v5 D = some r → yEx md_X12_cellOf 1 5 [(0, .ref v0), (1, .int v1), (2, .int v2), (3, .long v3), (5, .int v5)] [] S D (xQl S r)) {v0 : Nat} {v1 : Int32} {v2 : Int32} {v5 : Int32} {s0 : Int64} {s1 : Int64} {D : xDt} {r : Int64 × xDt} (k0 : xK S v0 12) (h : f_X12_cellOf_39 F P S rec_5 v0 v1 v2 v5 s0 s1 D = some r) : yEx md_X12_cellOf 1 39 [(0, .ref v0), (1, .int v1), (2, .int v2), (5, .int v5)] [.long s0, .long s1] S D (xQl S r) := by
  unfold f_X12_cellOf_39 at h
  refine x_lor dX12_cellOf_39 ?_
  refine xlet_e h (fun v3_1 ev3_1 h => ?_)
  refine y_lstore_n v3_1 ev3_1 [(3, .long v3_1), (0, .ref v0), (1, .int v1), (2, .int v2), (5, .int v5)] dX12_cellOf_40 (by show _ < 6; decide) rfl ?_
  refine xlet_e h (fun v5_2 ev5_2 h => ?_)
  refine y_iinc v5_2 ev5_2 (by decide) [(5, .int v5_2), (3, .long v3_1), (0, .ref v0), (1, .int v1), (2, .int v2)] dX12_cellOf_41 4 rfl (by show _ < 6; decide) rfl ?_
  refine x_goto 5 dX12_cellOf_44 (by decide) ?_
  refine x_lv (lv' := [(0, .ref v0), (1, .int v1), (2, .int v2), (3, .long v3_1), (5, .int v5_2)]) [2, 3, 4, 1, 0] rfl ?_
  exact hrec_5 k0 h

def f_X12_cellOf_5s (F P : Nat) (S : xSt) (rec_5 : Nat → Int32 → Int32 → Int64 → Int32 → xDt → Option (Int64 × xDt)) (v0 : Nat) (v1 : Int32) (v2 : Int32) (v3 : Int64) (v5 : Int32) (D : xDt) : Option (Int64 × xDt) :=
  if (D.1 v0 1) ≤ v5 then (some (v3, D)) else ((f_X12_cell F P S v0 v1 v5 D).bind fun q1 => (f_X12_cell F P S v0 v1 v2 q1.2).bind fun q2 => if q1.1 = q2.1 then (f_X12_cellOf_39 F P S rec_5 v0 v1 v2 v5 (jlshl 1 v5) v3 q2.2) else (f_X12_cellOf_39 F P S rec_5 v0 v1 v2 v5 0 v3 q2.2))
def f_X12_cellOf_5 (F P : Nat) (S : xSt) : Nat → Nat → Int32 → Int32 → Int64 → Int32 → xDt → Option (Int64 × xDt)
  | 0 => fun _ _ _ _ _ _ => none
  | n + 1 => f_X12_cellOf_5s F P S (f_X12_cellOf_5 F P S n)
set_option maxHeartbeats 4000000 in
theorem t_X12_cellOf_5s {F P : Nat} {S : xSt} (hS : xWF S) {rec_5 : Nat → Int32 → Int32 → Int64 → Int32 → xDt → Option (Int64 × xDt)} (hrec_5 : ∀ {v0 : Nat} {v1 : Int32} {v2 : Int32} {v3 : Int64} {v5 : Int32} {D : xDt} {r : Int64 × xDt}, xK S v0 12 → rec_5 v0 v1 v2 v3 v5 D = some r → yEx md_X12_cellOf 1 5 [(0, .ref v0), (1, .int v1), (2, .int v2), (3, .long v3), (5, .int v5)] [] S D (xQl S r)) {v0 : Nat} {v1 : Int32} {v2 : Int32} {v3 : Int64} {v5 : Int32} {D : xDt} {r : Int64 × xDt} (k0 : xK S v0 12) (h : f_X12_cellOf_5s F P S rec_5 v0 v1 v2 v3 v5 D = some r) : yEx md_X12_cellOf 1 5 [(0, .ref v0), (1, .int v1), (2, .int v2), (3, .long v3), (5, .int v5)] [] S D (xQl S r) := by
  unfold f_X12_cellOf_5s at h
  refine x_iload dX12_cellOf_5 4 rfl ?_
  refine x_aload_n dX12_cellOf_7 0 rfl ?_
  refine y_geti fl_RX12_7 dX12_cellOf_8 rfl k0 ?_
  refine x_icmp_ge 47 dX12_cellOf_11 (by decide) (fun c => ?_) (fun c => ?_)
  · rw [if_pos c] at h
    refine x_lload_n dX12_cellOf_47 3 rfl ?_
    obtain rfl := Option.some.inj h
    exact y_lret rfl dX12_cellOf_48
  · rw [if_neg c] at h
    refine x_lload_n dX12_cellOf_14 3 rfl ?_
    refine x_aload_n dX12_cellOf_15 0 rfl ?_
    refine x_iload_n dX12_cellOf_16 1 rfl ?_
    refine x_iload dX12_cellOf_17 4 rfl ?_
    refine xbnd_e h (fun q1 e1 h => ?_)
    refine y_callVi (As := [.int v1, .int v5]) (q := q1) cv_RX12_18 dX12_cellOf_19 k0 rfl (Nat.le_of_ble_eq_true rfl) (by omega) (S_X12_cell hS k0 e1) ?_
    refine x_aload_n dX12_cellOf_22 0 rfl ?_
    refine x_iload_n dX12_cellOf_23 1 rfl ?_
    refine x_iload_n dX12_cellOf_24 2 rfl ?_
    refine xbnd_e h (fun q2 e2 h => ?_)
    refine y_callVi (As := [.int v1, .int v2]) (q := q2) cv_RX12_18 dX12_cellOf_25 k0 rfl (Nat.le_of_ble_eq_true rfl) (by omega) (S_X12_cell hS k0 e2) ?_
    refine x_icmp_ne 38 dX12_cellOf_28 (by decide) (fun c => ?_) (fun c => ?_)
    · rw [if_neg c] at h
      refine x_lconst 0 dX12_cellOf_38 (by decide) ?_
      refine x_lv (lv' := [(0, .ref v0), (1, .int v1), (2, .int v2), (5, .int v5)]) [0, 1, 2, 4] rfl ?_
      exact t_X12_cellOf_39 hS hrec_5 k0 h
    · rw [if_pos c] at h
      refine x_lconst 1 dX12_cellOf_31 (by decide) ?_
      refine x_iload dX12_cellOf_32 4 rfl ?_
      refine x_lshl dX12_cellOf_34 ?_
      refine x_goto 39 dX12_cellOf_35 (by decide) ?_
      refine x_lv (lv' := [(0, .ref v0), (1, .int v1), (2, .int v2), (5, .int v5)]) [0, 1, 2, 4] rfl ?_
      exact t_X12_cellOf_39 hS hrec_5 k0 h
theorem t_X12_cellOf_5 {F P : Nat} {S : xSt} (hS : xWF S) : ∀ (n : Nat) {v0 : Nat} {v1 : Int32} {v2 : Int32} {v3 : Int64} {v5 : Int32} {D : xDt} {r : Int64 × xDt}, xK S v0 12 → f_X12_cellOf_5 F P S n v0 v1 v2 v3 v5 D = some r → yEx md_X12_cellOf 1 5 [(0, .ref v0), (1, .int v1), (2, .int v2), (3, .long v3), (5, .int v5)] [] S D (xQl S r) := by
  intro n
  induction n with
  | zero => intros; rename_i h; cases h
  | succ n ih =>
    intro v0 v1 v2 v3 v5 D r k0 h
    exact t_X12_cellOf_5s hS (fun k0 h => ih k0 h) k0 h

def f_X12_cellOf (F P : Nat) (S : xSt) (v0 : Nat) (v1 : Int32) (v2 : Int32) (D : xDt) : Option (Int64 × xDt) :=
  f_X12_cellOf_5 F P S F v0 v1 v2 0 0 D
set_option maxHeartbeats 4000000 in
theorem S_X12_cellOf {F P : Nat} {S : xSt} (hS : xWF S) {v0 : Nat} {v1 : Int32} {v2 : Int32} {D : xDt} {r : Int64 × xDt} (k0 : xK S v0 12) (h : f_X12_cellOf F P S v0 v1 v2 D = some r) : xSp md_X12_cellOf (1, 0, 0) [.ref v0, .int v1, .int v2] (S, D) (xQl S r) := by
  unfold f_X12_cellOf at h
  refine xEntry (by decide) (Nat.le_of_ble_eq_true rfl) ?_
  refine x_lv (lv' := [(0, .ref v0), (1, .int v1), (2, .int v2)]) [0, 1, 2] rfl ?_
  refine x_lconst 0 dX12_cellOf_0 (by decide) ?_
  refine y_lstore_n 0 rfl [(3, .long 0), (0, .ref v0), (1, .int v1), (2, .int v2)] dX12_cellOf_1 (by show _ < 6; decide) rfl ?_
  refine x_iconst 0 dX12_cellOf_2 (by decide) ?_
  refine y_istore 0 rfl [(5, .int 0), (3, .long 0), (0, .ref v0), (1, .int v1), (2, .int v2)] dX12_cellOf_3 (by show _ < 6; decide) rfl ?_
  refine x_lv (lv' := [(0, .ref v0), (1, .int v1), (2, .int v2), (3, .long 0), (5, .int 0)]) [2, 3, 4, 1, 0] rfl ?_
  exact t_X12_cellOf_5 hS F k0 h

theorem dX12_least_0 : decode cX12_least 0 = .ok (.iconst 0, 1) := by decide +kernel
theorem dX12_least_1 : decode cX12_least 1 = .ok (.istore_n 2, 1) := by decide +kernel
theorem dX12_least_2 : decode cX12_least 2 = .ok (.iload_n 2, 1) := by decide +kernel
theorem dX12_least_3 : decode cX12_least 3 = .ok (.bipush 64, 2) := by decide +kernel
theorem dX12_least_5 : decode cX12_least 5 = .ok (.if_icmp .ge 19, 3) := by decide +kernel
theorem dX12_least_8 : decode cX12_least 8 = .ok (.lload_n 0, 1) := by decide +kernel
theorem dX12_least_9 : decode cX12_least 9 = .ok (.iload_n 2, 1) := by decide +kernel
theorem dX12_least_10 : decode cX12_least 10 = .ok (.lushr, 1) := by decide +kernel
theorem dX12_least_11 : decode cX12_least 11 = .ok (.lconst 1, 1) := by decide +kernel
theorem dX12_least_12 : decode cX12_least 12 = .ok (.land, 1) := by decide +kernel
theorem dX12_least_13 : decode cX12_least 13 = .ok (.lconst 0, 1) := by decide +kernel
theorem dX12_least_14 : decode cX12_least 14 = .ok (.lcmp, 1) := by decide +kernel
theorem dX12_least_15 : decode cX12_least 15 = .ok (.ifCond .ne 9, 3) := by decide +kernel
theorem dX12_least_18 : decode cX12_least 18 = .ok (.iinc 2 1, 3) := by decide +kernel
theorem dX12_least_21 : decode cX12_least 21 = .ok (.goto (-19), 3) := by decide +kernel
theorem dX12_least_24 : decode cX12_least 24 = .ok (.iload_n 2, 1) := by decide +kernel
theorem dX12_least_25 : decode cX12_least 25 = .ok (.ireturn, 1) := by decide +kernel
def f_X12_least_2s (F P : Nat) (S : xSt) (rec_2 : Int64 → Int32 → xDt → Option (Int32 × xDt)) (v0 : Int64) (v2 : Int32) (D : xDt) : Option (Int32 × xDt) :=
  if 64 ≤ v2 then (some (v2, D)) else (if (lg_cmp ((jlushr v0 v2) &&& 1) 0) = 0 then (xlet (v2 + 1) fun v2_1 => rec_2 v0 v2_1 D) else (some (v2, D)))
def f_X12_least_2 (F P : Nat) (S : xSt) : Nat → Int64 → Int32 → xDt → Option (Int32 × xDt)
  | 0 => fun _ _ _ => none
  | n + 1 => f_X12_least_2s F P S (f_X12_least_2 F P S n)
set_option maxHeartbeats 4000000 in
theorem t_X12_least_2s {F P : Nat} {S : xSt} (hS : xWF S) {rec_2 : Int64 → Int32 → xDt → Option (Int32 × xDt)} (hrec_2 : ∀ {v0 : Int64} {v2 : Int32} {D : xDt} {r : Int32 × xDt}, rec_2 v0 v2 D = some r → yEx md_X12_least 0 2 [(0, .long v0), (2, .int v2)] [] S D (xQi S r)) {v0 : Int64} {v2 : Int32} {D : xDt} {r : Int32 × xDt} (h : f_X12_least_2s F P S rec_2 v0 v2 D = some r) : yEx md_X12_least 0 2 [(0, .long v0), (2, .int v2)] [] S D (xQi S r) := by
  unfold f_X12_least_2s at h
  refine x_iload_n dX12_least_2 1 rfl ?_
  refine x_bipush 64 dX12_least_3 (by decide) ?_
  refine x_icmp_ge 24 dX12_least_5 (by decide) (fun c => ?_) (fun c => ?_)
  · rw [if_pos c] at h
    refine x_iload_n dX12_least_24 1 rfl ?_
    obtain rfl := Option.some.inj h
    exact y_iret rfl dX12_least_25
  · rw [if_neg c] at h
    refine x_lload_n dX12_least_8 0 rfl ?_
    refine x_iload_n dX12_least_9 1 rfl ?_
    refine x_lushr dX12_least_10 ?_
    refine x_lconst 1 dX12_least_11 (by decide) ?_
    refine x_land dX12_least_12 ?_
    refine x_lconst 0 dX12_least_13 (by decide) ?_
    refine x_lcmp dX12_least_14 ?_
    refine x_if_ne 24 dX12_least_15 (by decide) (fun c => ?_) (fun c => ?_)
    · rw [if_neg c] at h
      refine x_iload_n dX12_least_24 1 rfl ?_
      obtain rfl := Option.some.inj h
      exact y_iret rfl dX12_least_25
    · rw [if_pos c] at h
      refine xlet_e h (fun v2_1 ev2_1 h => ?_)
      refine y_iinc v2_1 ev2_1 (by decide) [(2, .int v2_1), (0, .long v0)] dX12_least_18 1 rfl (by show _ < 3; decide) rfl ?_
      refine x_goto 2 dX12_least_21 (by decide) ?_
      refine x_lv (lv' := [(0, .long v0), (2, .int v2_1)]) [1, 0] rfl ?_
      exact hrec_2 h
theorem t_X12_least_2 {F P : Nat} {S : xSt} (hS : xWF S) : ∀ (n : Nat) {v0 : Int64} {v2 : Int32} {D : xDt} {r : Int32 × xDt}, f_X12_least_2 F P S n v0 v2 D = some r → yEx md_X12_least 0 2 [(0, .long v0), (2, .int v2)] [] S D (xQi S r) := by
  intro n
  induction n with
  | zero => intros; rename_i h; cases h
  | succ n ih =>
    intro v0 v2 D r  h
    exact t_X12_least_2s hS (fun  h => ih  h)  h

def f_X12_least (F P : Nat) (S : xSt) (v0 : Int64) (D : xDt) : Option (Int32 × xDt) :=
  f_X12_least_2 F P S F v0 0 D
set_option maxHeartbeats 4000000 in
theorem S_X12_least {F P : Nat} {S : xSt} (hS : xWF S) {v0 : Int64} {D : xDt} {r : Int32 × xDt} (h : f_X12_least F P S v0 D = some r) : xSp md_X12_least (0, 0, 0) [.long v0] (S, D) (xQi S r) := by
  unfold f_X12_least at h
  refine xEntry (by decide) (Nat.le_of_ble_eq_true rfl) ?_
  refine x_lv (lv' := [(0, .long v0)]) [0] rfl ?_
  refine x_iconst 0 dX12_least_0 (by decide) ?_
  refine y_istore_n 0 rfl [(2, .int 0), (0, .long v0)] dX12_least_1 (by show _ < 3; decide) rfl ?_
  refine x_lv (lv' := [(0, .long v0), (2, .int 0)]) [1, 0] rfl ?_
  exact t_X12_least_2 hS F h

theorem dX12_size_0 : decode cX12_size 0 = .ok (.iconst 0, 1) := by decide +kernel
theorem dX12_size_1 : decode cX12_size 1 = .ok (.istore_n 2, 1) := by decide +kernel
theorem dX12_size_2 : decode cX12_size 2 = .ok (.iconst 0, 1) := by decide +kernel
theorem dX12_size_3 : decode cX12_size 3 = .ok (.istore_n 3, 1) := by decide +kernel
theorem dX12_size_4 : decode cX12_size 4 = .ok (.iload_n 3, 1) := by decide +kernel
theorem dX12_size_5 : decode cX12_size 5 = .ok (.bipush 64, 2) := by decide +kernel
theorem dX12_size_7 : decode cX12_size 7 = .ok (.if_icmp .ge 18, 3) := by decide +kernel
theorem dX12_size_10 : decode cX12_size 10 = .ok (.iload_n 2, 1) := by decide +kernel
theorem dX12_size_11 : decode cX12_size 11 = .ok (.lload_n 0, 1) := by decide +kernel
theorem dX12_size_12 : decode cX12_size 12 = .ok (.iload_n 3, 1) := by decide +kernel
theorem dX12_size_13 : decode cX12_size 13 = .ok (.lushr, 1) := by decide +kernel
theorem dX12_size_14 : decode cX12_size 14 = .ok (.lconst 1, 1) := by decide +kernel
theorem dX12_size_15 : decode cX12_size 15 = .ok (.land, 1) := by decide +kernel
theorem dX12_size_16 : decode cX12_size 16 = .ok (.l2i, 1) := by decide +kernel
theorem dX12_size_17 : decode cX12_size 17 = .ok (.iadd, 1) := by decide +kernel
theorem dX12_size_18 : decode cX12_size 18 = .ok (.istore_n 2, 1) := by decide +kernel
theorem dX12_size_19 : decode cX12_size 19 = .ok (.iinc 3 1, 3) := by decide +kernel
theorem dX12_size_22 : decode cX12_size 22 = .ok (.goto (-18), 3) := by decide +kernel
theorem dX12_size_25 : decode cX12_size 25 = .ok (.iload_n 2, 1) := by decide +kernel
theorem dX12_size_26 : decode cX12_size 26 = .ok (.ireturn, 1) := by decide +kernel
def f_X12_size_4s (F P : Nat) (S : xSt) (rec_4 : Int64 → Int32 → Int32 → xDt → Option (Int32 × xDt)) (v0 : Int64) (v2 : Int32) (v3 : Int32) (D : xDt) : Option (Int32 × xDt) :=
  if 64 ≤ v3 then (some (v2, D)) else (xlet (v2 + (((jlushr v0 v3) &&& 1).toInt32)) fun v2_1 => xlet (v3 + 1) fun v3_2 => rec_4 v0 v2_1 v3_2 D)
def f_X12_size_4 (F P : Nat) (S : xSt) : Nat → Int64 → Int32 → Int32 → xDt → Option (Int32 × xDt)
  | 0 => fun _ _ _ _ => none
  | n + 1 => f_X12_size_4s F P S (f_X12_size_4 F P S n)
set_option maxHeartbeats 4000000 in
theorem t_X12_size_4s {F P : Nat} {S : xSt} (hS : xWF S) {rec_4 : Int64 → Int32 → Int32 → xDt → Option (Int32 × xDt)} (hrec_4 : ∀ {v0 : Int64} {v2 : Int32} {v3 : Int32} {D : xDt} {r : Int32 × xDt}, rec_4 v0 v2 v3 D = some r → yEx md_X12_size 0 4 [(0, .long v0), (2, .int v2), (3, .int v3)] [] S D (xQi S r)) {v0 : Int64} {v2 : Int32} {v3 : Int32} {D : xDt} {r : Int32 × xDt} (h : f_X12_size_4s F P S rec_4 v0 v2 v3 D = some r) : yEx md_X12_size 0 4 [(0, .long v0), (2, .int v2), (3, .int v3)] [] S D (xQi S r) := by
  unfold f_X12_size_4s at h
  refine x_iload_n dX12_size_4 2 rfl ?_
  refine x_bipush 64 dX12_size_5 (by decide) ?_
  refine x_icmp_ge 25 dX12_size_7 (by decide) (fun c => ?_) (fun c => ?_)
  · rw [if_pos c] at h
    refine x_iload_n dX12_size_25 1 rfl ?_
    obtain rfl := Option.some.inj h
    exact y_iret rfl dX12_size_26
  · rw [if_neg c] at h
    refine x_iload_n dX12_size_10 1 rfl ?_
    refine x_lload_n dX12_size_11 0 rfl ?_
    refine x_iload_n dX12_size_12 2 rfl ?_
    refine x_lushr dX12_size_13 ?_
    refine x_lconst 1 dX12_size_14 (by decide) ?_
    refine x_land dX12_size_15 ?_
    refine x_l2i dX12_size_16 ?_
    refine x_iadd dX12_size_17 ?_
    refine xlet_e h (fun v2_1 ev2_1 h => ?_)
    refine y_istore_n v2_1 ev2_1 [(2, .int v2_1), (0, .long v0), (3, .int v3)] dX12_size_18 (by show _ < 4; decide) rfl ?_
    refine xlet_e h (fun v3_2 ev3_2 h => ?_)
    refine y_iinc v3_2 ev3_2 (by decide) [(3, .int v3_2), (2, .int v2_1), (0, .long v0)] dX12_size_19 2 rfl (by show _ < 4; decide) rfl ?_
    refine x_goto 4 dX12_size_22 (by decide) ?_
    refine x_lv (lv' := [(0, .long v0), (2, .int v2_1), (3, .int v3_2)]) [2, 1, 0] rfl ?_
    exact hrec_4 h
theorem t_X12_size_4 {F P : Nat} {S : xSt} (hS : xWF S) : ∀ (n : Nat) {v0 : Int64} {v2 : Int32} {v3 : Int32} {D : xDt} {r : Int32 × xDt}, f_X12_size_4 F P S n v0 v2 v3 D = some r → yEx md_X12_size 0 4 [(0, .long v0), (2, .int v2), (3, .int v3)] [] S D (xQi S r) := by
  intro n
  induction n with
  | zero => intros; rename_i h; cases h
  | succ n ih =>
    intro v0 v2 v3 D r  h
    exact t_X12_size_4s hS (fun  h => ih  h)  h

def f_X12_size (F P : Nat) (S : xSt) (v0 : Int64) (D : xDt) : Option (Int32 × xDt) :=
  f_X12_size_4 F P S F v0 0 0 D
set_option maxHeartbeats 4000000 in
theorem S_X12_size {F P : Nat} {S : xSt} (hS : xWF S) {v0 : Int64} {D : xDt} {r : Int32 × xDt} (h : f_X12_size F P S v0 D = some r) : xSp md_X12_size (0, 0, 0) [.long v0] (S, D) (xQi S r) := by
  unfold f_X12_size at h
  refine xEntry (by decide) (Nat.le_of_ble_eq_true rfl) ?_
  refine x_lv (lv' := [(0, .long v0)]) [0] rfl ?_
  refine x_iconst 0 dX12_size_0 (by decide) ?_
  refine y_istore_n 0 rfl [(2, .int 0), (0, .long v0)] dX12_size_1 (by show _ < 4; decide) rfl ?_
  refine x_iconst 0 dX12_size_2 (by decide) ?_
  refine y_istore_n 0 rfl [(3, .int 0), (2, .int 0), (0, .long v0)] dX12_size_3 (by show _ < 4; decide) rfl ?_
  refine x_lv (lv' := [(0, .long v0), (2, .int 0), (3, .int 0)]) [2, 1, 0] rfl ?_
  exact t_X12_size_4 hS F h

theorem dX12_gather_0 : decode cX12_gather 0 = .ok (.lload_n 2, 1) := by decide +kernel
theorem dX12_gather_1 : decode cX12_gather 1 = .ok (.invokestatic 22, 3) := by decide +kernel
theorem dX12_gather_4 : decode cX12_gather 4 = .ok (.istore 4, 2) := by decide +kernel
theorem dX12_gather_6 : decode cX12_gather 6 = .ok (.iconst 0, 1) := by decide +kernel
theorem dX12_gather_7 : decode cX12_gather 7 = .ok (.istore 5, 2) := by decide +kernel
theorem dX12_gather_9 : decode cX12_gather 9 = .ok (.iload 5, 2) := by decide +kernel
theorem dX12_gather_11 : decode cX12_gather 11 = .ok (.aload_n 0, 1) := by decide +kernel
theorem dX12_gather_12 : decode cX12_gather 12 = .ok (.getfield 7, 3) := by decide +kernel
theorem dX12_gather_15 : decode cX12_gather 15 = .ok (.if_icmp .ge 36, 3) := by decide +kernel
theorem dX12_gather_18 : decode cX12_gather 18 = .ok (.lload_n 2, 1) := by decide +kernel
theorem dX12_gather_19 : decode cX12_gather 19 = .ok (.iload 5, 2) := by decide +kernel
theorem dX12_gather_21 : decode cX12_gather 21 = .ok (.lushr, 1) := by decide +kernel
theorem dX12_gather_22 : decode cX12_gather 22 = .ok (.lconst 1, 1) := by decide +kernel
theorem dX12_gather_23 : decode cX12_gather 23 = .ok (.land, 1) := by decide +kernel
theorem dX12_gather_24 : decode cX12_gather 24 = .ok (.lconst 1, 1) := by decide +kernel
theorem dX12_gather_25 : decode cX12_gather 25 = .ok (.lcmp, 1) := by decide +kernel
theorem dX12_gather_26 : decode cX12_gather 26 = .ok (.ifCond .ne 19, 3) := by decide +kernel
theorem dX12_gather_29 : decode cX12_gather 29 = .ok (.aload_n 0, 1) := by decide +kernel
theorem dX12_gather_30 : decode cX12_gather 30 = .ok (.getfield 14, 3) := by decide +kernel
theorem dX12_gather_33 : decode cX12_gather 33 = .ok (.bipush 64, 2) := by decide +kernel
theorem dX12_gather_35 : decode cX12_gather 35 = .ok (.iload_n 1, 1) := by decide +kernel
theorem dX12_gather_36 : decode cX12_gather 36 = .ok (.iconst 1, 1) := by decide +kernel
theorem dX12_gather_37 : decode cX12_gather 37 = .ok (.isub, 1) := by decide +kernel
theorem dX12_gather_38 : decode cX12_gather 38 = .ok (.imul, 1) := by decide +kernel
theorem dX12_gather_39 : decode cX12_gather 39 = .ok (.iload 5, 2) := by decide +kernel
theorem dX12_gather_41 : decode cX12_gather 41 = .ok (.iadd, 1) := by decide +kernel
theorem dX12_gather_42 : decode cX12_gather 42 = .ok (.iload 4, 2) := by decide +kernel
theorem dX12_gather_44 : decode cX12_gather 44 = .ok (.iastore, 1) := by decide +kernel
theorem dX12_gather_45 : decode cX12_gather 45 = .ok (.iinc 5 1, 3) := by decide +kernel
theorem dX12_gather_48 : decode cX12_gather 48 = .ok (.goto (-39), 3) := by decide +kernel
theorem dX12_gather_51 : decode cX12_gather 51 = .ok (.return_, 1) := by decide +kernel
def f_X12_gather_45 (F P : Nat) (S : xSt) (rec_9 : Nat → Int32 → Int64 → Int32 → Int32 → xDt → Option (xDt)) (v0 : Nat) (v1 : Int32) (v2 : Int64) (v4 : Int32) (v5 : Int32) (D : xDt) : Option (xDt) :=
  xlet (v5 + 1) fun v5_1 => rec_9 v0 v1 v2 v4 v5_1 D
set_option maxHeartbeats 4000000 in
theorem t_X12_gather_45 {F P : Nat} {S : xSt} (hS : xWF S) {rec_9 : Nat → Int32 → Int64 → Int32 → Int32 → xDt → Option (xDt)} (hrec_9 : ∀ {v0 : Nat} {v1 : Int32} {v2 : Int64} {v4 : Int32} {v5 : Int32} {D : xDt} {r : xDt}, xK S v0 12 → rec_9 v0 v1 v2 v4 v5 D = some r → yEx md_X12_gather 1 9 [(0, .ref v0), (1, .int v1), (2, .long v2), (4, .int v4), (5, .int v5)] [] S D (xQv S r)) {v0 : Nat} {v1 : Int32} {v2 : Int64} {v4 : Int32} {v5 : Int32} {D : xDt} {r : xDt} (k0 : xK S v0 12) (h : f_X12_gather_45 F P S rec_9 v0 v1 v2 v4 v5 D = some r) : yEx md_X12_gather 1 45 [(0, .ref v0), (1, .int v1), (2, .long v2), (4, .int v4), (5, .int v5)] [] S D (xQv S r) := by
  unfold f_X12_gather_45 at h
  refine xlet_e h (fun v5_1 ev5_1 h => ?_)
  refine y_iinc v5_1 ev5_1 (by decide) [(5, .int v5_1), (0, .ref v0), (1, .int v1), (2, .long v2), (4, .int v4)] dX12_gather_45 4 rfl (by show _ < 6; decide) rfl ?_
  refine x_goto 9 dX12_gather_48 (by decide) ?_
  refine x_lv (lv' := [(0, .ref v0), (1, .int v1), (2, .long v2), (4, .int v4), (5, .int v5_1)]) [1, 2, 3, 4, 0] rfl ?_
  exact hrec_9 k0 h

def f_X12_gather_9s (F P : Nat) (S : xSt) (rec_9 : Nat → Int32 → Int64 → Int32 → Int32 → xDt → Option (xDt)) (v0 : Nat) (v1 : Int32) (v2 : Int64) (v4 : Int32) (v5 : Int32) (D : xDt) : Option (xDt) :=
  if (D.1 v0 1) ≤ v5 then (some D) else (if (lg_cmp ((jlushr v2 v5) &&& 1) 1) = 0 then (xgrd (xin ((64 * (v1 - 1)) + v5) (xl S (xr S v0 3))) (xlet (xup D.1 (xr S v0 3) ((64 * (v1 - 1)) + v5).toNatClampNeg v4, D.2) fun D2 => f_X12_gather_45 F P S rec_9 v0 v1 v2 v4 v5 D2)) else (f_X12_gather_45 F P S rec_9 v0 v1 v2 v4 v5 D))
def f_X12_gather_9 (F P : Nat) (S : xSt) : Nat → Nat → Int32 → Int64 → Int32 → Int32 → xDt → Option (xDt)
  | 0 => fun _ _ _ _ _ _ => none
  | n + 1 => f_X12_gather_9s F P S (f_X12_gather_9 F P S n)
set_option maxHeartbeats 4000000 in
theorem t_X12_gather_9s {F P : Nat} {S : xSt} (hS : xWF S) {rec_9 : Nat → Int32 → Int64 → Int32 → Int32 → xDt → Option (xDt)} (hrec_9 : ∀ {v0 : Nat} {v1 : Int32} {v2 : Int64} {v4 : Int32} {v5 : Int32} {D : xDt} {r : xDt}, xK S v0 12 → rec_9 v0 v1 v2 v4 v5 D = some r → yEx md_X12_gather 1 9 [(0, .ref v0), (1, .int v1), (2, .long v2), (4, .int v4), (5, .int v5)] [] S D (xQv S r)) {v0 : Nat} {v1 : Int32} {v2 : Int64} {v4 : Int32} {v5 : Int32} {D : xDt} {r : xDt} (k0 : xK S v0 12) (h : f_X12_gather_9s F P S rec_9 v0 v1 v2 v4 v5 D = some r) : yEx md_X12_gather 1 9 [(0, .ref v0), (1, .int v1), (2, .long v2), (4, .int v4), (5, .int v5)] [] S D (xQv S r) := by
  unfold f_X12_gather_9s at h
  refine x_iload dX12_gather_9 4 rfl ?_
  refine x_aload_n dX12_gather_11 0 rfl ?_
  refine y_geti fl_RX12_7 dX12_gather_12 rfl k0 ?_
  refine x_icmp_ge 51 dX12_gather_15 (by decide) (fun c => ?_) (fun c => ?_)
  · rw [if_pos c] at h
    obtain rfl := Option.some.inj h
    exact y_vret rfl dX12_gather_51
  · rw [if_neg c] at h
    refine x_lload_n dX12_gather_18 2 rfl ?_
    refine x_iload dX12_gather_19 4 rfl ?_
    refine x_lushr dX12_gather_21 ?_
    refine x_lconst 1 dX12_gather_22 (by decide) ?_
    refine x_land dX12_gather_23 ?_
    refine x_lconst 1 dX12_gather_24 (by decide) ?_
    refine x_lcmp dX12_gather_25 ?_
    refine x_if_ne 45 dX12_gather_26 (by decide) (fun c => ?_) (fun c => ?_)
    · rw [if_neg c] at h
      exact t_X12_gather_45 hS hrec_9 k0 h
    · rw [if_pos c] at h
      refine x_aload_n dX12_gather_29 0 rfl ?_
      refine y_getr (kd := 100) hS fl_RX12_14 dX12_gather_30 rfl k0 ?_
      refine x_bipush 64 dX12_gather_33 (by decide) ?_
      refine x_iload_n dX12_gather_35 1 rfl ?_
      refine x_iconst 1 dX12_gather_36 (by decide) ?_
      refine x_isub dX12_gather_37 ?_
      refine x_imul dX12_gather_38 ?_
      refine x_iload dX12_gather_39 4 rfl ?_
      refine x_iadd dX12_gather_41 ?_
      refine x_iload dX12_gather_42 3 rfl ?_
      refine xgrd_e h (fun g1 h => ?_)
      refine xlet_e h (fun D2 eD2 h => ?_)
      refine y_iast dX12_gather_44 ((hS.f k0 3 100 rfl).2) g1 eD2 ?_
      exact t_X12_gather_45 hS hrec_9 k0 h
theorem t_X12_gather_9 {F P : Nat} {S : xSt} (hS : xWF S) : ∀ (n : Nat) {v0 : Nat} {v1 : Int32} {v2 : Int64} {v4 : Int32} {v5 : Int32} {D : xDt} {r : xDt}, xK S v0 12 → f_X12_gather_9 F P S n v0 v1 v2 v4 v5 D = some r → yEx md_X12_gather 1 9 [(0, .ref v0), (1, .int v1), (2, .long v2), (4, .int v4), (5, .int v5)] [] S D (xQv S r) := by
  intro n
  induction n with
  | zero => intros; rename_i h; cases h
  | succ n ih =>
    intro v0 v1 v2 v4 v5 D r k0 h
    exact t_X12_gather_9s hS (fun k0 h => ih k0 h) k0 h

def f_X12_gather (F P : Nat) (S : xSt) (v0 : Nat) (v1 : Int32) (v2 : Int64) (D : xDt) : Option (xDt) :=
  (f_X12_least F P S v2 D).bind fun q1 => f_X12_gather_9 F P S F v0 v1 v2 q1.1 0 q1.2
set_option maxHeartbeats 4000000 in
theorem S_X12_gather {F P : Nat} {S : xSt} (hS : xWF S) {v0 : Nat} {v1 : Int32} {v2 : Int64} {D : xDt} {r : xDt} (k0 : xK S v0 12) (h : f_X12_gather F P S v0 v1 v2 D = some r) : xSp md_X12_gather (1, 0, 0) [.ref v0, .int v1, .long v2] (S, D) (xQv S r) := by
  unfold f_X12_gather at h
  refine xEntry (by decide) (Nat.le_of_ble_eq_true rfl) ?_
  refine x_lv (lv' := [(0, .ref v0), (1, .int v1), (2, .long v2)]) [0, 1, 2] rfl ?_
  refine x_lload_n dX12_gather_0 2 rfl ?_
  refine xbnd_e h (fun q1 e1 h => ?_)
  refine y_callSi (As := [.long v2]) (q := q1) cs_RX12_22 dX12_gather_1 rfl (Nat.le_of_ble_eq_true rfl) (by omega) (S_X12_least hS e1) ?_
  refine y_istore q1.1 rfl [(4, .int q1.1), (0, .ref v0), (1, .int v1), (2, .long v2)] dX12_gather_4 (by show _ < 6; decide) rfl ?_
  refine x_iconst 0 dX12_gather_6 (by decide) ?_
  refine y_istore 0 rfl [(5, .int 0), (4, .int q1.1), (0, .ref v0), (1, .int v1), (2, .long v2)] dX12_gather_7 (by show _ < 6; decide) rfl ?_
  refine x_lv (lv' := [(0, .ref v0), (1, .int v1), (2, .long v2), (4, .int q1.1), (5, .int 0)]) [2, 3, 4, 1, 0] rfl ?_
  exact t_X12_gather_9 hS F k0 h

theorem dX12_all_0 : decode cX12_all 0 = .ok (.aload_n 0, 1) := by decide +kernel
theorem dX12_all_1 : decode cX12_all 1 = .ok (.getfield 7, 3) := by decide +kernel
theorem dX12_all_4 : decode cX12_all 4 = .ok (.bipush 64, 2) := by decide +kernel
theorem dX12_all_6 : decode cX12_all 6 = .ok (.if_icmp .ne 9, 3) := by decide +kernel
theorem dX12_all_9 : decode cX12_all 9 = .ok (.ldc2_w 26, 3) := by decide +kernel
theorem dX12_all_12 : decode cX12_all 12 = .ok (.goto 11, 3) := by decide +kernel
theorem dX12_all_15 : decode cX12_all 15 = .ok (.lconst 1, 1) := by decide +kernel
theorem dX12_all_16 : decode cX12_all 16 = .ok (.aload_n 0, 1) := by decide +kernel
theorem dX12_all_17 : decode cX12_all 17 = .ok (.getfield 7, 3) := by decide +kernel
theorem dX12_all_20 : decode cX12_all 20 = .ok (.lshl, 1) := by decide +kernel
theorem dX12_all_21 : decode cX12_all 21 = .ok (.lconst 1, 1) := by decide +kernel
theorem dX12_all_22 : decode cX12_all 22 = .ok (.lsub, 1) := by decide +kernel
theorem dX12_all_23 : decode cX12_all 23 = .ok (.lreturn, 1) := by decide +kernel
def f_X12_all (F P : Nat) (S : xSt) (v0 : Nat) (D : xDt) : Option (Int64 × xDt) :=
  if (D.1 v0 1) = 64 then (some ((-1), D)) else (some ((jlshl 1 (D.1 v0 1)) - 1, D))
set_option maxHeartbeats 4000000 in
theorem S_X12_all {F P : Nat} {S : xSt} (hS : xWF S) {v0 : Nat} {D : xDt} {r : Int64 × xDt} (k0 : xK S v0 12) (h : f_X12_all F P S v0 D = some r) : xSp md_X12_all (0, 0, 0) [.ref v0] (S, D) (xQl S r) := by
  unfold f_X12_all at h
  refine xEntry (by decide) (Nat.le_of_ble_eq_true rfl) ?_
  refine x_lv (lv' := [(0, .ref v0)]) [0] rfl ?_
  refine x_aload_n dX12_all_0 0 rfl ?_
  refine y_geti fl_RX12_7 dX12_all_1 rfl k0 ?_
  refine x_bipush 64 dX12_all_4 (by decide) ?_
  refine x_icmp_ne 15 dX12_all_6 (by decide) (fun c => ?_) (fun c => ?_)
  · rw [if_neg c] at h
    refine x_lconst 1 dX12_all_15 (by decide) ?_
    refine x_aload_n dX12_all_16 0 rfl ?_
    refine y_geti fl_RX12_7 dX12_all_17 rfl k0 ?_
    refine x_lshl dX12_all_20 ?_
    refine x_lconst 1 dX12_all_21 (by decide) ?_
    refine x_lsub dX12_all_22 ?_
    obtain rfl := Option.some.inj h
    exact y_lret rfl dX12_all_23
  · rw [if_pos c] at h
    refine x_ldc2 (-1) dX12_all_9 wd_1127 ?_
    refine x_goto 23 dX12_all_12 (by decide) ?_
    obtain rfl := Option.some.inj h
    exact y_lret rfl dX12_all_23

theorem dX12_world_0 : decode cX12_world 0 = .ok (.iload_n 1, 1) := by decide +kernel
theorem dX12_world_1 : decode cX12_world 1 = .ok (.iconst 0, 1) := by decide +kernel
theorem dX12_world_2 : decode cX12_world 2 = .ok (.sipush 255, 3) := by decide +kernel
theorem dX12_world_5 : decode cX12_world 5 = .ok (.invokestatic 10, 3) := by decide +kernel
theorem dX12_world_8 : decode cX12_world 8 = .ok (.ifCond .eq 12, 3) := by decide +kernel
theorem dX12_world_11 : decode cX12_world 11 = .ok (.aload_n 0, 1) := by decide +kernel
theorem dX12_world_12 : decode cX12_world 12 = .ok (.getfield 7, 3) := by decide +kernel
theorem dX12_world_15 : decode cX12_world 15 = .ok (.bipush 64, 2) := by decide +kernel
theorem dX12_world_17 : decode cX12_world 17 = .ok (.if_icmp .ne 5, 3) := by decide +kernel
theorem dX12_world_20 : decode cX12_world 20 = .ok (.iconst (-1), 1) := by decide +kernel
theorem dX12_world_21 : decode cX12_world 21 = .ok (.ireturn, 1) := by decide +kernel
theorem dX12_world_22 : decode cX12_world 22 = .ok (.aload_n 0, 1) := by decide +kernel
theorem dX12_world_23 : decode cX12_world 23 = .ok (.iconst 0, 1) := by decide +kernel
theorem dX12_world_24 : decode cX12_world 24 = .ok (.putfield 28, 3) := by decide +kernel
theorem dX12_world_27 : decode cX12_world 27 = .ok (.aload_n 0, 1) := by decide +kernel
theorem dX12_world_28 : decode cX12_world 28 = .ok (.getfield 31, 3) := by decide +kernel
theorem dX12_world_31 : decode cX12_world 31 = .ok (.aload_n 0, 1) := by decide +kernel
theorem dX12_world_32 : decode cX12_world 32 = .ok (.getfield 7, 3) := by decide +kernel
theorem dX12_world_35 : decode cX12_world 35 = .ok (.iload_n 1, 1) := by decide +kernel
theorem dX12_world_36 : decode cX12_world 36 = .ok (.iastore, 1) := by decide +kernel
theorem dX12_world_37 : decode cX12_world 37 = .ok (.iconst 0, 1) := by decide +kernel
theorem dX12_world_38 : decode cX12_world 38 = .ok (.istore_n 2, 1) := by decide +kernel
theorem dX12_world_39 : decode cX12_world 39 = .ok (.iload_n 2, 1) := by decide +kernel
theorem dX12_world_40 : decode cX12_world 40 = .ok (.iconst 4, 1) := by decide +kernel
theorem dX12_world_41 : decode cX12_world 41 = .ok (.if_icmp .ge 27, 3) := by decide +kernel
theorem dX12_world_44 : decode cX12_world 44 = .ok (.aload_n 0, 1) := by decide +kernel
theorem dX12_world_45 : decode cX12_world 45 = .ok (.getfield 14, 3) := by decide +kernel
theorem dX12_world_48 : decode cX12_world 48 = .ok (.bipush 64, 2) := by decide +kernel
theorem dX12_world_50 : decode cX12_world 50 = .ok (.iload_n 2, 1) := by decide +kernel
theorem dX12_world_51 : decode cX12_world 51 = .ok (.imul, 1) := by decide +kernel
theorem dX12_world_52 : decode cX12_world 52 = .ok (.aload_n 0, 1) := by decide +kernel
theorem dX12_world_53 : decode cX12_world 53 = .ok (.getfield 7, 3) := by decide +kernel
theorem dX12_world_56 : decode cX12_world 56 = .ok (.iadd, 1) := by decide +kernel
theorem dX12_world_57 : decode cX12_world 57 = .ok (.aload_n 0, 1) := by decide +kernel
theorem dX12_world_58 : decode cX12_world 58 = .ok (.getfield 7, 3) := by decide +kernel
theorem dX12_world_61 : decode cX12_world 61 = .ok (.iastore, 1) := by decide +kernel
theorem dX12_world_62 : decode cX12_world 62 = .ok (.iinc 2 1, 3) := by decide +kernel
theorem dX12_world_65 : decode cX12_world 65 = .ok (.goto (-26), 3) := by decide +kernel
theorem dX12_world_68 : decode cX12_world 68 = .ok (.aload_n 0, 1) := by decide +kernel
theorem dX12_world_69 : decode cX12_world 69 = .ok (.dup, 1) := by decide +kernel
theorem dX12_world_70 : decode cX12_world 70 = .ok (.getfield 7, 3) := by decide +kernel
theorem dX12_world_73 : decode cX12_world 73 = .ok (.iconst 1, 1) := by decide +kernel
theorem dX12_world_74 : decode cX12_world 74 = .ok (.iadd, 1) := by decide +kernel
theorem dX12_world_75 : decode cX12_world 75 = .ok (.putfield 7, 3) := by decide +kernel
theorem dX12_world_78 : decode cX12_world 78 = .ok (.aload_n 0, 1) := by decide +kernel
theorem dX12_world_79 : decode cX12_world 79 = .ok (.getfield 7, 3) := by decide +kernel
theorem dX12_world_82 : decode cX12_world 82 = .ok (.iconst 1, 1) := by decide +kernel
theorem dX12_world_83 : decode cX12_world 83 = .ok (.isub, 1) := by decide +kernel
theorem dX12_world_84 : decode cX12_world 84 = .ok (.ireturn, 1) := by decide +kernel
def f_X12_world_39s (F P : Nat) (S : xSt) (rec_39 : Nat → Int32 → xDt → Option (Int32 × xDt)) (v0 : Nat) (v2 : Int32) (D : xDt) : Option (Int32 × xDt) :=
  if 4 ≤ v2 then (xlet (xup D.1 v0 1 ((D.1 v0 1) + 1), D.2) fun D1 => some ((D1.1 v0 1) - 1, D1)) else (xgrd (xin ((64 * v2) + (D.1 v0 1)) (xl S (xr S v0 3))) (xlet (xup D.1 (xr S v0 3) ((64 * v2) + (D.1 v0 1)).toNatClampNeg (D.1 v0 1), D.2) fun D3 => xlet (v2 + 1) fun v2_4 => rec_39 v0 v2_4 D3))
def f_X12_world_39 (F P : Nat) (S : xSt) : Nat → Nat → Int32 → xDt → Option (Int32 × xDt)
  | 0 => fun _ _ _ => none
  | n + 1 => f_X12_world_39s F P S (f_X12_world_39 F P S n)
set_option maxHeartbeats 4000000 in
theorem t_X12_world_39s {F P : Nat} {S : xSt} (hS : xWF S) {rec_39 : Nat → Int32 → xDt → Option (Int32 × xDt)} (hrec_39 : ∀ {v0 : Nat} {v2 : Int32} {D : xDt} {r : Int32 × xDt}, xK S v0 12 → rec_39 v0 v2 D = some r → yEx md_X12_world 1 39 [(0, .ref v0), (2, .int v2)] [] S D (xQi S r)) {v0 : Nat} {v2 : Int32} {D : xDt} {r : Int32 × xDt} (k0 : xK S v0 12) (h : f_X12_world_39s F P S rec_39 v0 v2 D = some r) : yEx md_X12_world 1 39 [(0, .ref v0), (2, .int v2)] [] S D (xQi S r) := by
  unfold f_X12_world_39s at h
  refine x_iload_n dX12_world_39 1 rfl ?_
  refine x_iconst 4 dX12_world_40 (by decide) ?_
  refine x_icmp_ge 68 dX12_world_41 (by decide) (fun c => ?_) (fun c => ?_)
  · rw [if_pos c] at h
    refine x_aload_n dX12_world_68 0 rfl ?_
    refine x_dup dX12_world_69 rfl ?_
    refine y_geti fl_RX12_7 dX12_world_70 rfl k0 ?_
    refine x_iconst 1 dX12_world_73 (by decide) ?_
    refine x_iadd dX12_world_74 ?_
    refine xlet_e h (fun D1 eD1 h => ?_)
    refine y_puti fp_RX12_7 dX12_world_75 rfl k0 eD1 ?_
    refine x_aload_n dX12_world_78 0 rfl ?_
    refine y_geti fl_RX12_7 dX12_world_79 rfl k0 ?_
    refine x_iconst 1 dX12_world_82 (by decide) ?_
    refine x_isub dX12_world_83 ?_
    obtain rfl := Option.some.inj h
    exact y_iret rfl dX12_world_84
  · rw [if_neg c] at h
    refine x_aload_n dX12_world_44 0 rfl ?_
    refine y_getr (kd := 100) hS fl_RX12_14 dX12_world_45 rfl k0 ?_
    refine x_bipush 64 dX12_world_48 (by decide) ?_
    refine x_iload_n dX12_world_50 1 rfl ?_
    refine x_imul dX12_world_51 ?_
    refine x_aload_n dX12_world_52 0 rfl ?_
    refine y_geti fl_RX12_7 dX12_world_53 rfl k0 ?_
    refine x_iadd dX12_world_56 ?_
    refine x_aload_n dX12_world_57 0 rfl ?_
    refine y_geti fl_RX12_7 dX12_world_58 rfl k0 ?_
    refine xgrd_e h (fun g2 h => ?_)
    refine xlet_e h (fun D3 eD3 h => ?_)
    refine y_iast dX12_world_61 ((hS.f k0 3 100 rfl).2) g2 eD3 ?_
    refine xlet_e h (fun v2_4 ev2_4 h => ?_)
    refine y_iinc v2_4 ev2_4 (by decide) [(2, .int v2_4), (0, .ref v0)] dX12_world_62 1 rfl (by show _ < 3; decide) rfl ?_
    refine x_goto 39 dX12_world_65 (by decide) ?_
    refine x_lv (lv' := [(0, .ref v0), (2, .int v2_4)]) [1, 0] rfl ?_
    exact hrec_39 k0 h
theorem t_X12_world_39 {F P : Nat} {S : xSt} (hS : xWF S) : ∀ (n : Nat) {v0 : Nat} {v2 : Int32} {D : xDt} {r : Int32 × xDt}, xK S v0 12 → f_X12_world_39 F P S n v0 v2 D = some r → yEx md_X12_world 1 39 [(0, .ref v0), (2, .int v2)] [] S D (xQi S r) := by
  intro n
  induction n with
  | zero => intros; rename_i h; cases h
  | succ n ih =>
    intro v0 v2 D r k0 h
    exact t_X12_world_39s hS (fun k0 h => ih k0 h) k0 h

def f_X12_world (F P : Nat) (S : xSt) (v0 : Nat) (v1 : Int32) (D : xDt) : Option (Int32 × xDt) :=
  (f_X12_in F P S v1 0 255 D).bind fun q1 => if q1.1 = 0 then (some ((-1), q1.2)) else (if (q1.2.1 v0 1) = 64 then (some ((-1), q1.2)) else (xlet (xup q1.2.1 v0 7 0, q1.2.2) fun D2 => xgrd (xin (D2.1 v0 1) (xl S (xr S v0 2))) (xlet (xup D2.1 (xr S v0 2) (D2.1 v0 1).toNatClampNeg v1, D2.2) fun D4 => f_X12_world_39 F P S F v0 0 D4)))
set_option maxHeartbeats 4000000 in
theorem S_X12_world {F P : Nat} {S : xSt} (hS : xWF S) {v0 : Nat} {v1 : Int32} {D : xDt} {r : Int32 × xDt} (k0 : xK S v0 12) (h : f_X12_world F P S v0 v1 D = some r) : xSp md_X12_world (1, 0, 0) [.ref v0, .int v1] (S, D) (xQi S r) := by
  unfold f_X12_world at h
  refine xEntry (by decide) (Nat.le_of_ble_eq_true rfl) ?_
  refine x_lv (lv' := [(0, .ref v0), (1, .int v1)]) [0, 1] rfl ?_
  refine x_iload_n dX12_world_0 1 rfl ?_
  refine x_iconst 0 dX12_world_1 (by decide) ?_
  refine x_sipush 255 dX12_world_2 (by decide) ?_
  refine xbnd_e h (fun q1 e1 h => ?_)
  refine y_callSi (As := [.int v1, .int 0, .int 255]) (q := q1) cs_RX12_10 dX12_world_5 rfl (Nat.le_of_ble_eq_true rfl) (by omega) (S_X12_in hS e1) ?_
  refine x_if_eq 20 dX12_world_8 (by decide) (fun c => ?_) (fun c => ?_)
  · rw [if_pos c] at h
    refine x_iconst (-1) dX12_world_20 (by decide) ?_
    obtain rfl := Option.some.inj h
    exact y_iret rfl dX12_world_21
  · rw [if_neg c] at h
    refine x_aload_n dX12_world_11 0 rfl ?_
    refine y_geti fl_RX12_7 dX12_world_12 rfl k0 ?_
    refine x_bipush 64 dX12_world_15 (by decide) ?_
    refine x_icmp_ne 22 dX12_world_17 (by decide) (fun c => ?_) (fun c => ?_)
    · rw [if_neg c] at h
      refine x_aload_n dX12_world_22 0 rfl ?_
      refine x_iconst 0 dX12_world_23 (by decide) ?_
      refine xlet_e h (fun D2 eD2 h => ?_)
      refine y_puti fp_RX12_28 dX12_world_24 rfl k0 eD2 ?_
      refine x_aload_n dX12_world_27 0 rfl ?_
      refine y_getr (kd := 100) hS fl_RX12_31 dX12_world_28 rfl k0 ?_
      refine x_aload_n dX12_world_31 0 rfl ?_
      refine y_geti fl_RX12_7 dX12_world_32 rfl k0 ?_
      refine x_iload_n dX12_world_35 1 rfl ?_
      refine xgrd_e h (fun g3 h => ?_)
      refine xlet_e h (fun D4 eD4 h => ?_)
      refine y_iast dX12_world_36 ((hS.f k0 2 100 rfl).2) g3 eD4 ?_
      refine x_iconst 0 dX12_world_37 (by decide) ?_
      refine y_istore_n 0 rfl [(2, .int 0), (0, .ref v0), (1, .int v1)] dX12_world_38 (by show _ < 3; decide) rfl ?_
      refine x_lv (lv' := [(0, .ref v0), (2, .int 0)]) [1, 0] rfl ?_
      exact t_X12_world_39 hS F k0 h
    · rw [if_pos c] at h
      refine x_iconst (-1) dX12_world_20 (by decide) ?_
      obtain rfl := Option.some.inj h
      exact y_iret rfl dX12_world_21

theorem dX12_tie_0 : decode cX12_tie 0 = .ok (.iload_n 1, 1) := by decide +kernel
theorem dX12_tie_1 : decode cX12_tie 1 = .ok (.invokestatic 34, 3) := by decide +kernel
theorem dX12_tie_4 : decode cX12_tie 4 = .ok (.ifCond .eq 19, 3) := by decide +kernel
theorem dX12_tie_7 : decode cX12_tie 7 = .ok (.aload_n 0, 1) := by decide +kernel
theorem dX12_tie_8 : decode cX12_tie 8 = .ok (.iload_n 2, 1) := by decide +kernel
theorem dX12_tie_9 : decode cX12_tie 9 = .ok (.invokevirtual 38, 3) := by decide +kernel
theorem dX12_tie_12 : decode cX12_tie 12 = .ok (.ifCond .eq 11, 3) := by decide +kernel
theorem dX12_tie_15 : decode cX12_tie 15 = .ok (.aload_n 0, 1) := by decide +kernel
theorem dX12_tie_16 : decode cX12_tie 16 = .ok (.iload_n 3, 1) := by decide +kernel
theorem dX12_tie_17 : decode cX12_tie 17 = .ok (.invokevirtual 38, 3) := by decide +kernel
theorem dX12_tie_20 : decode cX12_tie 20 = .ok (.ifCond .ne 5, 3) := by decide +kernel
theorem dX12_tie_23 : decode cX12_tie 23 = .ok (.iconst (-1), 1) := by decide +kernel
theorem dX12_tie_24 : decode cX12_tie 24 = .ok (.ireturn, 1) := by decide +kernel
theorem dX12_tie_25 : decode cX12_tie 25 = .ok (.aload_n 0, 1) := by decide +kernel
theorem dX12_tie_26 : decode cX12_tie 26 = .ok (.iconst 0, 1) := by decide +kernel
theorem dX12_tie_27 : decode cX12_tie 27 = .ok (.putfield 28, 3) := by decide +kernel
theorem dX12_tie_30 : decode cX12_tie 30 = .ok (.aload_n 0, 1) := by decide +kernel
theorem dX12_tie_31 : decode cX12_tie 31 = .ok (.iload_n 1, 1) := by decide +kernel
theorem dX12_tie_32 : decode cX12_tie 32 = .ok (.iload_n 2, 1) := by decide +kernel
theorem dX12_tie_33 : decode cX12_tie 33 = .ok (.invokevirtual 41, 3) := by decide +kernel
theorem dX12_tie_36 : decode cX12_tie 36 = .ok (.aload_n 0, 1) := by decide +kernel
theorem dX12_tie_37 : decode cX12_tie 37 = .ok (.iload_n 1, 1) := by decide +kernel
theorem dX12_tie_38 : decode cX12_tie 38 = .ok (.iload_n 3, 1) := by decide +kernel
theorem dX12_tie_39 : decode cX12_tie 39 = .ok (.invokevirtual 41, 3) := by decide +kernel
theorem dX12_tie_42 : decode cX12_tie 42 = .ok (.lor, 1) := by decide +kernel
theorem dX12_tie_43 : decode cX12_tie 43 = .ok (.lstore 4, 2) := by decide +kernel
theorem dX12_tie_45 : decode cX12_tie 45 = .ok (.aload_n 0, 1) := by decide +kernel
theorem dX12_tie_46 : decode cX12_tie 46 = .ok (.iload_n 1, 1) := by decide +kernel
theorem dX12_tie_47 : decode cX12_tie 47 = .ok (.lload 4, 2) := by decide +kernel
theorem dX12_tie_49 : decode cX12_tie 49 = .ok (.invokevirtual 45, 3) := by decide +kernel
theorem dX12_tie_52 : decode cX12_tie 52 = .ok (.lload 4, 2) := by decide +kernel
theorem dX12_tie_54 : decode cX12_tie 54 = .ok (.invokestatic 49, 3) := by decide +kernel
theorem dX12_tie_57 : decode cX12_tie 57 = .ok (.ireturn, 1) := by decide +kernel
def f_X12_tie (F P : Nat) (S : xSt) (v0 : Nat) (v1 : Int32) (v2 : Int32) (v3 : Int32) (D : xDt) : Option (Int32 × xDt) :=
  (f_X12_isAgent F P S v1 D).bind fun q1 => if q1.1 = 0 then (some ((-1), q1.2)) else ((f_X12_isWorld F P S v0 v2 q1.2).bind fun q2 => if q2.1 = 0 then (some ((-1), q2.2)) else ((f_X12_isWorld F P S v0 v3 q2.2).bind fun q3 => if q3.1 = 0 then (some ((-1), q3.2)) else (xlet (xup q3.2.1 v0 7 0, q3.2.2) fun D4 => (f_X12_cellOf F P S v0 v1 v2 D4).bind fun q5 => (f_X12_cellOf F P S v0 v1 v3 q5.2).bind fun q6 => xlet (q5.1 ||| q6.1) fun v4_7 => (f_X12_gather F P S v0 v1 v4_7 q6.2).bind fun q8 => (f_X12_size F P S v4_7 q8).bind fun q9 => some (q9.1, q9.2))))
set_option maxHeartbeats 4000000 in
theorem S_X12_tie {F P : Nat} {S : xSt} (hS : xWF S) {v0 : Nat} {v1 : Int32} {v2 : Int32} {v3 : Int32} {D : xDt} {r : Int32 × xDt} (k0 : xK S v0 12) (h : f_X12_tie F P S v0 v1 v2 v3 D = some r) : xSp md_X12_tie (2, 0, 0) [.ref v0, .int v1, .int v2, .int v3] (S, D) (xQi S r) := by
  unfold f_X12_tie at h
  refine xEntry (by decide) (Nat.le_of_ble_eq_true rfl) ?_
  refine x_lv (lv' := [(0, .ref v0), (1, .int v1), (2, .int v2), (3, .int v3)]) [0, 1, 2, 3] rfl ?_
  refine x_iload_n dX12_tie_0 1 rfl ?_
  refine xbnd_e h (fun q1 e1 h => ?_)
  refine y_callSi (As := [.int v1]) (q := q1) cs_RX12_34 dX12_tie_1 rfl (Nat.le_of_ble_eq_true rfl) (by omega) (S_X12_isAgent hS e1) ?_
  refine x_if_eq 23 dX12_tie_4 (by decide) (fun c => ?_) (fun c => ?_)
  · rw [if_pos c] at h
    refine x_iconst (-1) dX12_tie_23 (by decide) ?_
    obtain rfl := Option.some.inj h
    exact y_iret rfl dX12_tie_24
  · rw [if_neg c] at h
    refine x_aload_n dX12_tie_7 0 rfl ?_
    refine x_iload_n dX12_tie_8 2 rfl ?_
    refine xbnd_e h (fun q2 e2 h => ?_)
    refine y_callVi (As := [.int v2]) (q := q2) cv_RX12_38 dX12_tie_9 k0 rfl (Nat.le_of_ble_eq_true rfl) (by omega) (S_X12_isWorld hS k0 e2) ?_
    refine x_if_eq 23 dX12_tie_12 (by decide) (fun c => ?_) (fun c => ?_)
    · rw [if_pos c] at h
      refine x_iconst (-1) dX12_tie_23 (by decide) ?_
      obtain rfl := Option.some.inj h
      exact y_iret rfl dX12_tie_24
    · rw [if_neg c] at h
      refine x_aload_n dX12_tie_15 0 rfl ?_
      refine x_iload_n dX12_tie_16 3 rfl ?_
      refine xbnd_e h (fun q3 e3 h => ?_)
      refine y_callVi (As := [.int v3]) (q := q3) cv_RX12_38 dX12_tie_17 k0 rfl (Nat.le_of_ble_eq_true rfl) (by omega) (S_X12_isWorld hS k0 e3) ?_
      refine x_if_ne 25 dX12_tie_20 (by decide) (fun c => ?_) (fun c => ?_)
      · rw [if_neg c] at h
        refine x_aload_n dX12_tie_25 0 rfl ?_
        refine x_iconst 0 dX12_tie_26 (by decide) ?_
        refine xlet_e h (fun D4 eD4 h => ?_)
        refine y_puti fp_RX12_28 dX12_tie_27 rfl k0 eD4 ?_
        refine x_aload_n dX12_tie_30 0 rfl ?_
        refine x_iload_n dX12_tie_31 1 rfl ?_
        refine x_iload_n dX12_tie_32 2 rfl ?_
        refine xbnd_e h (fun q5 e5 h => ?_)
        refine y_callVl (As := [.int v1, .int v2]) (q := q5) cv_RX12_41 dX12_tie_33 k0 rfl (Nat.le_of_ble_eq_true rfl) (by omega) (S_X12_cellOf hS k0 e5) ?_
        refine x_aload_n dX12_tie_36 0 rfl ?_
        refine x_iload_n dX12_tie_37 1 rfl ?_
        refine x_iload_n dX12_tie_38 3 rfl ?_
        refine xbnd_e h (fun q6 e6 h => ?_)
        refine y_callVl (As := [.int v1, .int v3]) (q := q6) cv_RX12_41 dX12_tie_39 k0 rfl (Nat.le_of_ble_eq_true rfl) (by omega) (S_X12_cellOf hS k0 e6) ?_
        refine x_lor dX12_tie_42 ?_
        refine xlet_e h (fun v4_7 ev4_7 h => ?_)
        refine y_lstore v4_7 ev4_7 [(4, .long v4_7), (0, .ref v0), (1, .int v1), (2, .int v2), (3, .int v3)] dX12_tie_43 (by show _ < 6; decide) rfl ?_
        refine x_aload_n dX12_tie_45 1 rfl ?_
        refine x_iload_n dX12_tie_46 2 rfl ?_
        refine x_lload dX12_tie_47 0 rfl ?_
        refine xbnd_e h (fun q8 e8 h => ?_)
        refine y_callVv (As := [.int v1, .long v4_7]) (q := q8) cv_RX12_45 dX12_tie_49 k0 rfl (Nat.le_of_ble_eq_true rfl) (by omega) (S_X12_gather hS k0 e8) ?_
        refine x_lload dX12_tie_52 0 rfl ?_
        refine xbnd_e h (fun q9 e9 h => ?_)
        refine y_callSi (As := [.long v4_7]) (q := q9) cs_RX12_49 dX12_tie_54 rfl (Nat.le_of_ble_eq_true rfl) (by omega) (S_X12_size hS e9) ?_
        obtain rfl := Option.some.inj h
        exact y_iret rfl dX12_tie_57
      · rw [if_pos c] at h
        refine x_iconst (-1) dX12_tie_23 (by decide) ?_
        obtain rfl := Option.some.inj h
        exact y_iret rfl dX12_tie_24

theorem dX12_alone_0 : decode cX12_alone 0 = .ok (.iload_n 1, 1) := by decide +kernel
theorem dX12_alone_1 : decode cX12_alone 1 = .ok (.invokestatic 34, 3) := by decide +kernel
theorem dX12_alone_4 : decode cX12_alone 4 = .ok (.ifCond .eq 11, 3) := by decide +kernel
theorem dX12_alone_7 : decode cX12_alone 7 = .ok (.aload_n 0, 1) := by decide +kernel
theorem dX12_alone_8 : decode cX12_alone 8 = .ok (.iload_n 2, 1) := by decide +kernel
theorem dX12_alone_9 : decode cX12_alone 9 = .ok (.invokevirtual 38, 3) := by decide +kernel
theorem dX12_alone_12 : decode cX12_alone 12 = .ok (.ifCond .ne 5, 3) := by decide +kernel
theorem dX12_alone_15 : decode cX12_alone 15 = .ok (.iconst (-1), 1) := by decide +kernel
theorem dX12_alone_16 : decode cX12_alone 16 = .ok (.ireturn, 1) := by decide +kernel
theorem dX12_alone_17 : decode cX12_alone 17 = .ok (.aload_n 0, 1) := by decide +kernel
theorem dX12_alone_18 : decode cX12_alone 18 = .ok (.iconst 0, 1) := by decide +kernel
theorem dX12_alone_19 : decode cX12_alone 19 = .ok (.putfield 28, 3) := by decide +kernel
theorem dX12_alone_22 : decode cX12_alone 22 = .ok (.aload_n 0, 1) := by decide +kernel
theorem dX12_alone_23 : decode cX12_alone 23 = .ok (.iload_n 1, 1) := by decide +kernel
theorem dX12_alone_24 : decode cX12_alone 24 = .ok (.iload_n 2, 1) := by decide +kernel
theorem dX12_alone_25 : decode cX12_alone 25 = .ok (.invokevirtual 41, 3) := by decide +kernel
theorem dX12_alone_28 : decode cX12_alone 28 = .ok (.lconst 1, 1) := by decide +kernel
theorem dX12_alone_29 : decode cX12_alone 29 = .ok (.iload_n 2, 1) := by decide +kernel
theorem dX12_alone_30 : decode cX12_alone 30 = .ok (.lshl, 1) := by decide +kernel
theorem dX12_alone_31 : decode cX12_alone 31 = .ok (.ldc2_w 26, 3) := by decide +kernel
theorem dX12_alone_34 : decode cX12_alone 34 = .ok (.lxor, 1) := by decide +kernel
theorem dX12_alone_35 : decode cX12_alone 35 = .ok (.land, 1) := by decide +kernel
theorem dX12_alone_36 : decode cX12_alone 36 = .ok (.lstore_n 3, 1) := by decide +kernel
theorem dX12_alone_37 : decode cX12_alone 37 = .ok (.aload_n 0, 1) := by decide +kernel
theorem dX12_alone_38 : decode cX12_alone 38 = .ok (.iload_n 1, 1) := by decide +kernel
theorem dX12_alone_39 : decode cX12_alone 39 = .ok (.lconst 1, 1) := by decide +kernel
theorem dX12_alone_40 : decode cX12_alone 40 = .ok (.iload_n 2, 1) := by decide +kernel
theorem dX12_alone_41 : decode cX12_alone 41 = .ok (.lshl, 1) := by decide +kernel
theorem dX12_alone_42 : decode cX12_alone 42 = .ok (.invokevirtual 45, 3) := by decide +kernel
theorem dX12_alone_45 : decode cX12_alone 45 = .ok (.lload_n 3, 1) := by decide +kernel
theorem dX12_alone_46 : decode cX12_alone 46 = .ok (.lconst 0, 1) := by decide +kernel
theorem dX12_alone_47 : decode cX12_alone 47 = .ok (.lcmp, 1) := by decide +kernel
theorem dX12_alone_48 : decode cX12_alone 48 = .ok (.ifCond .eq 9, 3) := by decide +kernel
theorem dX12_alone_51 : decode cX12_alone 51 = .ok (.aload_n 0, 1) := by decide +kernel
theorem dX12_alone_52 : decode cX12_alone 52 = .ok (.iload_n 1, 1) := by decide +kernel
theorem dX12_alone_53 : decode cX12_alone 53 = .ok (.lload_n 3, 1) := by decide +kernel
theorem dX12_alone_54 : decode cX12_alone 54 = .ok (.invokevirtual 45, 3) := by decide +kernel
theorem dX12_alone_57 : decode cX12_alone 57 = .ok (.lload_n 3, 1) := by decide +kernel
theorem dX12_alone_58 : decode cX12_alone 58 = .ok (.invokestatic 49, 3) := by decide +kernel
theorem dX12_alone_61 : decode cX12_alone 61 = .ok (.ireturn, 1) := by decide +kernel
def f_X12_alone_57 (F P : Nat) (S : xSt) (v3 : Int64) (D : xDt) : Option (Int32 × xDt) :=
  (f_X12_size F P S v3 D).bind fun q1 => some (q1.1, q1.2)
set_option maxHeartbeats 4000000 in
theorem t_X12_alone_57 {F P : Nat} {S : xSt} (hS : xWF S) {v3 : Int64} {D : xDt} {r : Int32 × xDt} (h : f_X12_alone_57 F P S v3 D = some r) : yEx md_X12_alone 2 57 [(3, .long v3)] [] S D (xQi S r) := by
  unfold f_X12_alone_57 at h
  refine x_lload_n dX12_alone_57 0 rfl ?_
  refine xbnd_e h (fun q1 e1 h => ?_)
  refine y_callSi (As := [.long v3]) (q := q1) cs_RX12_49 dX12_alone_58 rfl (Nat.le_of_ble_eq_true rfl) (by omega) (S_X12_size hS e1) ?_
  obtain rfl := Option.some.inj h
  exact y_iret rfl dX12_alone_61

def f_X12_alone (F P : Nat) (S : xSt) (v0 : Nat) (v1 : Int32) (v2 : Int32) (D : xDt) : Option (Int32 × xDt) :=
  (f_X12_isAgent F P S v1 D).bind fun q1 => if q1.1 = 0 then (some ((-1), q1.2)) else ((f_X12_isWorld F P S v0 v2 q1.2).bind fun q2 => if q2.1 = 0 then (some ((-1), q2.2)) else (xlet (xup q2.2.1 v0 7 0, q2.2.2) fun D3 => (f_X12_cellOf F P S v0 v1 v2 D3).bind fun q4 => xlet (q4.1 &&& ((jlshl 1 v2) ^^^ (-1))) fun v3_5 => (f_X12_gather F P S v0 v1 (jlshl 1 v2) q4.2).bind fun q6 => if (lg_cmp v3_5 0) = 0 then (f_X12_alone_57 F P S v3_5 q6) else ((f_X12_gather F P S v0 v1 v3_5 q6).bind fun q7 => f_X12_alone_57 F P S v3_5 q7)))
set_option maxHeartbeats 4000000 in
theorem S_X12_alone {F P : Nat} {S : xSt} (hS : xWF S) {v0 : Nat} {v1 : Int32} {v2 : Int32} {D : xDt} {r : Int32 × xDt} (k0 : xK S v0 12) (h : f_X12_alone F P S v0 v1 v2 D = some r) : xSp md_X12_alone (2, 0, 0) [.ref v0, .int v1, .int v2] (S, D) (xQi S r) := by
  unfold f_X12_alone at h
  refine xEntry (by decide) (Nat.le_of_ble_eq_true rfl) ?_
  refine x_lv (lv' := [(0, .ref v0), (1, .int v1), (2, .int v2)]) [0, 1, 2] rfl ?_
  refine x_iload_n dX12_alone_0 1 rfl ?_
  refine xbnd_e h (fun q1 e1 h => ?_)
  refine y_callSi (As := [.int v1]) (q := q1) cs_RX12_34 dX12_alone_1 rfl (Nat.le_of_ble_eq_true rfl) (by omega) (S_X12_isAgent hS e1) ?_
  refine x_if_eq 15 dX12_alone_4 (by decide) (fun c => ?_) (fun c => ?_)
  · rw [if_pos c] at h
    refine x_iconst (-1) dX12_alone_15 (by decide) ?_
    obtain rfl := Option.some.inj h
    exact y_iret rfl dX12_alone_16
  · rw [if_neg c] at h
    refine x_aload_n dX12_alone_7 0 rfl ?_
    refine x_iload_n dX12_alone_8 2 rfl ?_
    refine xbnd_e h (fun q2 e2 h => ?_)
    refine y_callVi (As := [.int v2]) (q := q2) cv_RX12_38 dX12_alone_9 k0 rfl (Nat.le_of_ble_eq_true rfl) (by omega) (S_X12_isWorld hS k0 e2) ?_
    refine x_if_ne 17 dX12_alone_12 (by decide) (fun c => ?_) (fun c => ?_)
    · rw [if_neg c] at h
      refine x_aload_n dX12_alone_17 0 rfl ?_
      refine x_iconst 0 dX12_alone_18 (by decide) ?_
      refine xlet_e h (fun D3 eD3 h => ?_)
      refine y_puti fp_RX12_28 dX12_alone_19 rfl k0 eD3 ?_
      refine x_aload_n dX12_alone_22 0 rfl ?_
      refine x_iload_n dX12_alone_23 1 rfl ?_
      refine x_iload_n dX12_alone_24 2 rfl ?_
      refine xbnd_e h (fun q4 e4 h => ?_)
      refine y_callVl (As := [.int v1, .int v2]) (q := q4) cv_RX12_41 dX12_alone_25 k0 rfl (Nat.le_of_ble_eq_true rfl) (by omega) (S_X12_cellOf hS k0 e4) ?_
      refine x_lconst 1 dX12_alone_28 (by decide) ?_
      refine x_iload_n dX12_alone_29 2 rfl ?_
      refine x_lshl dX12_alone_30 ?_
      refine x_ldc2 (-1) dX12_alone_31 wd_1127 ?_
      refine x_lxor dX12_alone_34 ?_
      refine x_land dX12_alone_35 ?_
      refine xlet_e h (fun v3_5 ev3_5 h => ?_)
      refine y_lstore_n v3_5 ev3_5 [(3, .long v3_5), (0, .ref v0), (1, .int v1), (2, .int v2)] dX12_alone_36 (by show _ < 5; decide) rfl ?_
      refine x_aload_n dX12_alone_37 1 rfl ?_
      refine x_iload_n dX12_alone_38 2 rfl ?_
      refine x_lconst 1 dX12_alone_39 (by decide) ?_
      refine x_iload_n dX12_alone_40 3 rfl ?_
      refine x_lshl dX12_alone_41 ?_
      refine xbnd_e h (fun q6 e6 h => ?_)
      refine y_callVv (As := [.int v1, .long (jlshl 1 v2)]) (q := q6) cv_RX12_45 dX12_alone_42 k0 rfl (Nat.le_of_ble_eq_true rfl) (by omega) (S_X12_gather hS k0 e6) ?_
      refine x_lload_n dX12_alone_45 0 rfl ?_
      refine x_lconst 0 dX12_alone_46 (by decide) ?_
      refine x_lcmp dX12_alone_47 ?_
      refine x_if_eq 57 dX12_alone_48 (by decide) (fun c => ?_) (fun c => ?_)
      · rw [if_pos c] at h
        refine x_lv (lv' := [(3, .long v3_5)]) [0] rfl ?_
        exact t_X12_alone_57 hS h
      · rw [if_neg c] at h
        refine x_aload_n dX12_alone_51 1 rfl ?_
        refine x_iload_n dX12_alone_52 2 rfl ?_
        refine x_lload_n dX12_alone_53 0 rfl ?_
        refine xbnd_e h (fun q7 e7 h => ?_)
        refine y_callVv (As := [.int v1, .long v3_5]) (q := q7) cv_RX12_45 dX12_alone_54 k0 rfl (Nat.le_of_ble_eq_true rfl) (by omega) (S_X12_gather hS k0 e7) ?_
        refine x_lv (lv' := [(3, .long v3_5)]) [0] rfl ?_
        exact t_X12_alone_57 hS h
    · rw [if_pos c] at h
      refine x_iconst (-1) dX12_alone_15 (by decide) ?_
      obtain rfl := Option.some.inj h
      exact y_iret rfl dX12_alone_16

theorem dX12_atom_0 : decode cX12_atom 0 = .ok (.aload_n 0, 1) := by decide +kernel
theorem dX12_atom_1 : decode cX12_atom 1 = .ok (.iload_n 1, 1) := by decide +kernel
theorem dX12_atom_2 : decode cX12_atom 2 = .ok (.invokevirtual 38, 3) := by decide +kernel
theorem dX12_atom_5 : decode cX12_atom 5 = .ok (.ifCond .eq 13, 3) := by decide +kernel
theorem dX12_atom_8 : decode cX12_atom 8 = .ok (.iload_n 2, 1) := by decide +kernel
theorem dX12_atom_9 : decode cX12_atom 9 = .ok (.iconst 0, 1) := by decide +kernel
theorem dX12_atom_10 : decode cX12_atom 10 = .ok (.bipush 7, 2) := by decide +kernel
theorem dX12_atom_12 : decode cX12_atom 12 = .ok (.invokestatic 10, 3) := by decide +kernel
theorem dX12_atom_15 : decode cX12_atom 15 = .ok (.ifCond .ne 5, 3) := by decide +kernel
theorem dX12_atom_18 : decode cX12_atom 18 = .ok (.iconst (-1), 1) := by decide +kernel
theorem dX12_atom_19 : decode cX12_atom 19 = .ok (.ireturn, 1) := by decide +kernel
theorem dX12_atom_20 : decode cX12_atom 20 = .ok (.aload_n 0, 1) := by decide +kernel
theorem dX12_atom_21 : decode cX12_atom 21 = .ok (.iconst 0, 1) := by decide +kernel
theorem dX12_atom_22 : decode cX12_atom 22 = .ok (.putfield 28, 3) := by decide +kernel
theorem dX12_atom_25 : decode cX12_atom 25 = .ok (.aload_n 0, 1) := by decide +kernel
theorem dX12_atom_26 : decode cX12_atom 26 = .ok (.getfield 31, 3) := by decide +kernel
theorem dX12_atom_29 : decode cX12_atom 29 = .ok (.iload_n 1, 1) := by decide +kernel
theorem dX12_atom_30 : decode cX12_atom 30 = .ok (.iaload, 1) := by decide +kernel
theorem dX12_atom_31 : decode cX12_atom 31 = .ok (.iload_n 2, 1) := by decide +kernel
theorem dX12_atom_32 : decode cX12_atom 32 = .ok (.ishr, 1) := by decide +kernel
theorem dX12_atom_33 : decode cX12_atom 33 = .ok (.iconst 1, 1) := by decide +kernel
theorem dX12_atom_34 : decode cX12_atom 34 = .ok (.iand, 1) := by decide +kernel
theorem dX12_atom_35 : decode cX12_atom 35 = .ok (.istore 4, 2) := by decide +kernel
theorem dX12_atom_37 : decode cX12_atom 37 = .ok (.aload_n 0, 1) := by decide +kernel
theorem dX12_atom_38 : decode cX12_atom 38 = .ok (.getfield 31, 3) := by decide +kernel
theorem dX12_atom_41 : decode cX12_atom 41 = .ok (.iload_n 1, 1) := by decide +kernel
theorem dX12_atom_42 : decode cX12_atom 42 = .ok (.aload_n 0, 1) := by decide +kernel
theorem dX12_atom_43 : decode cX12_atom 43 = .ok (.getfield 31, 3) := by decide +kernel
theorem dX12_atom_46 : decode cX12_atom 46 = .ok (.iload_n 1, 1) := by decide +kernel
theorem dX12_atom_47 : decode cX12_atom 47 = .ok (.iaload, 1) := by decide +kernel
theorem dX12_atom_48 : decode cX12_atom 48 = .ok (.iconst 1, 1) := by decide +kernel
theorem dX12_atom_49 : decode cX12_atom 49 = .ok (.iload_n 2, 1) := by decide +kernel
theorem dX12_atom_50 : decode cX12_atom 50 = .ok (.ishl, 1) := by decide +kernel
theorem dX12_atom_51 : decode cX12_atom 51 = .ok (.iconst (-1), 1) := by decide +kernel
theorem dX12_atom_52 : decode cX12_atom 52 = .ok (.ixor, 1) := by decide +kernel
theorem dX12_atom_53 : decode cX12_atom 53 = .ok (.iand, 1) := by decide +kernel
theorem dX12_atom_54 : decode cX12_atom 54 = .ok (.iload_n 3, 1) := by decide +kernel
theorem dX12_atom_55 : decode cX12_atom 55 = .ok (.ifCond .eq 9, 3) := by decide +kernel
theorem dX12_atom_58 : decode cX12_atom 58 = .ok (.iconst 1, 1) := by decide +kernel
theorem dX12_atom_59 : decode cX12_atom 59 = .ok (.iload_n 2, 1) := by decide +kernel
theorem dX12_atom_60 : decode cX12_atom 60 = .ok (.ishl, 1) := by decide +kernel
theorem dX12_atom_61 : decode cX12_atom 61 = .ok (.goto 4, 3) := by decide +kernel
theorem dX12_atom_64 : decode cX12_atom 64 = .ok (.iconst 0, 1) := by decide +kernel
theorem dX12_atom_65 : decode cX12_atom 65 = .ok (.ior, 1) := by decide +kernel
theorem dX12_atom_66 : decode cX12_atom 66 = .ok (.iastore, 1) := by decide +kernel
theorem dX12_atom_67 : decode cX12_atom 67 = .ok (.iload 4, 2) := by decide +kernel
theorem dX12_atom_69 : decode cX12_atom 69 = .ok (.ireturn, 1) := by decide +kernel
def f_X12_atom (F P : Nat) (S : xSt) (v0 : Nat) (v1 : Int32) (v2 : Int32) (v3 : Int32) (D : xDt) : Option (Int32 × xDt) :=
  (f_X12_isWorld F P S v0 v1 D).bind fun q1 => if q1.1 = 0 then (some ((-1), q1.2)) else ((f_X12_in F P S v2 0 7 q1.2).bind fun q2 => if q2.1 = 0 then (some ((-1), q2.2)) else (xlet (xup q2.2.1 v0 7 0, q2.2.2) fun D3 => xgrd (xin v1 (xl S (xr S v0 2))) (xlet ((jishr (D3.1 (xr S v0 2) (v1).toNatClampNeg) v2) &&& 1) fun v4_5 => xgrd (xin v1 (xl S (xr S v0 2))) (if v3 = 0 then (xgrd (xin v1 (xl S (xr S v0 2))) (xlet (xup D3.1 (xr S v0 2) (v1).toNatClampNeg (((D3.1 (xr S v0 2) (v1).toNatClampNeg) &&& ((jishl 1 v2) ^^^ (-1))) ||| 0), D3.2) fun D8 => some (v4_5, D8))) else (xgrd (xin v1 (xl S (xr S v0 2))) (xlet (xup D3.1 (xr S v0 2) (v1).toNatClampNeg (((D3.1 (xr S v0 2) (v1).toNatClampNeg) &&& ((jishl 1 v2) ^^^ (-1))) ||| (jishl 1 v2)), D3.2) fun D10 => some (v4_5, D10)))))))
set_option maxHeartbeats 4000000 in
theorem S_X12_atom {F P : Nat} {S : xSt} (hS : xWF S) {v0 : Nat} {v1 : Int32} {v2 : Int32} {v3 : Int32} {D : xDt} {r : Int32 × xDt} (k0 : xK S v0 12) (h : f_X12_atom F P S v0 v1 v2 v3 D = some r) : xSp md_X12_atom (2, 0, 0) [.ref v0, .int v1, .int v2, .int v3] (S, D) (xQi S r) := by
  unfold f_X12_atom at h
  refine xEntry (by decide) (Nat.le_of_ble_eq_true rfl) ?_
  refine x_lv (lv' := [(0, .ref v0), (1, .int v1), (2, .int v2), (3, .int v3)]) [0, 1, 2, 3] rfl ?_
  refine x_aload_n dX12_atom_0 0 rfl ?_
  refine x_iload_n dX12_atom_1 1 rfl ?_
  refine xbnd_e h (fun q1 e1 h => ?_)
  refine y_callVi (As := [.int v1]) (q := q1) cv_RX12_38 dX12_atom_2 k0 rfl (Nat.le_of_ble_eq_true rfl) (by omega) (S_X12_isWorld hS k0 e1) ?_
  refine x_if_eq 18 dX12_atom_5 (by decide) (fun c => ?_) (fun c => ?_)
  · rw [if_pos c] at h
    refine x_iconst (-1) dX12_atom_18 (by decide) ?_
    obtain rfl := Option.some.inj h
    exact y_iret rfl dX12_atom_19
  · rw [if_neg c] at h
    refine x_iload_n dX12_atom_8 2 rfl ?_
    refine x_iconst 0 dX12_atom_9 (by decide) ?_
    refine x_bipush 7 dX12_atom_10 (by decide) ?_
    refine xbnd_e h (fun q2 e2 h => ?_)
    refine y_callSi (As := [.int v2, .int 0, .int 7]) (q := q2) cs_RX12_10 dX12_atom_12 rfl (Nat.le_of_ble_eq_true rfl) (by omega) (S_X12_in hS e2) ?_
    refine x_if_ne 20 dX12_atom_15 (by decide) (fun c => ?_) (fun c => ?_)
    · rw [if_neg c] at h
      refine x_aload_n dX12_atom_20 0 rfl ?_
      refine x_iconst 0 dX12_atom_21 (by decide) ?_
      refine xlet_e h (fun D3 eD3 h => ?_)
      refine y_puti fp_RX12_28 dX12_atom_22 rfl k0 eD3 ?_
      refine x_aload_n dX12_atom_25 0 rfl ?_
      refine y_getr (kd := 100) hS fl_RX12_31 dX12_atom_26 rfl k0 ?_
      refine x_iload_n dX12_atom_29 1 rfl ?_
      refine xgrd_e h (fun g4 h => ?_)
      refine y_iald dX12_atom_30 ((hS.f k0 2 100 rfl).2) g4 ?_
      refine x_iload_n dX12_atom_31 2 rfl ?_
      refine x_ishr dX12_atom_32 ?_
      refine x_iconst 1 dX12_atom_33 (by decide) ?_
      refine x_iand dX12_atom_34 ?_
      refine xlet_e h (fun v4_5 ev4_5 h => ?_)
      refine y_istore v4_5 ev4_5 [(4, .int v4_5), (0, .ref v0), (1, .int v1), (2, .int v2), (3, .int v3)] dX12_atom_35 (by show _ < 5; decide) rfl ?_
      refine x_aload_n dX12_atom_37 1 rfl ?_
      refine y_getr (kd := 100) hS fl_RX12_31 dX12_atom_38 rfl k0 ?_
      refine x_iload_n dX12_atom_41 2 rfl ?_
      refine x_aload_n dX12_atom_42 1 rfl ?_
      refine y_getr (kd := 100) hS fl_RX12_31 dX12_atom_43 rfl k0 ?_
      refine x_iload_n dX12_atom_46 2 rfl ?_
      refine xgrd_e h (fun g6 h => ?_)
      refine y_iald dX12_atom_47 ((hS.f k0 2 100 rfl).2) g6 ?_
      refine x_iconst 1 dX12_atom_48 (by decide) ?_
      refine x_iload_n dX12_atom_49 3 rfl ?_
      refine x_ishl dX12_atom_50 ?_
      refine x_iconst (-1) dX12_atom_51 (by decide) ?_
      refine x_ixor dX12_atom_52 ?_
      refine x_iand dX12_atom_53 ?_
      refine x_iload_n dX12_atom_54 4 rfl ?_
      refine x_if_eq 64 dX12_atom_55 (by decide) (fun c => ?_) (fun c => ?_)
      · rw [if_pos c] at h
        refine x_iconst 0 dX12_atom_64 (by decide) ?_
        refine x_ior dX12_atom_65 ?_
        refine xgrd_e h (fun g7 h => ?_)
        refine xlet_e h (fun D8 eD8 h => ?_)
        refine y_iast dX12_atom_66 ((hS.f k0 2 100 rfl).2) g7 eD8 ?_
        refine x_iload dX12_atom_67 0 rfl ?_
        obtain rfl := Option.some.inj h
        exact y_iret rfl dX12_atom_69
      · rw [if_neg c] at h
        refine x_iconst 1 dX12_atom_58 (by decide) ?_
        refine x_iload_n dX12_atom_59 3 rfl ?_
        refine x_ishl dX12_atom_60 ?_
        refine x_goto 65 dX12_atom_61 (by decide) ?_
        refine x_ior dX12_atom_65 ?_
        refine xgrd_e h (fun g9 h => ?_)
        refine xlet_e h (fun D10 eD10 h => ?_)
        refine y_iast dX12_atom_66 ((hS.f k0 2 100 rfl).2) g9 eD10 ?_
        refine x_iload dX12_atom_67 0 rfl ?_
        obtain rfl := Option.some.inj h
        exact y_iret rfl dX12_atom_69
    · rw [if_pos c] at h
      refine x_iconst (-1) dX12_atom_18 (by decide) ?_
      obtain rfl := Option.some.inj h
      exact y_iret rfl dX12_atom_19

theorem dX12_told_0 : decode cX12_told 0 = .ok (.aload_n 0, 1) := by decide +kernel
theorem dX12_told_1 : decode cX12_told 1 = .ok (.iload_n 1, 1) := by decide +kernel
theorem dX12_told_2 : decode cX12_told 2 = .ok (.invokevirtual 38, 3) := by decide +kernel
theorem dX12_told_5 : decode cX12_told 5 = .ok (.ifCond .eq 12, 3) := by decide +kernel
theorem dX12_told_8 : decode cX12_told 8 = .ok (.iload_n 2, 1) := by decide +kernel
theorem dX12_told_9 : decode cX12_told 9 = .ok (.iconst 0, 1) := by decide +kernel
theorem dX12_told_10 : decode cX12_told 10 = .ok (.iconst 4, 1) := by decide +kernel
theorem dX12_told_11 : decode cX12_told 11 = .ok (.invokestatic 10, 3) := by decide +kernel
theorem dX12_told_14 : decode cX12_told 14 = .ok (.ifCond .ne 7, 3) := by decide +kernel
theorem dX12_told_17 : decode cX12_told 17 = .ok (.iconst (-1), 1) := by decide +kernel
theorem dX12_told_18 : decode cX12_told 18 = .ok (.goto 22, 3) := by decide +kernel
theorem dX12_told_21 : decode cX12_told 21 = .ok (.iload_n 2, 1) := by decide +kernel
theorem dX12_told_22 : decode cX12_told 22 = .ok (.ifCond .ne 12, 3) := by decide +kernel
theorem dX12_told_25 : decode cX12_told 25 = .ok (.aload_n 0, 1) := by decide +kernel
theorem dX12_told_26 : decode cX12_told 26 = .ok (.getfield 31, 3) := by decide +kernel
theorem dX12_told_29 : decode cX12_told 29 = .ok (.iload_n 1, 1) := by decide +kernel
theorem dX12_told_30 : decode cX12_told 30 = .ok (.iaload, 1) := by decide +kernel
theorem dX12_told_31 : decode cX12_told 31 = .ok (.goto 9, 3) := by decide +kernel
theorem dX12_told_34 : decode cX12_told 34 = .ok (.aload_n 0, 1) := by decide +kernel
theorem dX12_told_35 : decode cX12_told 35 = .ok (.iload_n 2, 1) := by decide +kernel
theorem dX12_told_36 : decode cX12_told 36 = .ok (.iload_n 1, 1) := by decide +kernel
theorem dX12_told_37 : decode cX12_told 37 = .ok (.invokevirtual 18, 3) := by decide +kernel
theorem dX12_told_40 : decode cX12_told 40 = .ok (.ireturn, 1) := by decide +kernel
def f_X12_told_17 (F P : Nat) (S : xSt) (D : xDt) : Option (Int32 × xDt) :=
  some ((-1), D)
set_option maxHeartbeats 4000000 in
theorem t_X12_told_17 {F P : Nat} {S : xSt} (hS : xWF S) {D : xDt} {r : Int32 × xDt} (h : f_X12_told_17 F P S D = some r) : yEx md_X12_told 2 17 [] [] S D (xQi S r) := by
  unfold f_X12_told_17 at h
  refine x_iconst (-1) dX12_told_17 (by decide) ?_
  refine x_goto 40 dX12_told_18 (by decide) ?_
  obtain rfl := Option.some.inj h
  exact y_iret rfl dX12_told_40

def f_X12_told (F P : Nat) (S : xSt) (v0 : Nat) (v1 : Int32) (v2 : Int32) (D : xDt) : Option (Int32 × xDt) :=
  (f_X12_isWorld F P S v0 v1 D).bind fun q1 => if q1.1 = 0 then (f_X12_told_17 F P S q1.2) else ((f_X12_in F P S v2 0 4 q1.2).bind fun q2 => if q2.1 = 0 then (f_X12_told_17 F P S q2.2) else (if v2 = 0 then (xgrd (xin v1 (xl S (xr S v0 2))) (some (q2.2.1 (xr S v0 2) (v1).toNatClampNeg, q2.2))) else ((f_X12_cell F P S v0 v2 v1 q2.2).bind fun q3 => some (q3.1, q3.2))))
set_option maxHeartbeats 4000000 in
theorem S_X12_told {F P : Nat} {S : xSt} (hS : xWF S) {v0 : Nat} {v1 : Int32} {v2 : Int32} {D : xDt} {r : Int32 × xDt} (k0 : xK S v0 12) (h : f_X12_told F P S v0 v1 v2 D = some r) : xSp md_X12_told (2, 0, 0) [.ref v0, .int v1, .int v2] (S, D) (xQi S r) := by
  unfold f_X12_told at h
  refine xEntry (by decide) (Nat.le_of_ble_eq_true rfl) ?_
  refine x_lv (lv' := [(0, .ref v0), (1, .int v1), (2, .int v2)]) [0, 1, 2] rfl ?_
  refine x_aload_n dX12_told_0 0 rfl ?_
  refine x_iload_n dX12_told_1 1 rfl ?_
  refine xbnd_e h (fun q1 e1 h => ?_)
  refine y_callVi (As := [.int v1]) (q := q1) cv_RX12_38 dX12_told_2 k0 rfl (Nat.le_of_ble_eq_true rfl) (by omega) (S_X12_isWorld hS k0 e1) ?_
  refine x_if_eq 17 dX12_told_5 (by decide) (fun c => ?_) (fun c => ?_)
  · rw [if_pos c] at h
    refine x_lv (lv' := []) [] rfl ?_
    exact t_X12_told_17 hS h
  · rw [if_neg c] at h
    refine x_iload_n dX12_told_8 2 rfl ?_
    refine x_iconst 0 dX12_told_9 (by decide) ?_
    refine x_iconst 4 dX12_told_10 (by decide) ?_
    refine xbnd_e h (fun q2 e2 h => ?_)
    refine y_callSi (As := [.int v2, .int 0, .int 4]) (q := q2) cs_RX12_10 dX12_told_11 rfl (Nat.le_of_ble_eq_true rfl) (by omega) (S_X12_in hS e2) ?_
    refine x_if_ne 21 dX12_told_14 (by decide) (fun c => ?_) (fun c => ?_)
    · rw [if_neg c] at h
      refine x_iload_n dX12_told_21 2 rfl ?_
      refine x_if_ne 34 dX12_told_22 (by decide) (fun c => ?_) (fun c => ?_)
      · rw [if_neg c] at h
        refine x_aload_n dX12_told_34 0 rfl ?_
        refine x_iload_n dX12_told_35 2 rfl ?_
        refine x_iload_n dX12_told_36 1 rfl ?_
        refine xbnd_e h (fun q3 e3 h => ?_)
        refine y_callVi (As := [.int v2, .int v1]) (q := q3) cv_RX12_18 dX12_told_37 k0 rfl (Nat.le_of_ble_eq_true rfl) (by omega) (S_X12_cell hS k0 e3) ?_
        obtain rfl := Option.some.inj h
        exact y_iret rfl dX12_told_40
      · rw [if_pos c] at h
        refine x_aload_n dX12_told_25 0 rfl ?_
        refine y_getr (kd := 100) hS fl_RX12_31 dX12_told_26 rfl k0 ?_
        refine x_iload_n dX12_told_29 1 rfl ?_
        refine xgrd_e h (fun g4 h => ?_)
        refine y_iald dX12_told_30 ((hS.f k0 2 100 rfl).2) g4 ?_
        refine x_goto 40 dX12_told_31 (by decide) ?_
        obtain rfl := Option.some.inj h
        exact y_iret rfl dX12_told_40
    · rw [if_pos c] at h
      refine x_lv (lv' := []) [] rfl ?_
      exact t_X12_told_17 hS h

theorem dX12_moveKept_0 : decode cX12_moveKept 0 = .ok (.aload_n 0, 1) := by decide +kernel
theorem dX12_moveKept_1 : decode cX12_moveKept 1 = .ok (.getfield 56, 3) := by decide +kernel
theorem dX12_moveKept_4 : decode cX12_moveKept 4 = .ok (.iload_n 2, 1) := by decide +kernel
theorem dX12_moveKept_5 : decode cX12_moveKept 5 = .ok (.aload_n 0, 1) := by decide +kernel
theorem dX12_moveKept_6 : decode cX12_moveKept 6 = .ok (.getfield 56, 3) := by decide +kernel
theorem dX12_moveKept_9 : decode cX12_moveKept 9 = .ok (.iload_n 1, 1) := by decide +kernel
theorem dX12_moveKept_10 : decode cX12_moveKept 10 = .ok (.iaload, 1) := by decide +kernel
theorem dX12_moveKept_11 : decode cX12_moveKept 11 = .ok (.iastore, 1) := by decide +kernel
theorem dX12_moveKept_12 : decode cX12_moveKept 12 = .ok (.iconst 0, 1) := by decide +kernel
theorem dX12_moveKept_13 : decode cX12_moveKept 13 = .ok (.istore_n 3, 1) := by decide +kernel
theorem dX12_moveKept_14 : decode cX12_moveKept 14 = .ok (.iload_n 3, 1) := by decide +kernel
theorem dX12_moveKept_15 : decode cX12_moveKept 15 = .ok (.bipush 64, 2) := by decide +kernel
theorem dX12_moveKept_17 : decode cX12_moveKept 17 = .ok (.if_icmp .ge 31, 3) := by decide +kernel
theorem dX12_moveKept_20 : decode cX12_moveKept 20 = .ok (.aload_n 0, 1) := by decide +kernel
theorem dX12_moveKept_21 : decode cX12_moveKept 21 = .ok (.getfield 59, 3) := by decide +kernel
theorem dX12_moveKept_24 : decode cX12_moveKept 24 = .ok (.bipush 64, 2) := by decide +kernel
theorem dX12_moveKept_26 : decode cX12_moveKept 26 = .ok (.iload_n 2, 1) := by decide +kernel
theorem dX12_moveKept_27 : decode cX12_moveKept 27 = .ok (.imul, 1) := by decide +kernel
theorem dX12_moveKept_28 : decode cX12_moveKept 28 = .ok (.iload_n 3, 1) := by decide +kernel
theorem dX12_moveKept_29 : decode cX12_moveKept 29 = .ok (.iadd, 1) := by decide +kernel
theorem dX12_moveKept_30 : decode cX12_moveKept 30 = .ok (.aload_n 0, 1) := by decide +kernel
theorem dX12_moveKept_31 : decode cX12_moveKept 31 = .ok (.getfield 59, 3) := by decide +kernel
theorem dX12_moveKept_34 : decode cX12_moveKept 34 = .ok (.bipush 64, 2) := by decide +kernel
theorem dX12_moveKept_36 : decode cX12_moveKept 36 = .ok (.iload_n 1, 1) := by decide +kernel
theorem dX12_moveKept_37 : decode cX12_moveKept 37 = .ok (.imul, 1) := by decide +kernel
theorem dX12_moveKept_38 : decode cX12_moveKept 38 = .ok (.iload_n 3, 1) := by decide +kernel
theorem dX12_moveKept_39 : decode cX12_moveKept 39 = .ok (.iadd, 1) := by decide +kernel
theorem dX12_moveKept_40 : decode cX12_moveKept 40 = .ok (.iaload, 1) := by decide +kernel
theorem dX12_moveKept_41 : decode cX12_moveKept 41 = .ok (.iastore, 1) := by decide +kernel
theorem dX12_moveKept_42 : decode cX12_moveKept 42 = .ok (.iinc 3 1, 3) := by decide +kernel
theorem dX12_moveKept_45 : decode cX12_moveKept 45 = .ok (.goto (-31), 3) := by decide +kernel
theorem dX12_moveKept_48 : decode cX12_moveKept 48 = .ok (.iconst 0, 1) := by decide +kernel
theorem dX12_moveKept_49 : decode cX12_moveKept 49 = .ok (.istore_n 3, 1) := by decide +kernel
theorem dX12_moveKept_50 : decode cX12_moveKept 50 = .ok (.iload_n 3, 1) := by decide +kernel
theorem dX12_moveKept_51 : decode cX12_moveKept 51 = .ok (.sipush 256, 3) := by decide +kernel
theorem dX12_moveKept_54 : decode cX12_moveKept 54 = .ok (.if_icmp .ge 33, 3) := by decide +kernel
theorem dX12_moveKept_57 : decode cX12_moveKept 57 = .ok (.aload_n 0, 1) := by decide +kernel
theorem dX12_moveKept_58 : decode cX12_moveKept 58 = .ok (.getfield 62, 3) := by decide +kernel
theorem dX12_moveKept_61 : decode cX12_moveKept 61 = .ok (.sipush 256, 3) := by decide +kernel
theorem dX12_moveKept_64 : decode cX12_moveKept 64 = .ok (.iload_n 2, 1) := by decide +kernel
theorem dX12_moveKept_65 : decode cX12_moveKept 65 = .ok (.imul, 1) := by decide +kernel
theorem dX12_moveKept_66 : decode cX12_moveKept 66 = .ok (.iload_n 3, 1) := by decide +kernel
theorem dX12_moveKept_67 : decode cX12_moveKept 67 = .ok (.iadd, 1) := by decide +kernel
theorem dX12_moveKept_68 : decode cX12_moveKept 68 = .ok (.aload_n 0, 1) := by decide +kernel
theorem dX12_moveKept_69 : decode cX12_moveKept 69 = .ok (.getfield 62, 3) := by decide +kernel
theorem dX12_moveKept_72 : decode cX12_moveKept 72 = .ok (.sipush 256, 3) := by decide +kernel
theorem dX12_moveKept_75 : decode cX12_moveKept 75 = .ok (.iload_n 1, 1) := by decide +kernel
theorem dX12_moveKept_76 : decode cX12_moveKept 76 = .ok (.imul, 1) := by decide +kernel
theorem dX12_moveKept_77 : decode cX12_moveKept 77 = .ok (.iload_n 3, 1) := by decide +kernel
theorem dX12_moveKept_78 : decode cX12_moveKept 78 = .ok (.iadd, 1) := by decide +kernel
theorem dX12_moveKept_79 : decode cX12_moveKept 79 = .ok (.iaload, 1) := by decide +kernel
theorem dX12_moveKept_80 : decode cX12_moveKept 80 = .ok (.iastore, 1) := by decide +kernel
theorem dX12_moveKept_81 : decode cX12_moveKept 81 = .ok (.iinc 3 1, 3) := by decide +kernel
theorem dX12_moveKept_84 : decode cX12_moveKept 84 = .ok (.goto (-34), 3) := by decide +kernel
theorem dX12_moveKept_87 : decode cX12_moveKept 87 = .ok (.return_, 1) := by decide +kernel
def f_X12_moveKept_50s (F P : Nat) (S : xSt) (rec_50 : Nat → Int32 → Int32 → Int32 → xDt → Option (xDt)) (v0 : Nat) (v1 : Int32) (v2 : Int32) (v3 : Int32) (D : xDt) : Option (xDt) :=
  if 256 ≤ v3 then (some D) else (xgrd (xin ((256 * v1) + v3) (xl S (xr S v0 6))) (xgrd (xin ((256 * v2) + v3) (xl S (xr S v0 6))) (xlet (xup D.1 (xr S v0 6) ((256 * v2) + v3).toNatClampNeg (D.1 (xr S v0 6) ((256 * v1) + v3).toNatClampNeg), D.2) fun D3 => xlet (v3 + 1) fun v3_4 => rec_50 v0 v1 v2 v3_4 D3)))
def f_X12_moveKept_50 (F P : Nat) (S : xSt) : Nat → Nat → Int32 → Int32 → Int32 → xDt → Option (xDt)
  | 0 => fun _ _ _ _ _ => none
  | n + 1 => f_X12_moveKept_50s F P S (f_X12_moveKept_50 F P S n)
set_option maxHeartbeats 4000000 in
theorem t_X12_moveKept_50s {F P : Nat} {S : xSt} (hS : xWF S) {rec_50 : Nat → Int32 → Int32 → Int32 → xDt → Option (xDt)} (hrec_50 : ∀ {v0 : Nat} {v1 : Int32} {v2 : Int32} {v3 : Int32} {D : xDt} {r : xDt}, xK S v0 12 → rec_50 v0 v1 v2 v3 D = some r → yEx md_X12_moveKept 0 50 [(0, .ref v0), (1, .int v1), (2, .int v2), (3, .int v3)] [] S D (xQv S r)) {v0 : Nat} {v1 : Int32} {v2 : Int32} {v3 : Int32} {D : xDt} {r : xDt} (k0 : xK S v0 12) (h : f_X12_moveKept_50s F P S rec_50 v0 v1 v2 v3 D = some r) : yEx md_X12_moveKept 0 50 [(0, .ref v0), (1, .int v1), (2, .int v2), (3, .int v3)] [] S D (xQv S r) := by
  unfold f_X12_moveKept_50s at h
  refine x_iload_n dX12_moveKept_50 3 rfl ?_
  refine x_sipush 256 dX12_moveKept_51 (by decide) ?_
  refine x_icmp_ge 87 dX12_moveKept_54 (by decide) (fun c => ?_) (fun c => ?_)
  · rw [if_pos c] at h
    obtain rfl := Option.some.inj h
    exact y_vret rfl dX12_moveKept_87
  · rw [if_neg c] at h
    refine x_aload_n dX12_moveKept_57 0 rfl ?_
    refine y_getr (kd := 100) hS fl_RX12_62 dX12_moveKept_58 rfl k0 ?_
    refine x_sipush 256 dX12_moveKept_61 (by decide) ?_
    refine x_iload_n dX12_moveKept_64 2 rfl ?_
    refine x_imul dX12_moveKept_65 ?_
    refine x_iload_n dX12_moveKept_66 3 rfl ?_
    refine x_iadd dX12_moveKept_67 ?_
    refine x_aload_n dX12_moveKept_68 0 rfl ?_
    refine y_getr (kd := 100) hS fl_RX12_62 dX12_moveKept_69 rfl k0 ?_
    refine x_sipush 256 dX12_moveKept_72 (by decide) ?_
    refine x_iload_n dX12_moveKept_75 1 rfl ?_
    refine x_imul dX12_moveKept_76 ?_
    refine x_iload_n dX12_moveKept_77 3 rfl ?_
    refine x_iadd dX12_moveKept_78 ?_
    refine xgrd_e h (fun g1 h => ?_)
    refine y_iald dX12_moveKept_79 ((hS.f k0 6 100 rfl).2) g1 ?_
    refine xgrd_e h (fun g2 h => ?_)
    refine xlet_e h (fun D3 eD3 h => ?_)
    refine y_iast dX12_moveKept_80 ((hS.f k0 6 100 rfl).2) g2 eD3 ?_
    refine xlet_e h (fun v3_4 ev3_4 h => ?_)
    refine y_iinc v3_4 ev3_4 (by decide) [(3, .int v3_4), (0, .ref v0), (1, .int v1), (2, .int v2)] dX12_moveKept_81 3 rfl (by show _ < 4; decide) rfl ?_
    refine x_goto 50 dX12_moveKept_84 (by decide) ?_
    refine x_lv (lv' := [(0, .ref v0), (1, .int v1), (2, .int v2), (3, .int v3_4)]) [1, 2, 3, 0] rfl ?_
    exact hrec_50 k0 h
theorem t_X12_moveKept_50 {F P : Nat} {S : xSt} (hS : xWF S) : ∀ (n : Nat) {v0 : Nat} {v1 : Int32} {v2 : Int32} {v3 : Int32} {D : xDt} {r : xDt}, xK S v0 12 → f_X12_moveKept_50 F P S n v0 v1 v2 v3 D = some r → yEx md_X12_moveKept 0 50 [(0, .ref v0), (1, .int v1), (2, .int v2), (3, .int v3)] [] S D (xQv S r) := by
  intro n
  induction n with
  | zero => intros; rename_i h; cases h
  | succ n ih =>
    intro v0 v1 v2 v3 D r k0 h
    exact t_X12_moveKept_50s hS (fun k0 h => ih k0 h) k0 h

def f_X12_moveKept_14s (F P : Nat) (S : xSt) (rec_14 : Nat → Int32 → Int32 → Int32 → xDt → Option (xDt)) (v0 : Nat) (v1 : Int32) (v2 : Int32) (v3 : Int32) (D : xDt) : Option (xDt) :=
  if 64 ≤ v3 then (f_X12_moveKept_50 F P S F v0 v1 v2 0 D) else (xgrd (xin ((64 * v1) + v3) (xl S (xr S v0 5))) (xgrd (xin ((64 * v2) + v3) (xl S (xr S v0 5))) (xlet (xup D.1 (xr S v0 5) ((64 * v2) + v3).toNatClampNeg (D.1 (xr S v0 5) ((64 * v1) + v3).toNatClampNeg), D.2) fun D3 => xlet (v3 + 1) fun v3_4 => rec_14 v0 v1 v2 v3_4 D3)))
def f_X12_moveKept_14 (F P : Nat) (S : xSt) : Nat → Nat → Int32 → Int32 → Int32 → xDt → Option (xDt)
  | 0 => fun _ _ _ _ _ => none
  | n + 1 => f_X12_moveKept_14s F P S (f_X12_moveKept_14 F P S n)
set_option maxHeartbeats 4000000 in
theorem t_X12_moveKept_14s {F P : Nat} {S : xSt} (hS : xWF S) {rec_14 : Nat → Int32 → Int32 → Int32 → xDt → Option (xDt)} (hrec_14 : ∀ {v0 : Nat} {v1 : Int32} {v2 : Int32} {v3 : Int32} {D : xDt} {r : xDt}, xK S v0 12 → rec_14 v0 v1 v2 v3 D = some r → yEx md_X12_moveKept 0 14 [(0, .ref v0), (1, .int v1), (2, .int v2), (3, .int v3)] [] S D (xQv S r)) {v0 : Nat} {v1 : Int32} {v2 : Int32} {v3 : Int32} {D : xDt} {r : xDt} (k0 : xK S v0 12) (h : f_X12_moveKept_14s F P S rec_14 v0 v1 v2 v3 D = some r) : yEx md_X12_moveKept 0 14 [(0, .ref v0), (1, .int v1), (2, .int v2), (3, .int v3)] [] S D (xQv S r) := by
  unfold f_X12_moveKept_14s at h
  refine x_iload_n dX12_moveKept_14 3 rfl ?_
  refine x_bipush 64 dX12_moveKept_15 (by decide) ?_
  refine x_icmp_ge 48 dX12_moveKept_17 (by decide) (fun c => ?_) (fun c => ?_)
  · rw [if_pos c] at h
    refine x_iconst 0 dX12_moveKept_48 (by decide) ?_
    refine y_istore_n 0 rfl [(3, .int 0), (0, .ref v0), (1, .int v1), (2, .int v2)] dX12_moveKept_49 (by show _ < 4; decide) rfl ?_
    refine x_lv (lv' := [(0, .ref v0), (1, .int v1), (2, .int v2), (3, .int 0)]) [1, 2, 3, 0] rfl ?_
    exact t_X12_moveKept_50 hS F k0 h
  · rw [if_neg c] at h
    refine x_aload_n dX12_moveKept_20 0 rfl ?_
    refine y_getr (kd := 100) hS fl_RX12_59 dX12_moveKept_21 rfl k0 ?_
    refine x_bipush 64 dX12_moveKept_24 (by decide) ?_
    refine x_iload_n dX12_moveKept_26 2 rfl ?_
    refine x_imul dX12_moveKept_27 ?_
    refine x_iload_n dX12_moveKept_28 3 rfl ?_
    refine x_iadd dX12_moveKept_29 ?_
    refine x_aload_n dX12_moveKept_30 0 rfl ?_
    refine y_getr (kd := 100) hS fl_RX12_59 dX12_moveKept_31 rfl k0 ?_
    refine x_bipush 64 dX12_moveKept_34 (by decide) ?_
    refine x_iload_n dX12_moveKept_36 1 rfl ?_
    refine x_imul dX12_moveKept_37 ?_
    refine x_iload_n dX12_moveKept_38 3 rfl ?_
    refine x_iadd dX12_moveKept_39 ?_
    refine xgrd_e h (fun g1 h => ?_)
    refine y_iald dX12_moveKept_40 ((hS.f k0 5 100 rfl).2) g1 ?_
    refine xgrd_e h (fun g2 h => ?_)
    refine xlet_e h (fun D3 eD3 h => ?_)
    refine y_iast dX12_moveKept_41 ((hS.f k0 5 100 rfl).2) g2 eD3 ?_
    refine xlet_e h (fun v3_4 ev3_4 h => ?_)
    refine y_iinc v3_4 ev3_4 (by decide) [(3, .int v3_4), (0, .ref v0), (1, .int v1), (2, .int v2)] dX12_moveKept_42 3 rfl (by show _ < 4; decide) rfl ?_
    refine x_goto 14 dX12_moveKept_45 (by decide) ?_
    refine x_lv (lv' := [(0, .ref v0), (1, .int v1), (2, .int v2), (3, .int v3_4)]) [1, 2, 3, 0] rfl ?_
    exact hrec_14 k0 h
theorem t_X12_moveKept_14 {F P : Nat} {S : xSt} (hS : xWF S) : ∀ (n : Nat) {v0 : Nat} {v1 : Int32} {v2 : Int32} {v3 : Int32} {D : xDt} {r : xDt}, xK S v0 12 → f_X12_moveKept_14 F P S n v0 v1 v2 v3 D = some r → yEx md_X12_moveKept 0 14 [(0, .ref v0), (1, .int v1), (2, .int v2), (3, .int v3)] [] S D (xQv S r) := by
  intro n
  induction n with
  | zero => intros; rename_i h; cases h
  | succ n ih =>
    intro v0 v1 v2 v3 D r k0 h
    exact t_X12_moveKept_14s hS (fun k0 h => ih k0 h) k0 h

def f_X12_moveKept (F P : Nat) (S : xSt) (v0 : Nat) (v1 : Int32) (v2 : Int32) (D : xDt) : Option (xDt) :=
  xgrd (xin v1 (xl S (xr S v0 4))) (xgrd (xin v2 (xl S (xr S v0 4))) (xlet (xup D.1 (xr S v0 4) (v2).toNatClampNeg (D.1 (xr S v0 4) (v1).toNatClampNeg), D.2) fun D3 => f_X12_moveKept_14 F P S F v0 v1 v2 0 D3))
set_option maxHeartbeats 4000000 in
theorem S_X12_moveKept {F P : Nat} {S : xSt} (hS : xWF S) {v0 : Nat} {v1 : Int32} {v2 : Int32} {D : xDt} {r : xDt} (k0 : xK S v0 12) (h : f_X12_moveKept F P S v0 v1 v2 D = some r) : xSp md_X12_moveKept (0, 0, 0) [.ref v0, .int v1, .int v2] (S, D) (xQv S r) := by
  unfold f_X12_moveKept at h
  refine xEntry (by decide) (Nat.le_of_ble_eq_true rfl) ?_
  refine x_lv (lv' := [(0, .ref v0), (1, .int v1), (2, .int v2)]) [0, 1, 2] rfl ?_
  refine x_aload_n dX12_moveKept_0 0 rfl ?_
  refine y_getr (kd := 100) hS fl_RX12_56 dX12_moveKept_1 rfl k0 ?_
  refine x_iload_n dX12_moveKept_4 2 rfl ?_
  refine x_aload_n dX12_moveKept_5 0 rfl ?_
  refine y_getr (kd := 100) hS fl_RX12_56 dX12_moveKept_6 rfl k0 ?_
  refine x_iload_n dX12_moveKept_9 1 rfl ?_
  refine xgrd_e h (fun g1 h => ?_)
  refine y_iald dX12_moveKept_10 ((hS.f k0 4 100 rfl).2) g1 ?_
  refine xgrd_e h (fun g2 h => ?_)
  refine xlet_e h (fun D3 eD3 h => ?_)
  refine y_iast dX12_moveKept_11 ((hS.f k0 4 100 rfl).2) g2 eD3 ?_
  refine x_iconst 0 dX12_moveKept_12 (by decide) ?_
  refine y_istore_n 0 rfl [(3, .int 0), (0, .ref v0), (1, .int v1), (2, .int v2)] dX12_moveKept_13 (by show _ < 4; decide) rfl ?_
  refine x_lv (lv' := [(0, .ref v0), (1, .int v1), (2, .int v2), (3, .int 0)]) [1, 2, 3, 0] rfl ?_
  exact t_X12_moveKept_14 hS F k0 h

