/-! printed by wip/whole/gen.py: the methods as plain functions, each proved to be what its bytecode does -/
theorem dX11_signOf_0 : decode cX11_signOf 0 = .ok (.iload_n 0, 1) := by decide +kernel
theorem dX11_signOf_1 : decode cX11_signOf 1 = .ok (.bipush 127, 2) := by decide +kernel
theorem dX11_signOf_3 : decode cX11_signOf 3 = .ok (.iand, 1) := by decide +kernel
theorem dX11_signOf_4 : decode cX11_signOf 4 = .ok (.ireturn, 1) := by decide +kernel
def f_X11_signOf (F P : Nat) (S : xSt) (v0 : Int32) (D : xDt) : Option (Int32 × xDt) :=
  some (v0 &&& 127, D)
set_option maxHeartbeats 4000000 in
theorem S_X11_signOf {F P : Nat} {S : xSt} (hS : xWF S) {v0 : Int32} {D : xDt} {r : Int32 × xDt} (h : f_X11_signOf F P S v0 D = some r) : xSp md_X11_signOf (0, 0, 0) [.int v0] (S, D) (xQi S r) := by
  unfold f_X11_signOf at h
  refine xEntry (by decide) (Nat.le_of_ble_eq_true rfl) ?_
  refine x_lv (lv' := [(0, .int v0)]) [0] rfl ?_
  refine x_iload_n dX11_signOf_0 0 rfl ?_
  refine x_bipush 127 dX11_signOf_1 (by decide) ?_
  refine x_iand dX11_signOf_3 ?_
  obtain rfl := Option.some.inj h
  exact y_iret rfl dX11_signOf_4

theorem dJ0_isLatin1_aae02_0 : decode cJ0_isLatin1_aae02 0 = .ok (.getstatic 38, 3) := by decide +kernel
theorem dJ0_isLatin1_aae02_3 : decode cJ0_isLatin1_aae02 3 = .ok (.ifCond .eq 14, 3) := by decide +kernel
theorem dJ0_isLatin1_aae02_6 : decode cJ0_isLatin1_aae02 6 = .ok (.aload_n 0, 1) := by decide +kernel
theorem dJ0_isLatin1_aae02_7 : decode cJ0_isLatin1_aae02 7 = .ok (.getfield 15, 3) := by decide +kernel
theorem dJ0_isLatin1_aae02_10 : decode cJ0_isLatin1_aae02 10 = .ok (.ifCond .ne 7, 3) := by decide +kernel
theorem dJ0_isLatin1_aae02_13 : decode cJ0_isLatin1_aae02 13 = .ok (.iconst 1, 1) := by decide +kernel
theorem dJ0_isLatin1_aae02_14 : decode cJ0_isLatin1_aae02 14 = .ok (.goto 4, 3) := by decide +kernel
theorem dJ0_isLatin1_aae02_17 : decode cJ0_isLatin1_aae02 17 = .ok (.iconst 0, 1) := by decide +kernel
theorem dJ0_isLatin1_aae02_18 : decode cJ0_isLatin1_aae02 18 = .ok (.ireturn, 1) := by decide +kernel
def f_J0_isLatin1_aae02_17 (F P : Nat) (S : xSt) (D : xDt) : Option (Int32 × xDt) :=
  some (0, D)
set_option maxHeartbeats 4000000 in
theorem t_J0_isLatin1_aae02_17 {F P : Nat} {S : xSt} (hS : xWF S) {D : xDt} {r : Int32 × xDt} (h : f_J0_isLatin1_aae02_17 F P S D = some r) : yEx md_J0_isLatin1_aae02 0 17 [] [] S D (xQi S r) := by
  unfold f_J0_isLatin1_aae02_17 at h
  refine x_iconst 0 dJ0_isLatin1_aae02_17 (by decide) ?_
  obtain rfl := Option.some.inj h
  exact y_zret rfl rfl dJ0_isLatin1_aae02_18

def f_J0_isLatin1_aae02 (F P : Nat) (S : xSt) (v0 : Nat) (D : xDt) : Option (Int32 × xDt) :=
  if (1 : Int32) = 0 then (f_J0_isLatin1_aae02_17 F P S D) else (if (0 : Int32) = 0 then (some (1, D)) else (f_J0_isLatin1_aae02_17 F P S D))
set_option maxHeartbeats 4000000 in
theorem S_J0_isLatin1_aae02 {F P : Nat} {S : xSt} (hS : xWF S) {v0 : Nat} {D : xDt} {r : Int32 × xDt} (k0 : v0 < 4) (h : f_J0_isLatin1_aae02 F P S v0 D = some r) : xSp md_J0_isLatin1_aae02 (0, 0, 0) [.float (xsS v0)] (S, D) (xQi S r) := by
  unfold f_J0_isLatin1_aae02 at h
  refine xEntry (by decide) (Nat.le_of_ble_eq_true rfl) ?_
  refine x_lv (lv' := [(0, .float (xsS v0))]) [0] rfl ?_
  refine y_compact wd_874 dJ0_isLatin1_aae02_0 ?_
  refine x_if_eq 17 dJ0_isLatin1_aae02_3 (by decide) (fun c => ?_) (fun c => ?_)
  · rw [if_pos c] at h
    refine x_lv (lv' := []) [] rfl ?_
    exact t_J0_isLatin1_aae02_17 hS h
  · rw [if_neg c] at h
    refine x_sload_n dJ0_isLatin1_aae02_6 0 rfl ?_
    refine y_strcod k0 wd_1553 dJ0_isLatin1_aae02_7 ?_
    refine x_if_ne 17 dJ0_isLatin1_aae02_10 (by decide) (fun c => ?_) (fun c => ?_)
    · rw [if_neg c] at h
      refine x_lv (lv' := []) [] rfl ?_
      exact t_J0_isLatin1_aae02_17 hS h
    · rw [if_pos c] at h
      refine x_iconst 1 dJ0_isLatin1_aae02_13 (by decide) ?_
      refine x_goto 18 dJ0_isLatin1_aae02_14 (by decide) ?_
      obtain rfl := Option.some.inj h
      exact y_zret rfl rfl dJ0_isLatin1_aae02_18

theorem dJ0_coder_7d493_0 : decode cJ0_coder_7d493 0 = .ok (.getstatic 38, 3) := by decide +kernel
theorem dJ0_coder_7d493_3 : decode cJ0_coder_7d493 3 = .ok (.ifCond .eq 10, 3) := by decide +kernel
theorem dJ0_coder_7d493_6 : decode cJ0_coder_7d493 6 = .ok (.aload_n 0, 1) := by decide +kernel
theorem dJ0_coder_7d493_7 : decode cJ0_coder_7d493 7 = .ok (.getfield 15, 3) := by decide +kernel
theorem dJ0_coder_7d493_10 : decode cJ0_coder_7d493 10 = .ok (.goto 4, 3) := by decide +kernel
theorem dJ0_coder_7d493_13 : decode cJ0_coder_7d493 13 = .ok (.iconst 1, 1) := by decide +kernel
theorem dJ0_coder_7d493_14 : decode cJ0_coder_7d493 14 = .ok (.ireturn, 1) := by decide +kernel
def f_J0_coder_7d493 (F P : Nat) (S : xSt) (v0 : Nat) (D : xDt) : Option (Int32 × xDt) :=
  if (1 : Int32) = 0 then (xgrd (xnr .byte 1) (some (1, D))) else (xgrd (xnr .byte 0) (some (0, D)))
set_option maxHeartbeats 4000000 in
theorem S_J0_coder_7d493 {F P : Nat} {S : xSt} (hS : xWF S) {v0 : Nat} {D : xDt} {r : Int32 × xDt} (k0 : v0 < 4) (h : f_J0_coder_7d493 F P S v0 D = some r) : xSp md_J0_coder_7d493 (0, 0, 0) [.float (xsS v0)] (S, D) (xQi S r) := by
  unfold f_J0_coder_7d493 at h
  refine xEntry (by decide) (Nat.le_of_ble_eq_true rfl) ?_
  refine x_lv (lv' := [(0, .float (xsS v0))]) [0] rfl ?_
  refine y_compact wd_874 dJ0_coder_7d493_0 ?_
  refine x_if_eq 13 dJ0_coder_7d493_3 (by decide) (fun c => ?_) (fun c => ?_)
  · rw [if_pos c] at h
    refine x_iconst 1 dJ0_coder_7d493_13 (by decide) ?_
    refine xgrd_e h (fun g1 h => ?_)
    obtain rfl := Option.some.inj h
    exact y_nret rfl g1 dJ0_coder_7d493_14
  · rw [if_neg c] at h
    refine x_sload_n dJ0_coder_7d493_6 0 rfl ?_
    refine y_strcod k0 wd_1553 dJ0_coder_7d493_7 ?_
    refine x_goto 14 dJ0_coder_7d493_10 (by decide) ?_
    refine xgrd_e h (fun g2 h => ?_)
    obtain rfl := Option.some.inj h
    exact y_nret rfl g2 dJ0_coder_7d493_14

theorem dJ0_length_8abf5_0 : decode cJ0_length_8abf5 0 = .ok (.aload_n 0, 1) := by decide +kernel
theorem dJ0_length_8abf5_1 : decode cJ0_length_8abf5 1 = .ok (.getfield 9, 3) := by decide +kernel
theorem dJ0_length_8abf5_4 : decode cJ0_length_8abf5 4 = .ok (.arraylength, 1) := by decide +kernel
theorem dJ0_length_8abf5_5 : decode cJ0_length_8abf5 5 = .ok (.aload_n 0, 1) := by decide +kernel
theorem dJ0_length_8abf5_6 : decode cJ0_length_8abf5 6 = .ok (.invokevirtual 335, 3) := by decide +kernel
theorem dJ0_length_8abf5_9 : decode cJ0_length_8abf5 9 = .ok (.ishr, 1) := by decide +kernel
theorem dJ0_length_8abf5_10 : decode cJ0_length_8abf5 10 = .ok (.ireturn, 1) := by decide +kernel
def f_J0_length_8abf5 (F P : Nat) (S : xSt) (v0 : Nat) (D : xDt) : Option (Int32 × xDt) :=
  (f_J0_coder_7d493 F P S v0 D).bind fun q1 => some (jishr (Int32.ofNat (xsLen.getD v0 0)) q1.1, q1.2)
set_option maxHeartbeats 4000000 in
theorem S_J0_length_8abf5 {F P : Nat} {S : xSt} (hS : xWF S) {v0 : Nat} {D : xDt} {r : Int32 × xDt} (k0 : v0 < 4) (h : f_J0_length_8abf5 F P S v0 D = some r) : xSp md_J0_length_8abf5 (1, 0, 0) [.float (xsS v0)] (S, D) (xQi S r) := by
  unfold f_J0_length_8abf5 at h
  refine xEntry (by decide) (Nat.le_of_ble_eq_true rfl) ?_
  refine x_lv (lv' := [(0, .float (xsS v0))]) [0] rfl ?_
  refine x_sload_n dJ0_length_8abf5_0 0 rfl ?_
  refine y_strval k0 wd_1554 dJ0_length_8abf5_1 ?_
  refine y_tlen k0 dJ0_length_8abf5_4 ?_
  refine x_sload_n dJ0_length_8abf5_5 0 rfl ?_
  refine xbnd_e h (fun q1 e1 h => ?_)
  refine y_callT (i := v0) (As := []) (q := q1) k0 ct_RJ0_335 dJ0_length_8abf5_6 rfl (Nat.le_of_ble_eq_true rfl) (by omega) (S_J0_coder_7d493 hS k0 e1) ?_
  refine x_ishr dJ0_length_8abf5_9 ?_
  obtain rfl := Option.some.inj h
  exact y_iret rfl dJ0_length_8abf5_10

theorem dJ1_canEncode_9a6ad_0 : decode cJ1_canEncode_9a6ad 0 = .ok (.iload_n 0, 1) := by decide +kernel
theorem dJ1_canEncode_9a6ad_1 : decode cJ1_canEncode_9a6ad 1 = .ok (.ifCond .lt 14, 3) := by decide +kernel
theorem dJ1_canEncode_9a6ad_4 : decode cJ1_canEncode_9a6ad 4 = .ok (.iload_n 0, 1) := by decide +kernel
theorem dJ1_canEncode_9a6ad_5 : decode cJ1_canEncode_9a6ad 5 = .ok (.sipush 255, 3) := by decide +kernel
theorem dJ1_canEncode_9a6ad_8 : decode cJ1_canEncode_9a6ad 8 = .ok (.if_icmp .gt 7, 3) := by decide +kernel
theorem dJ1_canEncode_9a6ad_11 : decode cJ1_canEncode_9a6ad 11 = .ok (.iconst 1, 1) := by decide +kernel
theorem dJ1_canEncode_9a6ad_12 : decode cJ1_canEncode_9a6ad 12 = .ok (.goto 4, 3) := by decide +kernel
theorem dJ1_canEncode_9a6ad_15 : decode cJ1_canEncode_9a6ad 15 = .ok (.iconst 0, 1) := by decide +kernel
theorem dJ1_canEncode_9a6ad_16 : decode cJ1_canEncode_9a6ad 16 = .ok (.ireturn, 1) := by decide +kernel
def f_J1_canEncode_9a6ad_15 (F P : Nat) (S : xSt) (D : xDt) : Option (Int32 × xDt) :=
  some (0, D)
set_option maxHeartbeats 4000000 in
theorem t_J1_canEncode_9a6ad_15 {F P : Nat} {S : xSt} (hS : xWF S) {D : xDt} {r : Int32 × xDt} (h : f_J1_canEncode_9a6ad_15 F P S D = some r) : yEx md_J1_canEncode_9a6ad 0 15 [] [] S D (xQi S r) := by
  unfold f_J1_canEncode_9a6ad_15 at h
  refine x_iconst 0 dJ1_canEncode_9a6ad_15 (by decide) ?_
  obtain rfl := Option.some.inj h
  exact y_zret rfl rfl dJ1_canEncode_9a6ad_16

def f_J1_canEncode_9a6ad (F P : Nat) (S : xSt) (v0 : Int32) (D : xDt) : Option (Int32 × xDt) :=
  if v0 < 0 then (f_J1_canEncode_9a6ad_15 F P S D) else (if 255 < v0 then (f_J1_canEncode_9a6ad_15 F P S D) else (some (1, D)))
set_option maxHeartbeats 4000000 in
theorem S_J1_canEncode_9a6ad {F P : Nat} {S : xSt} (hS : xWF S) {v0 : Int32} {D : xDt} {r : Int32 × xDt} (h : f_J1_canEncode_9a6ad F P S v0 D = some r) : xSp md_J1_canEncode_9a6ad (0, 0, 0) [.int v0] (S, D) (xQi S r) := by
  unfold f_J1_canEncode_9a6ad at h
  refine xEntry (by decide) (Nat.le_of_ble_eq_true rfl) ?_
  refine x_lv (lv' := [(0, .int v0)]) [0] rfl ?_
  refine x_iload_n dJ1_canEncode_9a6ad_0 0 rfl ?_
  refine x_if_lt 15 dJ1_canEncode_9a6ad_1 (by decide) (fun c => ?_) (fun c => ?_)
  · rw [if_pos c] at h
    refine x_lv (lv' := []) [] rfl ?_
    exact t_J1_canEncode_9a6ad_15 hS h
  · rw [if_neg c] at h
    refine x_iload_n dJ1_canEncode_9a6ad_4 0 rfl ?_
    refine x_sipush 255 dJ1_canEncode_9a6ad_5 (by decide) ?_
    refine x_icmp_gt 15 dJ1_canEncode_9a6ad_8 (by decide) (fun c => ?_) (fun c => ?_)
    · rw [if_pos c] at h
      refine x_lv (lv' := []) [] rfl ?_
      exact t_J1_canEncode_9a6ad_15 hS h
    · rw [if_neg c] at h
      refine x_iconst 1 dJ1_canEncode_9a6ad_11 (by decide) ?_
      refine x_goto 16 dJ1_canEncode_9a6ad_12 (by decide) ?_
      obtain rfl := Option.some.inj h
      exact y_zret rfl rfl dJ1_canEncode_9a6ad_16

theorem dJ1_indexOfChar_4cfef_0 : decode cJ1_indexOfChar_4cfef 0 = .ok (.iload_n 1, 1) := by decide +kernel
theorem dJ1_indexOfChar_4cfef_1 : decode cJ1_indexOfChar_4cfef 1 = .ok (.i2b, 1) := by decide +kernel
theorem dJ1_indexOfChar_4cfef_2 : decode cJ1_indexOfChar_4cfef 2 = .ok (.istore 4, 2) := by decide +kernel
theorem dJ1_indexOfChar_4cfef_4 : decode cJ1_indexOfChar_4cfef 4 = .ok (.iload_n 2, 1) := by decide +kernel
theorem dJ1_indexOfChar_4cfef_5 : decode cJ1_indexOfChar_4cfef 5 = .ok (.istore 5, 2) := by decide +kernel
theorem dJ1_indexOfChar_4cfef_7 : decode cJ1_indexOfChar_4cfef 7 = .ok (.iload 5, 2) := by decide +kernel
theorem dJ1_indexOfChar_4cfef_9 : decode cJ1_indexOfChar_4cfef 9 = .ok (.iload_n 3, 1) := by decide +kernel
theorem dJ1_indexOfChar_4cfef_10 : decode cJ1_indexOfChar_4cfef 10 = .ok (.if_icmp .ge 21, 3) := by decide +kernel
theorem dJ1_indexOfChar_4cfef_13 : decode cJ1_indexOfChar_4cfef 13 = .ok (.aload_n 0, 1) := by decide +kernel
theorem dJ1_indexOfChar_4cfef_14 : decode cJ1_indexOfChar_4cfef 14 = .ok (.iload 5, 2) := by decide +kernel
theorem dJ1_indexOfChar_4cfef_16 : decode cJ1_indexOfChar_4cfef 16 = .ok (.baload, 1) := by decide +kernel
theorem dJ1_indexOfChar_4cfef_17 : decode cJ1_indexOfChar_4cfef 17 = .ok (.iload 4, 2) := by decide +kernel
theorem dJ1_indexOfChar_4cfef_19 : decode cJ1_indexOfChar_4cfef 19 = .ok (.if_icmp .ne 6, 3) := by decide +kernel
theorem dJ1_indexOfChar_4cfef_22 : decode cJ1_indexOfChar_4cfef 22 = .ok (.iload 5, 2) := by decide +kernel
theorem dJ1_indexOfChar_4cfef_24 : decode cJ1_indexOfChar_4cfef 24 = .ok (.ireturn, 1) := by decide +kernel
theorem dJ1_indexOfChar_4cfef_25 : decode cJ1_indexOfChar_4cfef 25 = .ok (.iinc 5 1, 3) := by decide +kernel
theorem dJ1_indexOfChar_4cfef_28 : decode cJ1_indexOfChar_4cfef 28 = .ok (.goto (-21), 3) := by decide +kernel
theorem dJ1_indexOfChar_4cfef_31 : decode cJ1_indexOfChar_4cfef 31 = .ok (.iconst (-1), 1) := by decide +kernel
theorem dJ1_indexOfChar_4cfef_32 : decode cJ1_indexOfChar_4cfef 32 = .ok (.ireturn, 1) := by decide +kernel
def f_J1_indexOfChar_4cfef_7s (F P : Nat) (S : xSt) (rec_7 : Nat → Int32 → Int32 → Int32 → xDt → Option (Int32 × xDt)) (v0 : Nat) (v3 : Int32) (v4 : Int32) (v5 : Int32) (D : xDt) : Option (Int32 × xDt) :=
  if v3 ≤ v5 then (some ((-1), D)) else (xgrd (xin v5 (xsLen.getD v0 0)) (if ((xsByt.getD v0 []).getD (v5).toNatClampNeg 0) = v4 then (some (v5, D)) else (xlet (v5 + 1) fun v5_2 => rec_7 v0 v3 v4 v5_2 D)))
def f_J1_indexOfChar_4cfef_7 (F P : Nat) (S : xSt) : Nat → Nat → Int32 → Int32 → Int32 → xDt → Option (Int32 × xDt)
  | 0 => fun _ _ _ _ _ => none
  | n + 1 => f_J1_indexOfChar_4cfef_7s F P S (f_J1_indexOfChar_4cfef_7 F P S n)
set_option maxHeartbeats 4000000 in
theorem t_J1_indexOfChar_4cfef_7s {F P : Nat} {S : xSt} (hS : xWF S) {rec_7 : Nat → Int32 → Int32 → Int32 → xDt → Option (Int32 × xDt)} (hrec_7 : ∀ {v0 : Nat} {v3 : Int32} {v4 : Int32} {v5 : Int32} {D : xDt} {r : Int32 × xDt}, v0 < 4 → rec_7 v0 v3 v4 v5 D = some r → yEx md_J1_indexOfChar_4cfef 0 7 [(0, .float (xsB v0)), (3, .int v3), (4, .int v4), (5, .int v5)] [] S D (xQi S r)) {v0 : Nat} {v3 : Int32} {v4 : Int32} {v5 : Int32} {D : xDt} {r : Int32 × xDt} (k0 : v0 < 4) (h : f_J1_indexOfChar_4cfef_7s F P S rec_7 v0 v3 v4 v5 D = some r) : yEx md_J1_indexOfChar_4cfef 0 7 [(0, .float (xsB v0)), (3, .int v3), (4, .int v4), (5, .int v5)] [] S D (xQi S r) := by
  unfold f_J1_indexOfChar_4cfef_7s at h
  refine x_iload dJ1_indexOfChar_4cfef_7 3 rfl ?_
  refine x_iload_n dJ1_indexOfChar_4cfef_9 1 rfl ?_
  refine x_icmp_ge 31 dJ1_indexOfChar_4cfef_10 (by decide) (fun c => ?_) (fun c => ?_)
  · rw [if_pos c] at h
    refine x_iconst (-1) dJ1_indexOfChar_4cfef_31 (by decide) ?_
    obtain rfl := Option.some.inj h
    exact y_iret rfl dJ1_indexOfChar_4cfef_32
  · rw [if_neg c] at h
    refine x_sload_n dJ1_indexOfChar_4cfef_13 0 rfl ?_
    refine x_iload dJ1_indexOfChar_4cfef_14 3 rfl ?_
    refine xgrd_e h (fun g1 h => ?_)
    refine y_tbald k0 g1 dJ1_indexOfChar_4cfef_16 ?_
    refine x_iload dJ1_indexOfChar_4cfef_17 2 rfl ?_
    refine x_icmp_ne 25 dJ1_indexOfChar_4cfef_19 (by decide) (fun c => ?_) (fun c => ?_)
    · rw [if_neg c] at h
      refine xlet_e h (fun v5_2 ev5_2 h => ?_)
      refine y_iinc v5_2 ev5_2 (by decide) [(5, .int v5_2), (0, .float (xsB v0)), (3, .int v3), (4, .int v4)] dJ1_indexOfChar_4cfef_25 3 rfl (by show _ < 6; decide) rfl ?_
      refine x_goto 7 dJ1_indexOfChar_4cfef_28 (by decide) ?_
      refine x_lv (lv' := [(0, .float (xsB v0)), (3, .int v3), (4, .int v4), (5, .int v5_2)]) [1, 2, 3, 0] rfl ?_
      exact hrec_7 k0 h
    · rw [if_pos c] at h
      refine x_iload dJ1_indexOfChar_4cfef_22 3 rfl ?_
      obtain rfl := Option.some.inj h
      exact y_iret rfl dJ1_indexOfChar_4cfef_24
theorem t_J1_indexOfChar_4cfef_7 {F P : Nat} {S : xSt} (hS : xWF S) : ∀ (n : Nat) {v0 : Nat} {v3 : Int32} {v4 : Int32} {v5 : Int32} {D : xDt} {r : Int32 × xDt}, v0 < 4 → f_J1_indexOfChar_4cfef_7 F P S n v0 v3 v4 v5 D = some r → yEx md_J1_indexOfChar_4cfef 0 7 [(0, .float (xsB v0)), (3, .int v3), (4, .int v4), (5, .int v5)] [] S D (xQi S r) := by
  intro n
  induction n with
  | zero => intros; rename_i h; cases h
  | succ n ih =>
    intro v0 v3 v4 v5 D r k0 h
    exact t_J1_indexOfChar_4cfef_7s hS (fun k0 h => ih k0 h) k0 h

def f_J1_indexOfChar_4cfef (F P : Nat) (S : xSt) (v0 : Nat) (v1 : Int32) (v2 : Int32) (v3 : Int32) (D : xDt) : Option (Int32 × xDt) :=
  xlet (ji2b v1) fun v4_1 => f_J1_indexOfChar_4cfef_7 F P S F v0 v3 v4_1 v2 D
set_option maxHeartbeats 4000000 in
theorem S_J1_indexOfChar_4cfef {F P : Nat} {S : xSt} (hS : xWF S) {v0 : Nat} {v1 : Int32} {v2 : Int32} {v3 : Int32} {D : xDt} {r : Int32 × xDt} (k0 : v0 < 4) (h : f_J1_indexOfChar_4cfef F P S v0 v1 v2 v3 D = some r) : xSp md_J1_indexOfChar_4cfef (0, 0, 0) [.float (xsB v0), .int v1, .int v2, .int v3] (S, D) (xQi S r) := by
  unfold f_J1_indexOfChar_4cfef at h
  refine xEntry (by decide) (Nat.le_of_ble_eq_true rfl) ?_
  refine x_lv (lv' := [(0, .float (xsB v0)), (1, .int v1), (2, .int v2), (3, .int v3)]) [0, 1, 2, 3] rfl ?_
  refine x_iload_n dJ1_indexOfChar_4cfef_0 1 rfl ?_
  refine x_i2b dJ1_indexOfChar_4cfef_1 ?_
  refine xlet_e h (fun v4_1 ev4_1 h => ?_)
  refine y_istore v4_1 ev4_1 [(4, .int v4_1), (0, .float (xsB v0)), (1, .int v1), (2, .int v2), (3, .int v3)] dJ1_indexOfChar_4cfef_2 (by show _ < 6; decide) rfl ?_
  refine x_iload_n dJ1_indexOfChar_4cfef_4 3 rfl ?_
  refine y_istore v2 rfl [(5, .int v2), (4, .int v4_1), (0, .float (xsB v0)), (1, .int v1), (2, .int v2), (3, .int v3)] dJ1_indexOfChar_4cfef_5 (by show _ < 6; decide) rfl ?_
  refine x_lv (lv' := [(0, .float (xsB v0)), (3, .int v3), (4, .int v4_1), (5, .int v2)]) [2, 5, 1, 0] rfl ?_
  exact t_J1_indexOfChar_4cfef_7 hS F k0 h

theorem dJ1_indexOf_4cfef_0 : decode cJ1_indexOf_4cfef 0 = .ok (.iload_n 1, 1) := by decide +kernel
theorem dJ1_indexOf_4cfef_1 : decode cJ1_indexOf_4cfef 1 = .ok (.invokestatic 88, 3) := by decide +kernel
theorem dJ1_indexOf_4cfef_4 : decode cJ1_indexOf_4cfef 4 = .ok (.ifCond .ne 5, 3) := by decide +kernel
theorem dJ1_indexOf_4cfef_7 : decode cJ1_indexOf_4cfef 7 = .ok (.iconst (-1), 1) := by decide +kernel
theorem dJ1_indexOf_4cfef_8 : decode cJ1_indexOf_4cfef 8 = .ok (.ireturn, 1) := by decide +kernel
theorem dJ1_indexOf_4cfef_9 : decode cJ1_indexOf_4cfef 9 = .ok (.iload_n 2, 1) := by decide +kernel
theorem dJ1_indexOf_4cfef_10 : decode cJ1_indexOf_4cfef 10 = .ok (.iconst 0, 1) := by decide +kernel
theorem dJ1_indexOf_4cfef_11 : decode cJ1_indexOf_4cfef 11 = .ok (.invokestatic 92, 3) := by decide +kernel
theorem dJ1_indexOf_4cfef_14 : decode cJ1_indexOf_4cfef 14 = .ok (.istore_n 2, 1) := by decide +kernel
theorem dJ1_indexOf_4cfef_15 : decode cJ1_indexOf_4cfef 15 = .ok (.iload_n 3, 1) := by decide +kernel
theorem dJ1_indexOf_4cfef_16 : decode cJ1_indexOf_4cfef 16 = .ok (.aload_n 0, 1) := by decide +kernel
theorem dJ1_indexOf_4cfef_17 : decode cJ1_indexOf_4cfef 17 = .ok (.arraylength, 1) := by decide +kernel
theorem dJ1_indexOf_4cfef_18 : decode cJ1_indexOf_4cfef 18 = .ok (.invokestatic 38, 3) := by decide +kernel
theorem dJ1_indexOf_4cfef_21 : decode cJ1_indexOf_4cfef 21 = .ok (.istore_n 3, 1) := by decide +kernel
theorem dJ1_indexOf_4cfef_22 : decode cJ1_indexOf_4cfef 22 = .ok (.iload_n 2, 1) := by decide +kernel
theorem dJ1_indexOf_4cfef_23 : decode cJ1_indexOf_4cfef 23 = .ok (.iload_n 3, 1) := by decide +kernel
theorem dJ1_indexOf_4cfef_24 : decode cJ1_indexOf_4cfef 24 = .ok (.if_icmp .lt 5, 3) := by decide +kernel
theorem dJ1_indexOf_4cfef_27 : decode cJ1_indexOf_4cfef 27 = .ok (.iconst (-1), 1) := by decide +kernel
theorem dJ1_indexOf_4cfef_28 : decode cJ1_indexOf_4cfef 28 = .ok (.ireturn, 1) := by decide +kernel
theorem dJ1_indexOf_4cfef_29 : decode cJ1_indexOf_4cfef 29 = .ok (.aload_n 0, 1) := by decide +kernel
theorem dJ1_indexOf_4cfef_30 : decode cJ1_indexOf_4cfef 30 = .ok (.iload_n 1, 1) := by decide +kernel
theorem dJ1_indexOf_4cfef_31 : decode cJ1_indexOf_4cfef 31 = .ok (.iload_n 2, 1) := by decide +kernel
theorem dJ1_indexOf_4cfef_32 : decode cJ1_indexOf_4cfef 32 = .ok (.iload_n 3, 1) := by decide +kernel
theorem dJ1_indexOf_4cfef_33 : decode cJ1_indexOf_4cfef 33 = .ok (.invokestatic 95, 3) := by decide +kernel
theorem dJ1_indexOf_4cfef_36 : decode cJ1_indexOf_4cfef 36 = .ok (.ireturn, 1) := by decide +kernel
def f_J1_indexOf_4cfef (F P : Nat) (S : xSt) (v0 : Nat) (v1 : Int32) (v2 : Int32) (v3 : Int32) (D : xDt) : Option (Int32 × xDt) :=
  (f_J1_canEncode_9a6ad F P S v1 D).bind fun q1 => if q1.1 = 0 then (some ((-1), q1.2)) else (xlet (jmax v2 0) fun v2_2 => xlet (jmin v3 (Int32.ofNat (xsLen.getD v0 0))) fun v3_3 => if v2_2 < v3_3 then ((f_J1_indexOfChar_4cfef F P S v0 v1 v2_2 v3_3 q1.2).bind fun q4 => some (q4.1, q4.2)) else (some ((-1), q1.2)))
set_option maxHeartbeats 4000000 in
theorem S_J1_indexOf_4cfef {F P : Nat} {S : xSt} (hS : xWF S) {v0 : Nat} {v1 : Int32} {v2 : Int32} {v3 : Int32} {D : xDt} {r : Int32 × xDt} (k0 : v0 < 4) (h : f_J1_indexOf_4cfef F P S v0 v1 v2 v3 D = some r) : xSp md_J1_indexOf_4cfef (1, 0, 0) [.float (xsB v0), .int v1, .int v2, .int v3] (S, D) (xQi S r) := by
  unfold f_J1_indexOf_4cfef at h
  refine xEntry (by decide) (Nat.le_of_ble_eq_true rfl) ?_
  refine x_lv (lv' := [(0, .float (xsB v0)), (1, .int v1), (2, .int v2), (3, .int v3)]) [0, 1, 2, 3] rfl ?_
  refine x_iload_n dJ1_indexOf_4cfef_0 1 rfl ?_
  refine xbnd_e h (fun q1 e1 h => ?_)
  refine y_callSi (As := [.int v1]) (q := q1) cs_RJ1_88 dJ1_indexOf_4cfef_1 rfl (Nat.le_of_ble_eq_true rfl) (by omega) (S_J1_canEncode_9a6ad hS e1) ?_
  refine x_if_ne 9 dJ1_indexOf_4cfef_4 (by decide) (fun c => ?_) (fun c => ?_)
  · rw [if_neg c] at h
    refine x_iload_n dJ1_indexOf_4cfef_9 2 rfl ?_
    refine x_iconst 0 dJ1_indexOf_4cfef_10 (by decide) ?_
    refine y_max mm_RJ1_92 dJ1_indexOf_4cfef_11 (Nat.le_of_ble_eq_true rfl) (by omega) ?_
    refine xlet_e h (fun v2_2 ev2_2 h => ?_)
    refine y_istore_n v2_2 ev2_2 [(2, .int v2_2), (0, .float (xsB v0)), (1, .int v1), (3, .int v3)] dJ1_indexOf_4cfef_14 (by show _ < 4; decide) rfl ?_
    refine x_iload_n dJ1_indexOf_4cfef_15 3 rfl ?_
    refine x_sload_n dJ1_indexOf_4cfef_16 1 rfl ?_
    refine y_tlen k0 dJ1_indexOf_4cfef_17 ?_
    refine y_min mm_RJ1_38 dJ1_indexOf_4cfef_18 (Nat.le_of_ble_eq_true rfl) (by omega) ?_
    refine xlet_e h (fun v3_3 ev3_3 h => ?_)
    refine y_istore_n v3_3 ev3_3 [(3, .int v3_3), (2, .int v2_2), (0, .float (xsB v0)), (1, .int v1)] dJ1_indexOf_4cfef_21 (by show _ < 4; decide) rfl ?_
    refine x_iload_n dJ1_indexOf_4cfef_22 1 rfl ?_
    refine x_iload_n dJ1_indexOf_4cfef_23 0 rfl ?_
    refine x_icmp_lt 29 dJ1_indexOf_4cfef_24 (by decide) (fun c => ?_) (fun c => ?_)
    · rw [if_pos c] at h
      refine x_sload_n dJ1_indexOf_4cfef_29 2 rfl ?_
      refine x_iload_n dJ1_indexOf_4cfef_30 3 rfl ?_
      refine x_iload_n dJ1_indexOf_4cfef_31 1 rfl ?_
      refine x_iload_n dJ1_indexOf_4cfef_32 0 rfl ?_
      refine xbnd_e h (fun q4 e4 h => ?_)
      refine y_callSi (As := [.float (xsB v0), .int v1, .int v2_2, .int v3_3]) (q := q4) cs_RJ1_95 dJ1_indexOf_4cfef_33 rfl (Nat.le_of_ble_eq_true rfl) (by omega) (S_J1_indexOfChar_4cfef hS k0 e4) ?_
      obtain rfl := Option.some.inj h
      exact y_iret rfl dJ1_indexOf_4cfef_36
    · rw [if_neg c] at h
      refine x_iconst (-1) dJ1_indexOf_4cfef_27 (by decide) ?_
      obtain rfl := Option.some.inj h
      exact y_iret rfl dJ1_indexOf_4cfef_28
  · rw [if_pos c] at h
    refine x_iconst (-1) dJ1_indexOf_4cfef_7 (by decide) ?_
    obtain rfl := Option.some.inj h
    exact y_iret rfl dJ1_indexOf_4cfef_8

theorem dJ3_checkFromToIndex_8c36e_0 : decode cJ3_checkFromToIndex_8c36e 0 = .ok (.iload_n 0, 1) := by decide +kernel
theorem dJ3_checkFromToIndex_8c36e_1 : decode cJ3_checkFromToIndex_8c36e 1 = .ok (.ifCond .lt 13, 3) := by decide +kernel
theorem dJ3_checkFromToIndex_8c36e_4 : decode cJ3_checkFromToIndex_8c36e 4 = .ok (.iload_n 0, 1) := by decide +kernel
theorem dJ3_checkFromToIndex_8c36e_5 : decode cJ3_checkFromToIndex_8c36e 5 = .ok (.iload_n 1, 1) := by decide +kernel
theorem dJ3_checkFromToIndex_8c36e_6 : decode cJ3_checkFromToIndex_8c36e 6 = .ok (.if_icmp .gt 8, 3) := by decide +kernel
theorem dJ3_checkFromToIndex_8c36e_9 : decode cJ3_checkFromToIndex_8c36e 9 = .ok (.iload_n 1, 1) := by decide +kernel
theorem dJ3_checkFromToIndex_8c36e_10 : decode cJ3_checkFromToIndex_8c36e 10 = .ok (.iload_n 2, 1) := by decide +kernel
theorem dJ3_checkFromToIndex_8c36e_11 : decode cJ3_checkFromToIndex_8c36e 11 = .ok (.if_icmp .le 11, 3) := by decide +kernel
theorem dJ3_checkFromToIndex_8c36e_14 : decode cJ3_checkFromToIndex_8c36e 14 = .ok (.aload_n 3, 1) := by decide +kernel
theorem dJ3_checkFromToIndex_8c36e_15 : decode cJ3_checkFromToIndex_8c36e 15 = .ok (.iload_n 0, 1) := by decide +kernel
theorem dJ3_checkFromToIndex_8c36e_16 : decode cJ3_checkFromToIndex_8c36e 16 = .ok (.iload_n 1, 1) := by decide +kernel
theorem dJ3_checkFromToIndex_8c36e_17 : decode cJ3_checkFromToIndex_8c36e 17 = .ok (.iload_n 2, 1) := by decide +kernel
theorem dJ3_checkFromToIndex_8c36e_18 : decode cJ3_checkFromToIndex_8c36e 18 = .ok (.invokestatic 99, 3) := by decide +kernel
theorem dJ3_checkFromToIndex_8c36e_21 : decode cJ3_checkFromToIndex_8c36e 21 = .ok (.athrow, 1) := by decide +kernel
theorem dJ3_checkFromToIndex_8c36e_22 : decode cJ3_checkFromToIndex_8c36e 22 = .ok (.iload_n 0, 1) := by decide +kernel
theorem dJ3_checkFromToIndex_8c36e_23 : decode cJ3_checkFromToIndex_8c36e 23 = .ok (.ireturn, 1) := by decide +kernel
def f_J3_checkFromToIndex_8c36e_14 (F P : Nat) (S : xSt) (v0 : Int32) (v1 : Int32) (v2 : Int32) (v3 : Nat) (D : xDt) : Option (Int32 × xDt) :=
  none
set_option maxHeartbeats 4000000 in
theorem t_J3_checkFromToIndex_8c36e_14 {F P : Nat} {S : xSt} (hS : xWF S) {v0 : Int32} {v1 : Int32} {v2 : Int32} {v3 : Nat} {D : xDt} {r : Int32 × xDt} (h : f_J3_checkFromToIndex_8c36e_14 F P S v0 v1 v2 v3 D = some r) : yEx md_J3_checkFromToIndex_8c36e 0 14 [(0, .int v0), (1, .int v1), (2, .int v2), (3, .retAddr 0)] [] S D (xQi S r) := by
  unfold f_J3_checkFromToIndex_8c36e_14 at h
  cases h

def f_J3_checkFromToIndex_8c36e (F P : Nat) (S : xSt) (v0 : Int32) (v1 : Int32) (v2 : Int32) (v3 : Nat) (D : xDt) : Option (Int32 × xDt) :=
  if v0 < 0 then (f_J3_checkFromToIndex_8c36e_14 F P S v0 v1 v2 v3 D) else (if v1 < v0 then (f_J3_checkFromToIndex_8c36e_14 F P S v0 v1 v2 v3 D) else (if v1 ≤ v2 then (some (v0, D)) else (f_J3_checkFromToIndex_8c36e_14 F P S v0 v1 v2 v3 D)))
set_option maxHeartbeats 4000000 in
theorem S_J3_checkFromToIndex_8c36e {F P : Nat} {S : xSt} (hS : xWF S) {v0 : Int32} {v1 : Int32} {v2 : Int32} {v3 : Nat} {D : xDt} {r : Int32 × xDt} (h : f_J3_checkFromToIndex_8c36e F P S v0 v1 v2 v3 D = some r) : xSp md_J3_checkFromToIndex_8c36e (0, 0, 0) [.int v0, .int v1, .int v2, .retAddr 0] (S, D) (xQi S r) := by
  unfold f_J3_checkFromToIndex_8c36e at h
  refine xEntry (by decide) (Nat.le_of_ble_eq_true rfl) ?_
  refine x_lv (lv' := [(0, .int v0), (1, .int v1), (2, .int v2), (3, .retAddr 0)]) [0, 1, 2, 3] rfl ?_
  refine x_iload_n dJ3_checkFromToIndex_8c36e_0 0 rfl ?_
  refine x_if_lt 14 dJ3_checkFromToIndex_8c36e_1 (by decide) (fun c => ?_) (fun c => ?_)
  · rw [if_pos c] at h
    exact t_J3_checkFromToIndex_8c36e_14 hS h
  · rw [if_neg c] at h
    refine x_iload_n dJ3_checkFromToIndex_8c36e_4 0 rfl ?_
    refine x_iload_n dJ3_checkFromToIndex_8c36e_5 1 rfl ?_
    refine x_icmp_gt 14 dJ3_checkFromToIndex_8c36e_6 (by decide) (fun c => ?_) (fun c => ?_)
    · rw [if_pos c] at h
      exact t_J3_checkFromToIndex_8c36e_14 hS h
    · rw [if_neg c] at h
      refine x_iload_n dJ3_checkFromToIndex_8c36e_9 1 rfl ?_
      refine x_iload_n dJ3_checkFromToIndex_8c36e_10 2 rfl ?_
      refine x_icmp_le 22 dJ3_checkFromToIndex_8c36e_11 (by decide) (fun c => ?_) (fun c => ?_)
      · rw [if_pos c] at h
        refine x_iload_n dJ3_checkFromToIndex_8c36e_22 0 rfl ?_
        obtain rfl := Option.some.inj h
        exact y_iret rfl dJ3_checkFromToIndex_8c36e_23
      · rw [if_neg c] at h
        exact t_J3_checkFromToIndex_8c36e_14 hS h

theorem dJ0_checkBoundsBeginEnd_23922_0 : decode cJ0_checkBoundsBeginEnd_23922 0 = .ok (.iload_n 0, 1) := by decide +kernel
theorem dJ0_checkBoundsBeginEnd_23922_1 : decode cJ0_checkBoundsBeginEnd_23922 1 = .ok (.iload_n 1, 1) := by decide +kernel
theorem dJ0_checkBoundsBeginEnd_23922_2 : decode cJ0_checkBoundsBeginEnd_23922 2 = .ok (.iload_n 2, 1) := by decide +kernel
theorem dJ0_checkBoundsBeginEnd_23922_3 : decode cJ0_checkBoundsBeginEnd_23922 3 = .ok (.getstatic 1053, 3) := by decide +kernel
theorem dJ0_checkBoundsBeginEnd_23922_6 : decode cJ0_checkBoundsBeginEnd_23922 6 = .ok (.invokestatic 1062, 3) := by decide +kernel
theorem dJ0_checkBoundsBeginEnd_23922_9 : decode cJ0_checkBoundsBeginEnd_23922 9 = .ok (.pop, 1) := by decide +kernel
theorem dJ0_checkBoundsBeginEnd_23922_10 : decode cJ0_checkBoundsBeginEnd_23922 10 = .ok (.return_, 1) := by decide +kernel
def f_J0_checkBoundsBeginEnd_23922 (F P : Nat) (S : xSt) (v0 : Int32) (v1 : Int32) (v2 : Int32) (D : xDt) : Option (xDt) :=
  (f_J3_checkFromToIndex_8c36e F P S v0 v1 v2 0 D).bind fun q1 => some q1.2
set_option maxHeartbeats 4000000 in
theorem S_J0_checkBoundsBeginEnd_23922 {F P : Nat} {S : xSt} (hS : xWF S) {v0 : Int32} {v1 : Int32} {v2 : Int32} {D : xDt} {r : xDt} (h : f_J0_checkBoundsBeginEnd_23922 F P S v0 v1 v2 D = some r) : xSp md_J0_checkBoundsBeginEnd_23922 (1, 0, 0) [.int v0, .int v1, .int v2] (S, D) (xQv S r) := by
  unfold f_J0_checkBoundsBeginEnd_23922 at h
  refine xEntry (by decide) (Nat.le_of_ble_eq_true rfl) ?_
  refine x_lv (lv' := [(0, .int v0), (1, .int v1), (2, .int v2)]) [0, 1, 2] rfl ?_
  refine x_iload_n dJ0_checkBoundsBeginEnd_23922_0 0 rfl ?_
  refine x_iload_n dJ0_checkBoundsBeginEnd_23922_1 1 rfl ?_
  refine x_iload_n dJ0_checkBoundsBeginEnd_23922_2 2 rfl ?_
  refine y_fmt wd_913 dJ0_checkBoundsBeginEnd_23922_3 ?_
  refine xbnd_e h (fun q1 e1 h => ?_)
  refine y_callSi (As := [.int v0, .int v1, .int v2, .retAddr 0]) (q := q1) cs_RJ0_1062 dJ0_checkBoundsBeginEnd_23922_6 rfl (Nat.le_of_ble_eq_true rfl) (by omega) (S_J3_checkFromToIndex_8c36e hS e1) ?_
  refine x_pop dJ0_checkBoundsBeginEnd_23922_9 rfl ?_
  obtain rfl := Option.some.inj h
  exact y_vret rfl dJ0_checkBoundsBeginEnd_23922_10

theorem dJ0_indexOf_7cf53_0 : decode cJ0_indexOf_7cf53 0 = .ok (.aload_n 0, 1) := by decide +kernel
theorem dJ0_indexOf_7cf53_1 : decode cJ0_indexOf_7cf53 1 = .ok (.invokevirtual 492, 3) := by decide +kernel
theorem dJ0_indexOf_7cf53_4 : decode cJ0_indexOf_7cf53 4 = .ok (.ifCond .eq 19, 3) := by decide +kernel
theorem dJ0_indexOf_7cf53_7 : decode cJ0_indexOf_7cf53 7 = .ok (.aload_n 0, 1) := by decide +kernel
theorem dJ0_indexOf_7cf53_8 : decode cJ0_indexOf_7cf53 8 = .ok (.getfield 9, 3) := by decide +kernel
theorem dJ0_indexOf_7cf53_11 : decode cJ0_indexOf_7cf53 11 = .ok (.iload_n 1, 1) := by decide +kernel
theorem dJ0_indexOf_7cf53_12 : decode cJ0_indexOf_7cf53 12 = .ok (.iload_n 2, 1) := by decide +kernel
theorem dJ0_indexOf_7cf53_13 : decode cJ0_indexOf_7cf53 13 = .ok (.aload_n 0, 1) := by decide +kernel
theorem dJ0_indexOf_7cf53_14 : decode cJ0_indexOf_7cf53 14 = .ok (.invokevirtual 505, 3) := by decide +kernel
theorem dJ0_indexOf_7cf53_17 : decode cJ0_indexOf_7cf53 17 = .ok (.invokestatic 637, 3) := by decide +kernel
theorem dJ0_indexOf_7cf53_20 : decode cJ0_indexOf_7cf53 20 = .ok (.goto 16, 3) := by decide +kernel
theorem dJ0_indexOf_7cf53_23 : decode cJ0_indexOf_7cf53 23 = .ok (.aload_n 0, 1) := by decide +kernel
theorem dJ0_indexOf_7cf53_24 : decode cJ0_indexOf_7cf53 24 = .ok (.getfield 9, 3) := by decide +kernel
theorem dJ0_indexOf_7cf53_27 : decode cJ0_indexOf_7cf53 27 = .ok (.iload_n 1, 1) := by decide +kernel
theorem dJ0_indexOf_7cf53_28 : decode cJ0_indexOf_7cf53 28 = .ok (.iload_n 2, 1) := by decide +kernel
theorem dJ0_indexOf_7cf53_29 : decode cJ0_indexOf_7cf53 29 = .ok (.aload_n 0, 1) := by decide +kernel
theorem dJ0_indexOf_7cf53_30 : decode cJ0_indexOf_7cf53 30 = .ok (.invokevirtual 505, 3) := by decide +kernel
theorem dJ0_indexOf_7cf53_33 : decode cJ0_indexOf_7cf53 33 = .ok (.invokestatic 640, 3) := by decide +kernel
theorem dJ0_indexOf_7cf53_36 : decode cJ0_indexOf_7cf53 36 = .ok (.ireturn, 1) := by decide +kernel
def f_J0_indexOf_7cf53 (F P : Nat) (S : xSt) (v0 : Nat) (v1 : Int32) (v2 : Int32) (D : xDt) : Option (Int32 × xDt) :=
  (f_J0_isLatin1_aae02 F P S v0 D).bind fun q1 => if q1.1 = 0 then ((f_J0_length_8abf5 F P S v0 q1.2).bind fun q2 => none) else ((f_J0_length_8abf5 F P S v0 q1.2).bind fun q3 => (f_J1_indexOf_4cfef F P S v0 v1 v2 q3.1 q3.2).bind fun q4 => some (q4.1, q4.2))
set_option maxHeartbeats 4000000 in
theorem S_J0_indexOf_7cf53 {F P : Nat} {S : xSt} (hS : xWF S) {v0 : Nat} {v1 : Int32} {v2 : Int32} {D : xDt} {r : Int32 × xDt} (k0 : v0 < 4) (h : f_J0_indexOf_7cf53 F P S v0 v1 v2 D = some r) : xSp md_J0_indexOf_7cf53 (2, 0, 0) [.float (xsS v0), .int v1, .int v2] (S, D) (xQi S r) := by
  unfold f_J0_indexOf_7cf53 at h
  refine xEntry (by decide) (Nat.le_of_ble_eq_true rfl) ?_
  refine x_lv (lv' := [(0, .float (xsS v0)), (1, .int v1), (2, .int v2)]) [0, 1, 2] rfl ?_
  refine x_sload_n dJ0_indexOf_7cf53_0 0 rfl ?_
  refine xbnd_e h (fun q1 e1 h => ?_)
  refine y_callT (i := v0) (As := []) (q := q1) k0 ct_RJ0_492 dJ0_indexOf_7cf53_1 rfl (Nat.le_of_ble_eq_true rfl) (by omega) (S_J0_isLatin1_aae02 hS k0 e1) ?_
  refine x_if_eq 23 dJ0_indexOf_7cf53_4 (by decide) (fun c => ?_) (fun c => ?_)
  · rw [if_pos c] at h
    refine x_sload_n dJ0_indexOf_7cf53_23 0 rfl ?_
    refine y_strval k0 wd_1554 dJ0_indexOf_7cf53_24 ?_
    refine x_iload_n dJ0_indexOf_7cf53_27 1 rfl ?_
    refine x_iload_n dJ0_indexOf_7cf53_28 2 rfl ?_
    refine x_sload_n dJ0_indexOf_7cf53_29 0 rfl ?_
    refine xbnd_e h (fun q2 e2 h => ?_)
    refine y_callT (i := v0) (As := []) (q := q2) k0 ct_RJ0_505 dJ0_indexOf_7cf53_30 rfl (Nat.le_of_ble_eq_true rfl) (by omega) (S_J0_length_8abf5 hS k0 e2) ?_
    cases h
  · rw [if_neg c] at h
    refine x_sload_n dJ0_indexOf_7cf53_7 0 rfl ?_
    refine y_strval k0 wd_1554 dJ0_indexOf_7cf53_8 ?_
    refine x_iload_n dJ0_indexOf_7cf53_11 1 rfl ?_
    refine x_iload_n dJ0_indexOf_7cf53_12 2 rfl ?_
    refine x_sload_n dJ0_indexOf_7cf53_13 0 rfl ?_
    refine xbnd_e h (fun q3 e3 h => ?_)
    refine y_callT (i := v0) (As := []) (q := q3) k0 ct_RJ0_505 dJ0_indexOf_7cf53_14 rfl (Nat.le_of_ble_eq_true rfl) (by omega) (S_J0_length_8abf5 hS k0 e3) ?_
    refine xbnd_e h (fun q4 e4 h => ?_)
    refine y_callSi (As := [.float (xsB v0), .int v1, .int v2, .int q3.1]) (q := q4) cs_RJ0_637 dJ0_indexOf_7cf53_17 rfl (Nat.le_of_ble_eq_true rfl) (by omega) (S_J1_indexOf_4cfef hS k0 e4) ?_
    refine x_goto 36 dJ0_indexOf_7cf53_20 (by decide) ?_
    obtain rfl := Option.some.inj h
    exact y_iret rfl dJ0_indexOf_7cf53_36

theorem dJ0_indexOf_0f7a4_0 : decode cJ0_indexOf_0f7a4 0 = .ok (.aload_n 0, 1) := by decide +kernel
theorem dJ0_indexOf_0f7a4_1 : decode cJ0_indexOf_0f7a4 1 = .ok (.iload_n 1, 1) := by decide +kernel
theorem dJ0_indexOf_0f7a4_2 : decode cJ0_indexOf_0f7a4 2 = .ok (.iconst 0, 1) := by decide +kernel
theorem dJ0_indexOf_0f7a4_3 : decode cJ0_indexOf_0f7a4 3 = .ok (.invokevirtual 633, 3) := by decide +kernel
theorem dJ0_indexOf_0f7a4_6 : decode cJ0_indexOf_0f7a4 6 = .ok (.ireturn, 1) := by decide +kernel
def f_J0_indexOf_0f7a4 (F P : Nat) (S : xSt) (v0 : Nat) (v1 : Int32) (D : xDt) : Option (Int32 × xDt) :=
  (f_J0_indexOf_7cf53 F P S v0 v1 0 D).bind fun q1 => some (q1.1, q1.2)
set_option maxHeartbeats 4000000 in
theorem S_J0_indexOf_0f7a4 {F P : Nat} {S : xSt} (hS : xWF S) {v0 : Nat} {v1 : Int32} {D : xDt} {r : Int32 × xDt} (k0 : v0 < 4) (h : f_J0_indexOf_0f7a4 F P S v0 v1 D = some r) : xSp md_J0_indexOf_0f7a4 (3, 0, 0) [.float (xsS v0), .int v1] (S, D) (xQi S r) := by
  unfold f_J0_indexOf_0f7a4 at h
  refine xEntry (by decide) (Nat.le_of_ble_eq_true rfl) ?_
  refine x_lv (lv' := [(0, .float (xsS v0)), (1, .int v1)]) [0, 1] rfl ?_
  refine x_sload_n dJ0_indexOf_0f7a4_0 0 rfl ?_
  refine x_iload_n dJ0_indexOf_0f7a4_1 1 rfl ?_
  refine x_iconst 0 dJ0_indexOf_0f7a4_2 (by decide) ?_
  refine xbnd_e h (fun q1 e1 h => ?_)
  refine y_callT (i := v0) (As := [.int v1, .int 0]) (q := q1) k0 ct_RJ0_633 dJ0_indexOf_0f7a4_3 rfl (Nat.le_of_ble_eq_true rfl) (by omega) (S_J0_indexOf_7cf53 hS k0 e1) ?_
  obtain rfl := Option.some.inj h
  exact y_iret rfl dJ0_indexOf_0f7a4_6

theorem dX2_hasAny_0 : decode cX2_hasAny 0 = .ok (.iconst 0, 1) := by decide +kernel
theorem dX2_hasAny_1 : decode cX2_hasAny 1 = .ok (.istore_n 2, 1) := by decide +kernel
theorem dX2_hasAny_2 : decode cX2_hasAny 2 = .ok (.iload_n 2, 1) := by decide +kernel
theorem dX2_hasAny_3 : decode cX2_hasAny 3 = .ok (.aload_n 0, 1) := by decide +kernel
theorem dX2_hasAny_4 : decode cX2_hasAny 4 = .ok (.getfield 19, 3) := by decide +kernel
theorem dX2_hasAny_7 : decode cX2_hasAny 7 = .ok (.if_icmp .ge 28, 3) := by decide +kernel
theorem dX2_hasAny_10 : decode cX2_hasAny 10 = .ok (.aload_n 1, 1) := by decide +kernel
theorem dX2_hasAny_11 : decode cX2_hasAny 11 = .ok (.aload_n 0, 1) := by decide +kernel
theorem dX2_hasAny_12 : decode cX2_hasAny 12 = .ok (.getfield 13, 3) := by decide +kernel
theorem dX2_hasAny_15 : decode cX2_hasAny 15 = .ok (.iload_n 2, 1) := by decide +kernel
theorem dX2_hasAny_16 : decode cX2_hasAny 16 = .ok (.iaload, 1) := by decide +kernel
theorem dX2_hasAny_17 : decode cX2_hasAny 17 = .ok (.invokestatic 33, 3) := by decide +kernel
theorem dX2_hasAny_20 : decode cX2_hasAny 20 = .ok (.i2c, 1) := by decide +kernel
theorem dX2_hasAny_21 : decode cX2_hasAny 21 = .ok (.invokevirtual 39, 3) := by decide +kernel
theorem dX2_hasAny_24 : decode cX2_hasAny 24 = .ok (.ifCond .lt 5, 3) := by decide +kernel
theorem dX2_hasAny_27 : decode cX2_hasAny 27 = .ok (.iconst 1, 1) := by decide +kernel
theorem dX2_hasAny_28 : decode cX2_hasAny 28 = .ok (.ireturn, 1) := by decide +kernel
theorem dX2_hasAny_29 : decode cX2_hasAny 29 = .ok (.iinc 2 1, 3) := by decide +kernel
theorem dX2_hasAny_32 : decode cX2_hasAny 32 = .ok (.goto (-30), 3) := by decide +kernel
theorem dX2_hasAny_35 : decode cX2_hasAny 35 = .ok (.iconst 0, 1) := by decide +kernel
theorem dX2_hasAny_36 : decode cX2_hasAny 36 = .ok (.ireturn, 1) := by decide +kernel
def f_X2_hasAny_2s (F P : Nat) (S : xSt) (rec_2 : Nat → Nat → Int32 → xDt → Option (Int32 × xDt)) (v0 : Nat) (v1 : Nat) (v2 : Int32) (D : xDt) : Option (Int32 × xDt) :=
  if (D.1 v0 1) ≤ v2 then (some (0, D)) else (xgrd (xin v2 (xl S (xr S v0 0))) ((f_X11_signOf F P S (D.1 (xr S v0 0) (v2).toNatClampNeg) D).bind fun q2 => (f_J0_indexOf_0f7a4 F P S v1 (ji2c q2.1) q2.2).bind fun q3 => if q3.1 < 0 then (xlet (v2 + 1) fun v2_4 => rec_2 v0 v1 v2_4 q3.2) else (some (1, q3.2))))
def f_X2_hasAny_2 (F P : Nat) (S : xSt) : Nat → Nat → Nat → Int32 → xDt → Option (Int32 × xDt)
  | 0 => fun _ _ _ _ => none
  | n + 1 => f_X2_hasAny_2s F P S (f_X2_hasAny_2 F P S n)
set_option maxHeartbeats 4000000 in
theorem t_X2_hasAny_2s {F P : Nat} {S : xSt} (hS : xWF S) {rec_2 : Nat → Nat → Int32 → xDt → Option (Int32 × xDt)} (hrec_2 : ∀ {v0 : Nat} {v1 : Nat} {v2 : Int32} {D : xDt} {r : Int32 × xDt}, xK S v0 2 → v1 < 4 → rec_2 v0 v1 v2 D = some r → yEx md_X2_hasAny 4 2 [(0, .ref v0), (1, .float (xsS v1)), (2, .int v2)] [] S D (xQi S r)) {v0 : Nat} {v1 : Nat} {v2 : Int32} {D : xDt} {r : Int32 × xDt} (k0 : xK S v0 2) (k1 : v1 < 4) (h : f_X2_hasAny_2s F P S rec_2 v0 v1 v2 D = some r) : yEx md_X2_hasAny 4 2 [(0, .ref v0), (1, .float (xsS v1)), (2, .int v2)] [] S D (xQi S r) := by
  unfold f_X2_hasAny_2s at h
  refine x_iload_n dX2_hasAny_2 2 rfl ?_
  refine x_aload_n dX2_hasAny_3 0 rfl ?_
  refine y_geti fl_RX2_19 dX2_hasAny_4 rfl k0 ?_
  refine x_icmp_ge 35 dX2_hasAny_7 (by decide) (fun c => ?_) (fun c => ?_)
  · rw [if_pos c] at h
    refine x_iconst 0 dX2_hasAny_35 (by decide) ?_
    obtain rfl := Option.some.inj h
    exact y_zret rfl rfl dX2_hasAny_36
  · rw [if_neg c] at h
    refine x_sload_n dX2_hasAny_10 1 rfl ?_
    refine x_aload_n dX2_hasAny_11 0 rfl ?_
    refine y_getr (kd := 100) hS fl_RX2_13 dX2_hasAny_12 rfl k0 ?_
    refine x_iload_n dX2_hasAny_15 2 rfl ?_
    refine xgrd_e h (fun g1 h => ?_)
    refine y_iald dX2_hasAny_16 ((hS.f k0 0 100 rfl).2) g1 ?_
    refine xbnd_e h (fun q2 e2 h => ?_)
    refine y_callNi (As := [.int (D.1 (xr S v0 0) (v2).toNatClampNeg)]) (q := q2) cn_RX2_33 dX2_hasAny_17 rfl (Nat.le_of_ble_eq_true rfl) (by omega) (S_X11_signOf hS e2) ?_
    refine x_i2c dX2_hasAny_20 ?_
    refine xbnd_e h (fun q3 e3 h => ?_)
    refine y_callT (i := v1) (As := [.int (ji2c q2.1)]) (q := q3) k1 ct_RX2_39 dX2_hasAny_21 rfl (Nat.le_of_ble_eq_true rfl) (by omega) (S_J0_indexOf_0f7a4 hS k1 e3) ?_
    refine x_if_lt 29 dX2_hasAny_24 (by decide) (fun c => ?_) (fun c => ?_)
    · rw [if_pos c] at h
      refine xlet_e h (fun v2_4 ev2_4 h => ?_)
      refine y_iinc v2_4 ev2_4 (by decide) [(2, .int v2_4), (0, .ref v0), (1, .float (xsS v1))] dX2_hasAny_29 2 rfl (by show _ < 3; decide) rfl ?_
      refine x_goto 2 dX2_hasAny_32 (by decide) ?_
      refine x_lv (lv' := [(0, .ref v0), (1, .float (xsS v1)), (2, .int v2_4)]) [1, 2, 0] rfl ?_
      exact hrec_2 k0 k1 h
    · rw [if_neg c] at h
      refine x_iconst 1 dX2_hasAny_27 (by decide) ?_
      obtain rfl := Option.some.inj h
      exact y_zret rfl rfl dX2_hasAny_28
theorem t_X2_hasAny_2 {F P : Nat} {S : xSt} (hS : xWF S) : ∀ (n : Nat) {v0 : Nat} {v1 : Nat} {v2 : Int32} {D : xDt} {r : Int32 × xDt}, xK S v0 2 → v1 < 4 → f_X2_hasAny_2 F P S n v0 v1 v2 D = some r → yEx md_X2_hasAny 4 2 [(0, .ref v0), (1, .float (xsS v1)), (2, .int v2)] [] S D (xQi S r) := by
  intro n
  induction n with
  | zero => intros; rename_i h; cases h
  | succ n ih =>
    intro v0 v1 v2 D r k0 k1 h
    exact t_X2_hasAny_2s hS (fun k0 k1 h => ih k0 k1 h) k0 k1 h

def f_X2_hasAny (F P : Nat) (S : xSt) (v0 : Nat) (v1 : Nat) (D : xDt) : Option (Int32 × xDt) :=
  f_X2_hasAny_2 F P S F v0 v1 0 D
set_option maxHeartbeats 4000000 in
theorem S_X2_hasAny {F P : Nat} {S : xSt} (hS : xWF S) {v0 : Nat} {v1 : Nat} {D : xDt} {r : Int32 × xDt} (k0 : xK S v0 2) (k1 : v1 < 4) (h : f_X2_hasAny F P S v0 v1 D = some r) : xSp md_X2_hasAny (4, 0, 0) [.ref v0, .float (xsS v1)] (S, D) (xQi S r) := by
  unfold f_X2_hasAny at h
  refine xEntry (by decide) (Nat.le_of_ble_eq_true rfl) ?_
  refine x_lv (lv' := [(0, .ref v0), (1, .float (xsS v1))]) [0, 1] rfl ?_
  refine x_iconst 0 dX2_hasAny_0 (by decide) ?_
  refine y_istore_n 0 rfl [(2, .int 0), (0, .ref v0), (1, .float (xsS v1))] dX2_hasAny_1 (by show _ < 3; decide) rfl ?_
  refine x_lv (lv' := [(0, .ref v0), (1, .float (xsS v1)), (2, .int 0)]) [1, 2, 0] rfl ?_
  exact t_X2_hasAny_2 hS F k0 k1 h

theorem dJ7_fill_53178_0 : decode cJ7_fill_53178 0 = .ok (.iconst 0, 1) := by decide +kernel
theorem dJ7_fill_53178_1 : decode cJ7_fill_53178 1 = .ok (.istore_n 2, 1) := by decide +kernel
theorem dJ7_fill_53178_2 : decode cJ7_fill_53178 2 = .ok (.aload_n 0, 1) := by decide +kernel
theorem dJ7_fill_53178_3 : decode cJ7_fill_53178 3 = .ok (.arraylength, 1) := by decide +kernel
theorem dJ7_fill_53178_4 : decode cJ7_fill_53178 4 = .ok (.istore_n 3, 1) := by decide +kernel
theorem dJ7_fill_53178_5 : decode cJ7_fill_53178 5 = .ok (.iload_n 2, 1) := by decide +kernel
theorem dJ7_fill_53178_6 : decode cJ7_fill_53178 6 = .ok (.iload_n 3, 1) := by decide +kernel
theorem dJ7_fill_53178_7 : decode cJ7_fill_53178 7 = .ok (.if_icmp .ge 13, 3) := by decide +kernel
theorem dJ7_fill_53178_10 : decode cJ7_fill_53178 10 = .ok (.aload_n 0, 1) := by decide +kernel
theorem dJ7_fill_53178_11 : decode cJ7_fill_53178 11 = .ok (.iload_n 2, 1) := by decide +kernel
theorem dJ7_fill_53178_12 : decode cJ7_fill_53178 12 = .ok (.iload_n 1, 1) := by decide +kernel
theorem dJ7_fill_53178_13 : decode cJ7_fill_53178 13 = .ok (.iastore, 1) := by decide +kernel
theorem dJ7_fill_53178_14 : decode cJ7_fill_53178 14 = .ok (.iinc 2 1, 3) := by decide +kernel
theorem dJ7_fill_53178_17 : decode cJ7_fill_53178 17 = .ok (.goto (-12), 3) := by decide +kernel
theorem dJ7_fill_53178_20 : decode cJ7_fill_53178 20 = .ok (.return_, 1) := by decide +kernel
def f_J7_fill_53178_5s (F P : Nat) (S : xSt) (rec_5 : Nat → Int32 → Int32 → Int32 → xDt → Option (xDt)) (v0 : Nat) (v1 : Int32) (v2 : Int32) (v3 : Int32) (D : xDt) : Option (xDt) :=
  if v3 ≤ v2 then (some D) else (xgrd (xin v2 (xl S v0)) (xlet (xup D.1 v0 (v2).toNatClampNeg v1, D.2) fun D2 => xlet (v2 + 1) fun v2_3 => rec_5 v0 v1 v2_3 v3 D2))
def f_J7_fill_53178_5 (F P : Nat) (S : xSt) : Nat → Nat → Int32 → Int32 → Int32 → xDt → Option (xDt)
  | 0 => fun _ _ _ _ _ => none
  | n + 1 => f_J7_fill_53178_5s F P S (f_J7_fill_53178_5 F P S n)
set_option maxHeartbeats 4000000 in
theorem t_J7_fill_53178_5s {F P : Nat} {S : xSt} (hS : xWF S) {rec_5 : Nat → Int32 → Int32 → Int32 → xDt → Option (xDt)} (hrec_5 : ∀ {v0 : Nat} {v1 : Int32} {v2 : Int32} {v3 : Int32} {D : xDt} {r : xDt}, xK S v0 100 → rec_5 v0 v1 v2 v3 D = some r → yEx md_J7_fill_53178 0 5 [(0, .ref v0), (1, .int v1), (2, .int v2), (3, .int v3)] [] S D (xQv S r)) {v0 : Nat} {v1 : Int32} {v2 : Int32} {v3 : Int32} {D : xDt} {r : xDt} (k0 : xK S v0 100) (h : f_J7_fill_53178_5s F P S rec_5 v0 v1 v2 v3 D = some r) : yEx md_J7_fill_53178 0 5 [(0, .ref v0), (1, .int v1), (2, .int v2), (3, .int v3)] [] S D (xQv S r) := by
  unfold f_J7_fill_53178_5s at h
  refine x_iload_n dJ7_fill_53178_5 2 rfl ?_
  refine x_iload_n dJ7_fill_53178_6 3 rfl ?_
  refine x_icmp_ge 20 dJ7_fill_53178_7 (by decide) (fun c => ?_) (fun c => ?_)
  · rw [if_pos c] at h
    obtain rfl := Option.some.inj h
    exact y_vret rfl dJ7_fill_53178_20
  · rw [if_neg c] at h
    refine x_aload_n dJ7_fill_53178_10 0 rfl ?_
    refine x_iload_n dJ7_fill_53178_11 2 rfl ?_
    refine x_iload_n dJ7_fill_53178_12 1 rfl ?_
    refine xgrd_e h (fun g1 h => ?_)
    refine xlet_e h (fun D2 eD2 h => ?_)
    refine y_iast dJ7_fill_53178_13 k0 g1 eD2 ?_
    refine xlet_e h (fun v2_3 ev2_3 h => ?_)
    refine y_iinc v2_3 ev2_3 (by decide) [(2, .int v2_3), (0, .ref v0), (1, .int v1), (3, .int v3)] dJ7_fill_53178_14 2 rfl (by show _ < 4; decide) rfl ?_
    refine x_goto 5 dJ7_fill_53178_17 (by decide) ?_
    refine x_lv (lv' := [(0, .ref v0), (1, .int v1), (2, .int v2_3), (3, .int v3)]) [1, 2, 0, 3] rfl ?_
    exact hrec_5 k0 h
theorem t_J7_fill_53178_5 {F P : Nat} {S : xSt} (hS : xWF S) : ∀ (n : Nat) {v0 : Nat} {v1 : Int32} {v2 : Int32} {v3 : Int32} {D : xDt} {r : xDt}, xK S v0 100 → f_J7_fill_53178_5 F P S n v0 v1 v2 v3 D = some r → yEx md_J7_fill_53178 0 5 [(0, .ref v0), (1, .int v1), (2, .int v2), (3, .int v3)] [] S D (xQv S r) := by
  intro n
  induction n with
  | zero => intros; rename_i h; cases h
  | succ n ih =>
    intro v0 v1 v2 v3 D r k0 h
    exact t_J7_fill_53178_5s hS (fun k0 h => ih k0 h) k0 h

def f_J7_fill_53178 (F P : Nat) (S : xSt) (v0 : Nat) (v1 : Int32) (D : xDt) : Option (xDt) :=
  xlet (Int32.ofNat (xl S v0)) fun v3_1 => f_J7_fill_53178_5 F P S F v0 v1 0 v3_1 D
set_option maxHeartbeats 4000000 in
theorem S_J7_fill_53178 {F P : Nat} {S : xSt} (hS : xWF S) {v0 : Nat} {v1 : Int32} {D : xDt} {r : xDt} (k0 : xK S v0 100) (h : f_J7_fill_53178 F P S v0 v1 D = some r) : xSp md_J7_fill_53178 (0, 0, 0) [.ref v0, .int v1] (S, D) (xQv S r) := by
  unfold f_J7_fill_53178 at h
  refine xEntry (by decide) (Nat.le_of_ble_eq_true rfl) ?_
  refine x_lv (lv' := [(0, .ref v0), (1, .int v1)]) [0, 1] rfl ?_
  refine x_iconst 0 dJ7_fill_53178_0 (by decide) ?_
  refine y_istore_n 0 rfl [(2, .int 0), (0, .ref v0), (1, .int v1)] dJ7_fill_53178_1 (by show _ < 4; decide) rfl ?_
  refine x_aload_n dJ7_fill_53178_2 1 rfl ?_
  refine y_alen dJ7_fill_53178_3 k0 (by decide) ?_
  refine xlet_e h (fun v3_1 ev3_1 h => ?_)
  refine y_istore_n v3_1 ev3_1 [(3, .int v3_1), (2, .int 0), (0, .ref v0), (1, .int v1)] dJ7_fill_53178_4 (by show _ < 4; decide) rfl ?_
  refine x_lv (lv' := [(0, .ref v0), (1, .int v1), (2, .int 0), (3, .int v3_1)]) [2, 3, 1, 0] rfl ?_
  exact t_J7_fill_53178_5 hS F k0 h

theorem dX11_isLeaf_0 : decode cX11_isLeaf 0 = .ok (.iload_n 0, 1) := by decide +kernel
theorem dX11_isLeaf_1 : decode cX11_isLeaf 1 = .ok (.bipush 97, 2) := by decide +kernel
theorem dX11_isLeaf_3 : decode cX11_isLeaf 3 = .ok (.if_icmp .lt 9, 3) := by decide +kernel
theorem dX11_isLeaf_6 : decode cX11_isLeaf 6 = .ok (.iload_n 0, 1) := by decide +kernel
theorem dX11_isLeaf_7 : decode cX11_isLeaf 7 = .ok (.bipush 104, 2) := by decide +kernel
theorem dX11_isLeaf_9 : decode cX11_isLeaf 9 = .ok (.if_icmp .le 15, 3) := by decide +kernel
theorem dX11_isLeaf_12 : decode cX11_isLeaf 12 = .ok (.iload_n 0, 1) := by decide +kernel
theorem dX11_isLeaf_13 : decode cX11_isLeaf 13 = .ok (.bipush 48, 2) := by decide +kernel
theorem dX11_isLeaf_15 : decode cX11_isLeaf 15 = .ok (.if_icmp .eq 9, 3) := by decide +kernel
theorem dX11_isLeaf_18 : decode cX11_isLeaf 18 = .ok (.iload_n 0, 1) := by decide +kernel
theorem dX11_isLeaf_19 : decode cX11_isLeaf 19 = .ok (.bipush 49, 2) := by decide +kernel
theorem dX11_isLeaf_21 : decode cX11_isLeaf 21 = .ok (.if_icmp .ne 7, 3) := by decide +kernel
theorem dX11_isLeaf_24 : decode cX11_isLeaf 24 = .ok (.iconst 1, 1) := by decide +kernel
theorem dX11_isLeaf_25 : decode cX11_isLeaf 25 = .ok (.goto 4, 3) := by decide +kernel
theorem dX11_isLeaf_28 : decode cX11_isLeaf 28 = .ok (.iconst 0, 1) := by decide +kernel
theorem dX11_isLeaf_29 : decode cX11_isLeaf 29 = .ok (.ireturn, 1) := by decide +kernel
def f_X11_isLeaf_24 (F P : Nat) (S : xSt) (D : xDt) : Option (Int32 × xDt) :=
  some (1, D)
set_option maxHeartbeats 4000000 in
theorem t_X11_isLeaf_24 {F P : Nat} {S : xSt} (hS : xWF S) {D : xDt} {r : Int32 × xDt} (h : f_X11_isLeaf_24 F P S D = some r) : yEx md_X11_isLeaf 0 24 [] [] S D (xQi S r) := by
  unfold f_X11_isLeaf_24 at h
  refine x_iconst 1 dX11_isLeaf_24 (by decide) ?_
  refine x_goto 29 dX11_isLeaf_25 (by decide) ?_
  obtain rfl := Option.some.inj h
  exact y_zret rfl rfl dX11_isLeaf_29

def f_X11_isLeaf_12 (F P : Nat) (S : xSt) (v0 : Int32) (D : xDt) : Option (Int32 × xDt) :=
  if v0 = 48 then (f_X11_isLeaf_24 F P S D) else (if v0 = 49 then (f_X11_isLeaf_24 F P S D) else (some (0, D)))
set_option maxHeartbeats 4000000 in
theorem t_X11_isLeaf_12 {F P : Nat} {S : xSt} (hS : xWF S) {v0 : Int32} {D : xDt} {r : Int32 × xDt} (h : f_X11_isLeaf_12 F P S v0 D = some r) : yEx md_X11_isLeaf 0 12 [(0, .int v0)] [] S D (xQi S r) := by
  unfold f_X11_isLeaf_12 at h
  refine x_iload_n dX11_isLeaf_12 0 rfl ?_
  refine x_bipush 48 dX11_isLeaf_13 (by decide) ?_
  refine x_icmp_eq 24 dX11_isLeaf_15 (by decide) (fun c => ?_) (fun c => ?_)
  · rw [if_pos c] at h
    refine x_lv (lv' := []) [] rfl ?_
    exact t_X11_isLeaf_24 hS h
  · rw [if_neg c] at h
    refine x_iload_n dX11_isLeaf_18 0 rfl ?_
    refine x_bipush 49 dX11_isLeaf_19 (by decide) ?_
    refine x_icmp_ne 28 dX11_isLeaf_21 (by decide) (fun c => ?_) (fun c => ?_)
    · rw [if_neg c] at h
      refine x_iconst 0 dX11_isLeaf_28 (by decide) ?_
      obtain rfl := Option.some.inj h
      exact y_zret rfl rfl dX11_isLeaf_29
    · rw [if_pos c] at h
      refine x_lv (lv' := []) [] rfl ?_
      exact t_X11_isLeaf_24 hS h

def f_X11_isLeaf (F P : Nat) (S : xSt) (v0 : Int32) (D : xDt) : Option (Int32 × xDt) :=
  if v0 < 97 then (f_X11_isLeaf_12 F P S v0 D) else (if v0 ≤ 104 then (f_X11_isLeaf_24 F P S D) else (f_X11_isLeaf_12 F P S v0 D))
set_option maxHeartbeats 4000000 in
theorem S_X11_isLeaf {F P : Nat} {S : xSt} (hS : xWF S) {v0 : Int32} {D : xDt} {r : Int32 × xDt} (h : f_X11_isLeaf F P S v0 D = some r) : xSp md_X11_isLeaf (0, 0, 0) [.int v0] (S, D) (xQi S r) := by
  unfold f_X11_isLeaf at h
  refine xEntry (by decide) (Nat.le_of_ble_eq_true rfl) ?_
  refine x_lv (lv' := [(0, .int v0)]) [0] rfl ?_
  refine x_iload_n dX11_isLeaf_0 0 rfl ?_
  refine x_bipush 97 dX11_isLeaf_1 (by decide) ?_
  refine x_icmp_lt 12 dX11_isLeaf_3 (by decide) (fun c => ?_) (fun c => ?_)
  · rw [if_pos c] at h
    exact t_X11_isLeaf_12 hS h
  · rw [if_neg c] at h
    refine x_iload_n dX11_isLeaf_6 0 rfl ?_
    refine x_bipush 104 dX11_isLeaf_7 (by decide) ?_
    refine x_icmp_le 24 dX11_isLeaf_9 (by decide) (fun c => ?_) (fun c => ?_)
    · rw [if_pos c] at h
      refine x_lv (lv' := []) [] rfl ?_
      exact t_X11_isLeaf_24 hS h
    · rw [if_neg c] at h
      exact t_X11_isLeaf_12 hS h

theorem dX8_isBase_0 : decode cX8_isBase 0 = .ok (.iload_n 0, 1) := by decide +kernel
theorem dX8_isBase_1 : decode cX8_isBase 1 = .ok (.bipush 75, 2) := by decide +kernel
theorem dX8_isBase_3 : decode cX8_isBase 3 = .ok (.if_icmp .eq 21, 3) := by decide +kernel
theorem dX8_isBase_6 : decode cX8_isBase 6 = .ok (.iload_n 0, 1) := by decide +kernel
theorem dX8_isBase_7 : decode cX8_isBase 7 = .ok (.bipush 67, 2) := by decide +kernel
theorem dX8_isBase_9 : decode cX8_isBase 9 = .ok (.if_icmp .eq 15, 3) := by decide +kernel
theorem dX8_isBase_12 : decode cX8_isBase 12 = .ok (.iload_n 0, 1) := by decide +kernel
theorem dX8_isBase_13 : decode cX8_isBase 13 = .ok (.bipush 97, 2) := by decide +kernel
theorem dX8_isBase_15 : decode cX8_isBase 15 = .ok (.if_icmp .lt 13, 3) := by decide +kernel
theorem dX8_isBase_18 : decode cX8_isBase 18 = .ok (.iload_n 0, 1) := by decide +kernel
theorem dX8_isBase_19 : decode cX8_isBase 19 = .ok (.bipush 104, 2) := by decide +kernel
theorem dX8_isBase_21 : decode cX8_isBase 21 = .ok (.if_icmp .gt 7, 3) := by decide +kernel
theorem dX8_isBase_24 : decode cX8_isBase 24 = .ok (.iconst 1, 1) := by decide +kernel
theorem dX8_isBase_25 : decode cX8_isBase 25 = .ok (.goto 4, 3) := by decide +kernel
theorem dX8_isBase_28 : decode cX8_isBase 28 = .ok (.iconst 0, 1) := by decide +kernel
theorem dX8_isBase_29 : decode cX8_isBase 29 = .ok (.ireturn, 1) := by decide +kernel
def f_X8_isBase_24 (F P : Nat) (S : xSt) (D : xDt) : Option (Int32 × xDt) :=
  some (1, D)
set_option maxHeartbeats 4000000 in
theorem t_X8_isBase_24 {F P : Nat} {S : xSt} (hS : xWF S) {D : xDt} {r : Int32 × xDt} (h : f_X8_isBase_24 F P S D = some r) : yEx md_X8_isBase 0 24 [] [] S D (xQi S r) := by
  unfold f_X8_isBase_24 at h
  refine x_iconst 1 dX8_isBase_24 (by decide) ?_
  refine x_goto 29 dX8_isBase_25 (by decide) ?_
  obtain rfl := Option.some.inj h
  exact y_zret rfl rfl dX8_isBase_29

def f_X8_isBase_28 (F P : Nat) (S : xSt) (D : xDt) : Option (Int32 × xDt) :=
  some (0, D)
set_option maxHeartbeats 4000000 in
theorem t_X8_isBase_28 {F P : Nat} {S : xSt} (hS : xWF S) {D : xDt} {r : Int32 × xDt} (h : f_X8_isBase_28 F P S D = some r) : yEx md_X8_isBase 0 28 [] [] S D (xQi S r) := by
  unfold f_X8_isBase_28 at h
  refine x_iconst 0 dX8_isBase_28 (by decide) ?_
  obtain rfl := Option.some.inj h
  exact y_zret rfl rfl dX8_isBase_29

def f_X8_isBase (F P : Nat) (S : xSt) (v0 : Int32) (D : xDt) : Option (Int32 × xDt) :=
  if v0 = 75 then (f_X8_isBase_24 F P S D) else (if v0 = 67 then (f_X8_isBase_24 F P S D) else (if v0 < 97 then (f_X8_isBase_28 F P S D) else (if 104 < v0 then (f_X8_isBase_28 F P S D) else (f_X8_isBase_24 F P S D))))
set_option maxHeartbeats 4000000 in
theorem S_X8_isBase {F P : Nat} {S : xSt} (hS : xWF S) {v0 : Int32} {D : xDt} {r : Int32 × xDt} (h : f_X8_isBase F P S v0 D = some r) : xSp md_X8_isBase (0, 0, 0) [.int v0] (S, D) (xQi S r) := by
  unfold f_X8_isBase at h
  refine xEntry (by decide) (Nat.le_of_ble_eq_true rfl) ?_
  refine x_lv (lv' := [(0, .int v0)]) [0] rfl ?_
  refine x_iload_n dX8_isBase_0 0 rfl ?_
  refine x_bipush 75 dX8_isBase_1 (by decide) ?_
  refine x_icmp_eq 24 dX8_isBase_3 (by decide) (fun c => ?_) (fun c => ?_)
  · rw [if_pos c] at h
    refine x_lv (lv' := []) [] rfl ?_
    exact t_X8_isBase_24 hS h
  · rw [if_neg c] at h
    refine x_iload_n dX8_isBase_6 0 rfl ?_
    refine x_bipush 67 dX8_isBase_7 (by decide) ?_
    refine x_icmp_eq 24 dX8_isBase_9 (by decide) (fun c => ?_) (fun c => ?_)
    · rw [if_pos c] at h
      refine x_lv (lv' := []) [] rfl ?_
      exact t_X8_isBase_24 hS h
    · rw [if_neg c] at h
      refine x_iload_n dX8_isBase_12 0 rfl ?_
      refine x_bipush 97 dX8_isBase_13 (by decide) ?_
      refine x_icmp_lt 28 dX8_isBase_15 (by decide) (fun c => ?_) (fun c => ?_)
      · rw [if_pos c] at h
        refine x_lv (lv' := []) [] rfl ?_
        exact t_X8_isBase_28 hS h
      · rw [if_neg c] at h
        refine x_iload_n dX8_isBase_18 0 rfl ?_
        refine x_bipush 104 dX8_isBase_19 (by decide) ?_
        refine x_icmp_gt 28 dX8_isBase_21 (by decide) (fun c => ?_) (fun c => ?_)
        · rw [if_pos c] at h
          refine x_lv (lv' := []) [] rfl ?_
          exact t_X8_isBase_28 hS h
        · rw [if_neg c] at h
          refine x_lv (lv' := []) [] rfl ?_
          exact t_X8_isBase_24 hS h

theorem dX8_make_0 : decode cX8_make 0 = .ok (.iload_n 1, 1) := by decide +kernel
theorem dX8_make_1 : decode cX8_make 1 = .ok (.bipush 31, 2) := by decide +kernel
theorem dX8_make_3 : decode cX8_make 3 = .ok (.imul, 1) := by decide +kernel
theorem dX8_make_4 : decode cX8_make 4 = .ok (.iload_n 2, 1) := by decide +kernel
theorem dX8_make_5 : decode cX8_make 5 = .ok (.iadd, 1) := by decide +kernel
theorem dX8_make_6 : decode cX8_make 6 = .ok (.sipush 1009, 3) := by decide +kernel
theorem dX8_make_9 : decode cX8_make 9 = .ok (.imul, 1) := by decide +kernel
theorem dX8_make_10 : decode cX8_make 10 = .ok (.iload_n 3, 1) := by decide +kernel
theorem dX8_make_11 : decode cX8_make 11 = .ok (.bipush 17, 2) := by decide +kernel
theorem dX8_make_13 : decode cX8_make 13 = .ok (.imul, 1) := by decide +kernel
theorem dX8_make_14 : decode cX8_make 14 = .ok (.iadd, 1) := by decide +kernel
theorem dX8_make_15 : decode cX8_make 15 = .ok (.sipush 4095, 3) := by decide +kernel
theorem dX8_make_18 : decode cX8_make 18 = .ok (.iand, 1) := by decide +kernel
theorem dX8_make_19 : decode cX8_make 19 = .ok (.istore 4, 2) := by decide +kernel
theorem dX8_make_21 : decode cX8_make 21 = .ok (.iconst 0, 1) := by decide +kernel
theorem dX8_make_22 : decode cX8_make 22 = .ok (.istore 5, 2) := by decide +kernel
theorem dX8_make_24 : decode cX8_make 24 = .ok (.iload 5, 2) := by decide +kernel
theorem dX8_make_26 : decode cX8_make 26 = .ok (.sipush 4096, 3) := by decide +kernel
theorem dX8_make_29 : decode cX8_make 29 = .ok (.if_icmp .ge 76, 3) := by decide +kernel
theorem dX8_make_32 : decode cX8_make 32 = .ok (.aload_n 0, 1) := by decide +kernel
theorem dX8_make_33 : decode cX8_make 33 = .ok (.getfield 27, 3) := by decide +kernel
theorem dX8_make_36 : decode cX8_make 36 = .ok (.iload 4, 2) := by decide +kernel
theorem dX8_make_38 : decode cX8_make 38 = .ok (.iaload, 1) := by decide +kernel
theorem dX8_make_39 : decode cX8_make 39 = .ok (.ifCond .eq 66, 3) := by decide +kernel
theorem dX8_make_42 : decode cX8_make 42 = .ok (.aload_n 0, 1) := by decide +kernel
theorem dX8_make_43 : decode cX8_make 43 = .ok (.getfield 27, 3) := by decide +kernel
theorem dX8_make_46 : decode cX8_make 46 = .ok (.iload 4, 2) := by decide +kernel
theorem dX8_make_48 : decode cX8_make 48 = .ok (.iaload, 1) := by decide +kernel
theorem dX8_make_49 : decode cX8_make 49 = .ok (.iconst 1, 1) := by decide +kernel
theorem dX8_make_50 : decode cX8_make 50 = .ok (.isub, 1) := by decide +kernel
theorem dX8_make_51 : decode cX8_make 51 = .ok (.istore 6, 2) := by decide +kernel
theorem dX8_make_53 : decode cX8_make 53 = .ok (.aload_n 0, 1) := by decide +kernel
theorem dX8_make_54 : decode cX8_make 54 = .ok (.getfield 11, 3) := by decide +kernel
theorem dX8_make_57 : decode cX8_make 57 = .ok (.iload 6, 2) := by decide +kernel
theorem dX8_make_59 : decode cX8_make 59 = .ok (.iaload, 1) := by decide +kernel
theorem dX8_make_60 : decode cX8_make 60 = .ok (.iload_n 1, 1) := by decide +kernel
theorem dX8_make_61 : decode cX8_make 61 = .ok (.if_icmp .ne 28, 3) := by decide +kernel
theorem dX8_make_64 : decode cX8_make 64 = .ok (.aload_n 0, 1) := by decide +kernel
theorem dX8_make_65 : decode cX8_make 65 = .ok (.getfield 15, 3) := by decide +kernel
theorem dX8_make_68 : decode cX8_make 68 = .ok (.iload 6, 2) := by decide +kernel
theorem dX8_make_70 : decode cX8_make 70 = .ok (.iaload, 1) := by decide +kernel
theorem dX8_make_71 : decode cX8_make 71 = .ok (.iload_n 2, 1) := by decide +kernel
theorem dX8_make_72 : decode cX8_make 72 = .ok (.if_icmp .ne 17, 3) := by decide +kernel
theorem dX8_make_75 : decode cX8_make 75 = .ok (.aload_n 0, 1) := by decide +kernel
theorem dX8_make_76 : decode cX8_make 76 = .ok (.getfield 18, 3) := by decide +kernel
theorem dX8_make_79 : decode cX8_make 79 = .ok (.iload 6, 2) := by decide +kernel
theorem dX8_make_81 : decode cX8_make 81 = .ok (.iaload, 1) := by decide +kernel
theorem dX8_make_82 : decode cX8_make 82 = .ok (.iload_n 3, 1) := by decide +kernel
theorem dX8_make_83 : decode cX8_make 83 = .ok (.if_icmp .ne 6, 3) := by decide +kernel
theorem dX8_make_86 : decode cX8_make 86 = .ok (.iload 6, 2) := by decide +kernel
theorem dX8_make_88 : decode cX8_make 88 = .ok (.ireturn, 1) := by decide +kernel
theorem dX8_make_89 : decode cX8_make 89 = .ok (.iload 4, 2) := by decide +kernel
theorem dX8_make_91 : decode cX8_make 91 = .ok (.iconst 1, 1) := by decide +kernel
theorem dX8_make_92 : decode cX8_make 92 = .ok (.iadd, 1) := by decide +kernel
theorem dX8_make_93 : decode cX8_make 93 = .ok (.sipush 4095, 3) := by decide +kernel
theorem dX8_make_96 : decode cX8_make 96 = .ok (.iand, 1) := by decide +kernel
theorem dX8_make_97 : decode cX8_make 97 = .ok (.istore 4, 2) := by decide +kernel
theorem dX8_make_99 : decode cX8_make 99 = .ok (.iinc 5 1, 3) := by decide +kernel
theorem dX8_make_102 : decode cX8_make 102 = .ok (.goto (-78), 3) := by decide +kernel
theorem dX8_make_105 : decode cX8_make 105 = .ok (.iload_n 1, 1) := by decide +kernel
theorem dX8_make_106 : decode cX8_make 106 = .ok (.invokestatic 56, 3) := by decide +kernel
theorem dX8_make_109 : decode cX8_make 109 = .ok (.invokestatic 93, 3) := by decide +kernel
theorem dX8_make_112 : decode cX8_make 112 = .ok (.istore 5, 2) := by decide +kernel
theorem dX8_make_114 : decode cX8_make 114 = .ok (.aload_n 0, 1) := by decide +kernel
theorem dX8_make_115 : decode cX8_make 115 = .ok (.getfield 40, 3) := by decide +kernel
theorem dX8_make_118 : decode cX8_make 118 = .ok (.ifCond .ne 27, 3) := by decide +kernel
theorem dX8_make_121 : decode cX8_make 121 = .ok (.aload_n 0, 1) := by decide +kernel
theorem dX8_make_122 : decode cX8_make 122 = .ok (.getfield 33, 3) := by decide +kernel
theorem dX8_make_125 : decode cX8_make 125 = .ok (.sipush 2400, 3) := by decide +kernel
theorem dX8_make_128 : decode cX8_make 128 = .ok (.if_icmp .ge 17, 3) := by decide +kernel
theorem dX8_make_131 : decode cX8_make 131 = .ok (.iload 5, 2) := by decide +kernel
theorem dX8_make_133 : decode cX8_make 133 = .ok (.ifCond .eq 19, 3) := by decide +kernel
theorem dX8_make_136 : decode cX8_make 136 = .ok (.aload_n 0, 1) := by decide +kernel
theorem dX8_make_137 : decode cX8_make 137 = .ok (.getfield 37, 3) := by decide +kernel
theorem dX8_make_140 : decode cX8_make 140 = .ok (.bipush 13, 2) := by decide +kernel
theorem dX8_make_142 : decode cX8_make 142 = .ok (.if_icmp .lt 10, 3) := by decide +kernel
theorem dX8_make_145 : decode cX8_make 145 = .ok (.aload_n 0, 1) := by decide +kernel
theorem dX8_make_146 : decode cX8_make 146 = .ok (.iconst 1, 1) := by decide +kernel
theorem dX8_make_147 : decode cX8_make 147 = .ok (.putfield 40, 3) := by decide +kernel
theorem dX8_make_150 : decode cX8_make 150 = .ok (.iconst 0, 1) := by decide +kernel
theorem dX8_make_151 : decode cX8_make 151 = .ok (.ireturn, 1) := by decide +kernel
theorem dX8_make_152 : decode cX8_make 152 = .ok (.aload_n 0, 1) := by decide +kernel
theorem dX8_make_153 : decode cX8_make 153 = .ok (.getfield 27, 3) := by decide +kernel
theorem dX8_make_156 : decode cX8_make 156 = .ok (.iload 4, 2) := by decide +kernel
theorem dX8_make_158 : decode cX8_make 158 = .ok (.aload_n 0, 1) := by decide +kernel
theorem dX8_make_159 : decode cX8_make 159 = .ok (.getfield 33, 3) := by decide +kernel
theorem dX8_make_162 : decode cX8_make 162 = .ok (.iconst 1, 1) := by decide +kernel
theorem dX8_make_163 : decode cX8_make 163 = .ok (.iadd, 1) := by decide +kernel
theorem dX8_make_164 : decode cX8_make 164 = .ok (.iastore, 1) := by decide +kernel
theorem dX8_make_165 : decode cX8_make 165 = .ok (.aload_n 0, 1) := by decide +kernel
theorem dX8_make_166 : decode cX8_make 166 = .ok (.getfield 11, 3) := by decide +kernel
theorem dX8_make_169 : decode cX8_make 169 = .ok (.aload_n 0, 1) := by decide +kernel
theorem dX8_make_170 : decode cX8_make 170 = .ok (.getfield 33, 3) := by decide +kernel
theorem dX8_make_173 : decode cX8_make 173 = .ok (.iload_n 1, 1) := by decide +kernel
theorem dX8_make_174 : decode cX8_make 174 = .ok (.iastore, 1) := by decide +kernel
theorem dX8_make_175 : decode cX8_make 175 = .ok (.aload_n 0, 1) := by decide +kernel
theorem dX8_make_176 : decode cX8_make 176 = .ok (.getfield 15, 3) := by decide +kernel
theorem dX8_make_179 : decode cX8_make 179 = .ok (.aload_n 0, 1) := by decide +kernel
theorem dX8_make_180 : decode cX8_make 180 = .ok (.getfield 33, 3) := by decide +kernel
theorem dX8_make_183 : decode cX8_make 183 = .ok (.iload_n 2, 1) := by decide +kernel
theorem dX8_make_184 : decode cX8_make 184 = .ok (.iastore, 1) := by decide +kernel
theorem dX8_make_185 : decode cX8_make 185 = .ok (.aload_n 0, 1) := by decide +kernel
theorem dX8_make_186 : decode cX8_make 186 = .ok (.getfield 18, 3) := by decide +kernel
theorem dX8_make_189 : decode cX8_make 189 = .ok (.aload_n 0, 1) := by decide +kernel
theorem dX8_make_190 : decode cX8_make 190 = .ok (.getfield 33, 3) := by decide +kernel
theorem dX8_make_193 : decode cX8_make 193 = .ok (.iload_n 3, 1) := by decide +kernel
theorem dX8_make_194 : decode cX8_make 194 = .ok (.iastore, 1) := by decide +kernel
theorem dX8_make_195 : decode cX8_make 195 = .ok (.aload_n 0, 1) := by decide +kernel
theorem dX8_make_196 : decode cX8_make 196 = .ok (.getfield 21, 3) := by decide +kernel
theorem dX8_make_199 : decode cX8_make 199 = .ok (.aload_n 0, 1) := by decide +kernel
theorem dX8_make_200 : decode cX8_make 200 = .ok (.getfield 33, 3) := by decide +kernel
theorem dX8_make_203 : decode cX8_make 203 = .ok (.iconst (-1), 1) := by decide +kernel
theorem dX8_make_204 : decode cX8_make 204 = .ok (.iastore, 1) := by decide +kernel
theorem dX8_make_205 : decode cX8_make 205 = .ok (.iload 5, 2) := by decide +kernel
theorem dX8_make_207 : decode cX8_make 207 = .ok (.ifCond .eq 36, 3) := by decide +kernel
theorem dX8_make_210 : decode cX8_make 210 = .ok (.aload_n 0, 1) := by decide +kernel
theorem dX8_make_211 : decode cX8_make 211 = .ok (.getfield 21, 3) := by decide +kernel
theorem dX8_make_214 : decode cX8_make 214 = .ok (.aload_n 0, 1) := by decide +kernel
theorem dX8_make_215 : decode cX8_make 215 = .ok (.getfield 33, 3) := by decide +kernel
theorem dX8_make_218 : decode cX8_make 218 = .ok (.aload_n 0, 1) := by decide +kernel
theorem dX8_make_219 : decode cX8_make 219 = .ok (.getfield 37, 3) := by decide +kernel
theorem dX8_make_222 : decode cX8_make 222 = .ok (.iastore, 1) := by decide +kernel
theorem dX8_make_223 : decode cX8_make 223 = .ok (.aload_n 0, 1) := by decide +kernel
theorem dX8_make_224 : decode cX8_make 224 = .ok (.getfield 24, 3) := by decide +kernel
theorem dX8_make_227 : decode cX8_make 227 = .ok (.aload_n 0, 1) := by decide +kernel
theorem dX8_make_228 : decode cX8_make 228 = .ok (.dup, 1) := by decide +kernel
theorem dX8_make_229 : decode cX8_make 229 = .ok (.getfield 37, 3) := by decide +kernel
theorem dX8_make_232 : decode cX8_make 232 = .ok (.dup_x1, 1) := by decide +kernel
theorem dX8_make_233 : decode cX8_make 233 = .ok (.iconst 1, 1) := by decide +kernel
theorem dX8_make_234 : decode cX8_make 234 = .ok (.iadd, 1) := by decide +kernel
theorem dX8_make_235 : decode cX8_make 235 = .ok (.putfield 37, 3) := by decide +kernel
theorem dX8_make_238 : decode cX8_make 238 = .ok (.aload_n 0, 1) := by decide +kernel
theorem dX8_make_239 : decode cX8_make 239 = .ok (.getfield 33, 3) := by decide +kernel
theorem dX8_make_242 : decode cX8_make 242 = .ok (.iastore, 1) := by decide +kernel
theorem dX8_make_243 : decode cX8_make 243 = .ok (.aload_n 0, 1) := by decide +kernel
theorem dX8_make_244 : decode cX8_make 244 = .ok (.dup, 1) := by decide +kernel
theorem dX8_make_245 : decode cX8_make 245 = .ok (.getfield 33, 3) := by decide +kernel
theorem dX8_make_248 : decode cX8_make 248 = .ok (.dup_x1, 1) := by decide +kernel
theorem dX8_make_249 : decode cX8_make 249 = .ok (.iconst 1, 1) := by decide +kernel
theorem dX8_make_250 : decode cX8_make 250 = .ok (.iadd, 1) := by decide +kernel
theorem dX8_make_251 : decode cX8_make 251 = .ok (.putfield 33, 3) := by decide +kernel
theorem dX8_make_254 : decode cX8_make 254 = .ok (.ireturn, 1) := by decide +kernel
def f_X8_make_89 (F P : Nat) (S : xSt) (rec_24 : Nat → Int32 → Int32 → Int32 → Int32 → Int32 → xDt → Option (Int32 × xDt)) (v0 : Nat) (v1 : Int32) (v2 : Int32) (v3 : Int32) (v4 : Int32) (v5 : Int32) (D : xDt) : Option (Int32 × xDt) :=
  xlet ((v4 + 1) &&& 4095) fun v4_1 => xlet (v5 + 1) fun v5_2 => rec_24 v0 v1 v2 v3 v4_1 v5_2 D
set_option maxHeartbeats 4000000 in
theorem t_X8_make_89 {F P : Nat} {S : xSt} (hS : xWF S) {rec_24 : Nat → Int32 → Int32 → Int32 → Int32 → Int32 → xDt → Option (Int32 × xDt)} (hrec_24 : ∀ {v0 : Nat} {v1 : Int32} {v2 : Int32} {v3 : Int32} {v4 : Int32} {v5 : Int32} {D : xDt} {r : Int32 × xDt}, xK S v0 8 → rec_24 v0 v1 v2 v3 v4 v5 D = some r → yEx md_X8_make 1 24 [(0, .ref v0), (1, .int v1), (2, .int v2), (3, .int v3), (4, .int v4), (5, .int v5)] [] S D (xQi S r)) {v0 : Nat} {v1 : Int32} {v2 : Int32} {v3 : Int32} {v4 : Int32} {v5 : Int32} {D : xDt} {r : Int32 × xDt} (k0 : xK S v0 8) (h : f_X8_make_89 F P S rec_24 v0 v1 v2 v3 v4 v5 D = some r) : yEx md_X8_make 1 89 [(0, .ref v0), (1, .int v1), (2, .int v2), (3, .int v3), (4, .int v4), (5, .int v5)] [] S D (xQi S r) := by
  unfold f_X8_make_89 at h
  refine x_iload dX8_make_89 4 rfl ?_
  refine x_iconst 1 dX8_make_91 (by decide) ?_
  refine x_iadd dX8_make_92 ?_
  refine x_sipush 4095 dX8_make_93 (by decide) ?_
  refine x_iand dX8_make_96 ?_
  refine xlet_e h (fun v4_1 ev4_1 h => ?_)
  refine y_istore v4_1 ev4_1 [(4, .int v4_1), (0, .ref v0), (1, .int v1), (2, .int v2), (3, .int v3), (5, .int v5)] dX8_make_97 (by show _ < 7; decide) rfl ?_
  refine xlet_e h (fun v5_2 ev5_2 h => ?_)
  refine y_iinc v5_2 ev5_2 (by decide) [(5, .int v5_2), (4, .int v4_1), (0, .ref v0), (1, .int v1), (2, .int v2), (3, .int v3)] dX8_make_99 5 rfl (by show _ < 7; decide) rfl ?_
  refine x_goto 24 dX8_make_102 (by decide) ?_
  refine x_lv (lv' := [(0, .ref v0), (1, .int v1), (2, .int v2), (3, .int v3), (4, .int v4_1), (5, .int v5_2)]) [2, 3, 4, 5, 1, 0] rfl ?_
  exact hrec_24 k0 h

def f_X8_make_243 (F P : Nat) (S : xSt) (v0 : Nat) (D : xDt) : Option (Int32 × xDt) :=
  xlet (xup D.1 v0 7 ((D.1 v0 7) + 1), D.2) fun D1 => some (D.1 v0 7, D1)
set_option maxHeartbeats 4000000 in
theorem t_X8_make_243 {F P : Nat} {S : xSt} (hS : xWF S) {v0 : Nat} {D : xDt} {r : Int32 × xDt} (k0 : xK S v0 8) (h : f_X8_make_243 F P S v0 D = some r) : yEx md_X8_make 1 243 [(0, .ref v0)] [] S D (xQi S r) := by
  unfold f_X8_make_243 at h
  refine x_aload_n dX8_make_243 0 rfl ?_
  refine x_dup dX8_make_244 rfl ?_
  refine y_geti fl_RX8_33 dX8_make_245 rfl k0 ?_
  refine x_dup_x1 dX8_make_248 rfl rfl ?_
  refine x_iconst 1 dX8_make_249 (by decide) ?_
  refine x_iadd dX8_make_250 ?_
  refine xlet_e h (fun D1 eD1 h => ?_)
  refine y_puti fp_RX8_33 dX8_make_251 rfl k0 eD1 ?_
  obtain rfl := Option.some.inj h
  exact y_iret rfl dX8_make_254

def f_X8_make_152 (F P : Nat) (S : xSt) (v0 : Nat) (v1 : Int32) (v2 : Int32) (v3 : Int32) (v4 : Int32) (v5 : Int32) (D : xDt) : Option (Int32 × xDt) :=
  xgrd (xin v4 (xl S (xr S v0 5))) (xlet (xup D.1 (xr S v0 5) (v4).toNatClampNeg ((D.1 v0 7) + 1), D.2) fun D2 => xgrd (xin (D2.1 v0 7) (xl S (xr S v0 0))) (xlet (xup D2.1 (xr S v0 0) (D2.1 v0 7).toNatClampNeg v1, D2.2) fun D4 => xgrd (xin (D4.1 v0 7) (xl S (xr S v0 1))) (xlet (xup D4.1 (xr S v0 1) (D4.1 v0 7).toNatClampNeg v2, D4.2) fun D6 => xgrd (xin (D6.1 v0 7) (xl S (xr S v0 2))) (xlet (xup D6.1 (xr S v0 2) (D6.1 v0 7).toNatClampNeg v3, D6.2) fun D8 => xgrd (xin (D8.1 v0 7) (xl S (xr S v0 3))) (xlet (xup D8.1 (xr S v0 3) (D8.1 v0 7).toNatClampNeg (-1), D8.2) fun D10 => if v5 = 0 then (f_X8_make_243 F P S v0 D10) else (xgrd (xin (D10.1 v0 7) (xl S (xr S v0 3))) (xlet (xup D10.1 (xr S v0 3) (D10.1 v0 7).toNatClampNeg (D10.1 v0 8), D10.2) fun D12 => xlet (xup D12.1 v0 8 ((D12.1 v0 8) + 1), D12.2) fun D13 => xgrd (xin (D12.1 v0 8) (xl S (xr S v0 4))) (xlet (xup D13.1 (xr S v0 4) (D12.1 v0 8).toNatClampNeg (D13.1 v0 7), D13.2) fun D15 => f_X8_make_243 F P S v0 D15))))))))
set_option maxHeartbeats 4000000 in
theorem t_X8_make_152 {F P : Nat} {S : xSt} (hS : xWF S) {v0 : Nat} {v1 : Int32} {v2 : Int32} {v3 : Int32} {v4 : Int32} {v5 : Int32} {D : xDt} {r : Int32 × xDt} (k0 : xK S v0 8) (h : f_X8_make_152 F P S v0 v1 v2 v3 v4 v5 D = some r) : yEx md_X8_make 1 152 [(0, .ref v0), (1, .int v1), (2, .int v2), (3, .int v3), (4, .int v4), (5, .int v5)] [] S D (xQi S r) := by
  unfold f_X8_make_152 at h
  refine x_aload_n dX8_make_152 0 rfl ?_
  refine y_getr (kd := 100) hS fl_RX8_27 dX8_make_153 rfl k0 ?_
  refine x_iload dX8_make_156 4 rfl ?_
  refine x_aload_n dX8_make_158 0 rfl ?_
  refine y_geti fl_RX8_33 dX8_make_159 rfl k0 ?_
  refine x_iconst 1 dX8_make_162 (by decide) ?_
  refine x_iadd dX8_make_163 ?_
  refine xgrd_e h (fun g1 h => ?_)
  refine xlet_e h (fun D2 eD2 h => ?_)
  refine y_iast dX8_make_164 ((hS.f k0 5 100 rfl).2) g1 eD2 ?_
  refine x_aload_n dX8_make_165 0 rfl ?_
  refine y_getr (kd := 100) hS fl_RX8_11 dX8_make_166 rfl k0 ?_
  refine x_aload_n dX8_make_169 0 rfl ?_
  refine y_geti fl_RX8_33 dX8_make_170 rfl k0 ?_
  refine x_iload_n dX8_make_173 1 rfl ?_
  refine xgrd_e h (fun g3 h => ?_)
  refine xlet_e h (fun D4 eD4 h => ?_)
  refine y_iast dX8_make_174 ((hS.f k0 0 100 rfl).2) g3 eD4 ?_
  refine x_aload_n dX8_make_175 0 rfl ?_
  refine y_getr (kd := 100) hS fl_RX8_15 dX8_make_176 rfl k0 ?_
  refine x_aload_n dX8_make_179 0 rfl ?_
  refine y_geti fl_RX8_33 dX8_make_180 rfl k0 ?_
  refine x_iload_n dX8_make_183 2 rfl ?_
  refine xgrd_e h (fun g5 h => ?_)
  refine xlet_e h (fun D6 eD6 h => ?_)
  refine y_iast dX8_make_184 ((hS.f k0 1 100 rfl).2) g5 eD6 ?_
  refine x_aload_n dX8_make_185 0 rfl ?_
  refine y_getr (kd := 100) hS fl_RX8_18 dX8_make_186 rfl k0 ?_
  refine x_aload_n dX8_make_189 0 rfl ?_
  refine y_geti fl_RX8_33 dX8_make_190 rfl k0 ?_
  refine x_iload_n dX8_make_193 3 rfl ?_
  refine xgrd_e h (fun g7 h => ?_)
  refine xlet_e h (fun D8 eD8 h => ?_)
  refine y_iast dX8_make_194 ((hS.f k0 2 100 rfl).2) g7 eD8 ?_
  refine x_aload_n dX8_make_195 0 rfl ?_
  refine y_getr (kd := 100) hS fl_RX8_21 dX8_make_196 rfl k0 ?_
  refine x_aload_n dX8_make_199 0 rfl ?_
  refine y_geti fl_RX8_33 dX8_make_200 rfl k0 ?_
  refine x_iconst (-1) dX8_make_203 (by decide) ?_
  refine xgrd_e h (fun g9 h => ?_)
  refine xlet_e h (fun D10 eD10 h => ?_)
  refine y_iast dX8_make_204 ((hS.f k0 3 100 rfl).2) g9 eD10 ?_
  refine x_iload dX8_make_205 5 rfl ?_
  refine x_if_eq 243 dX8_make_207 (by decide) (fun c => ?_) (fun c => ?_)
  · rw [if_pos c] at h
    refine x_lv (lv' := [(0, .ref v0)]) [0] rfl ?_
    exact t_X8_make_243 hS k0 h
  · rw [if_neg c] at h
    refine x_aload_n dX8_make_210 0 rfl ?_
    refine y_getr (kd := 100) hS fl_RX8_21 dX8_make_211 rfl k0 ?_
    refine x_aload_n dX8_make_214 0 rfl ?_
    refine y_geti fl_RX8_33 dX8_make_215 rfl k0 ?_
    refine x_aload_n dX8_make_218 0 rfl ?_
    refine y_geti fl_RX8_37 dX8_make_219 rfl k0 ?_
    refine xgrd_e h (fun g11 h => ?_)
    refine xlet_e h (fun D12 eD12 h => ?_)
    refine y_iast dX8_make_222 ((hS.f k0 3 100 rfl).2) g11 eD12 ?_
    refine x_aload_n dX8_make_223 0 rfl ?_
    refine y_getr (kd := 100) hS fl_RX8_24 dX8_make_224 rfl k0 ?_
    refine x_aload_n dX8_make_227 0 rfl ?_
    refine x_dup dX8_make_228 rfl ?_
    refine y_geti fl_RX8_37 dX8_make_229 rfl k0 ?_
    refine x_dup_x1 dX8_make_232 rfl rfl ?_
    refine x_iconst 1 dX8_make_233 (by decide) ?_
    refine x_iadd dX8_make_234 ?_
    refine xlet_e h (fun D13 eD13 h => ?_)
    refine y_puti fp_RX8_37 dX8_make_235 rfl k0 eD13 ?_
    refine x_aload_n dX8_make_238 0 rfl ?_
    refine y_geti fl_RX8_33 dX8_make_239 rfl k0 ?_
    refine xgrd_e h (fun g14 h => ?_)
    refine xlet_e h (fun D15 eD15 h => ?_)
    refine y_iast dX8_make_242 ((hS.f k0 4 100 rfl).2) g14 eD15 ?_
    refine x_lv (lv' := [(0, .ref v0)]) [0] rfl ?_
    exact t_X8_make_243 hS k0 h

def f_X8_make_105 (F P : Nat) (S : xSt) (v0 : Nat) (v1 : Int32) (v2 : Int32) (v3 : Int32) (v4 : Int32) (D : xDt) : Option (Int32 × xDt) :=
  (f_X11_signOf F P S v1 D).bind fun q1 => (f_X8_isBase F P S q1.1 q1.2).bind fun q2 => if (q2.2.1 v0 9) = 0 then (if 2400 ≤ (q2.2.1 v0 7) then (xlet (xup q2.2.1 v0 9 1, q2.2.2) fun D4 => some (0, D4)) else (if q2.1 = 0 then (f_X8_make_152 F P S v0 v1 v2 v3 v4 q2.1 q2.2) else (if (q2.2.1 v0 8) < 13 then (f_X8_make_152 F P S v0 v1 v2 v3 v4 q2.1 q2.2) else (xlet (xup q2.2.1 v0 9 1, q2.2.2) fun D5 => some (0, D5))))) else (xlet (xup q2.2.1 v0 9 1, q2.2.2) fun D3 => some (0, D3))
set_option maxHeartbeats 4000000 in
theorem t_X8_make_105 {F P : Nat} {S : xSt} (hS : xWF S) {v0 : Nat} {v1 : Int32} {v2 : Int32} {v3 : Int32} {v4 : Int32} {D : xDt} {r : Int32 × xDt} (k0 : xK S v0 8) (h : f_X8_make_105 F P S v0 v1 v2 v3 v4 D = some r) : yEx md_X8_make 1 105 [(0, .ref v0), (1, .int v1), (2, .int v2), (3, .int v3), (4, .int v4)] [] S D (xQi S r) := by
  unfold f_X8_make_105 at h
  refine x_iload_n dX8_make_105 1 rfl ?_
  refine xbnd_e h (fun q1 e1 h => ?_)
  refine y_callNi (As := [.int v1]) (q := q1) cn_RX8_56 dX8_make_106 rfl (Nat.le_of_ble_eq_true rfl) (by omega) (S_X11_signOf hS e1) ?_
  refine xbnd_e h (fun q2 e2 h => ?_)
  refine y_callSi (As := [.int q1.1]) (q := q2) cs_RX8_93 dX8_make_109 rfl (Nat.le_of_ble_eq_true rfl) (by omega) (S_X8_isBase hS e2) ?_
  refine y_istore q2.1 rfl [(5, .int q2.1), (0, .ref v0), (1, .int v1), (2, .int v2), (3, .int v3), (4, .int v4)] dX8_make_112 (by show _ < 7; decide) rfl ?_
  refine x_aload_n dX8_make_114 1 rfl ?_
  refine y_geti fl_RX8_40 dX8_make_115 rfl k0 ?_
  refine x_if_ne 145 dX8_make_118 (by decide) (fun c => ?_) (fun c => ?_)
  · rw [if_neg c] at h
    refine x_aload_n dX8_make_145 1 rfl ?_
    refine x_iconst 1 dX8_make_146 (by decide) ?_
    refine xlet_e h (fun D3 eD3 h => ?_)
    refine y_putz rfl fp_RX8_40 dX8_make_147 rfl k0 eD3 ?_
    refine x_iconst 0 dX8_make_150 (by decide) ?_
    obtain rfl := Option.some.inj h
    exact y_iret rfl dX8_make_151
  · rw [if_pos c] at h
    refine x_aload_n dX8_make_121 1 rfl ?_
    refine y_geti fl_RX8_33 dX8_make_122 rfl k0 ?_
    refine x_sipush 2400 dX8_make_125 (by decide) ?_
    refine x_icmp_ge 145 dX8_make_128 (by decide) (fun c => ?_) (fun c => ?_)
    · rw [if_pos c] at h
      refine x_aload_n dX8_make_145 1 rfl ?_
      refine x_iconst 1 dX8_make_146 (by decide) ?_
      refine xlet_e h (fun D4 eD4 h => ?_)
      refine y_putz rfl fp_RX8_40 dX8_make_147 rfl k0 eD4 ?_
      refine x_iconst 0 dX8_make_150 (by decide) ?_
      obtain rfl := Option.some.inj h
      exact y_iret rfl dX8_make_151
    · rw [if_neg c] at h
      refine x_iload dX8_make_131 0 rfl ?_
      refine x_if_eq 152 dX8_make_133 (by decide) (fun c => ?_) (fun c => ?_)
      · rw [if_pos c] at h
        refine x_lv (lv' := [(0, .ref v0), (1, .int v1), (2, .int v2), (3, .int v3), (4, .int v4), (5, .int q2.1)]) [1, 2, 3, 4, 5, 0] rfl ?_
        exact t_X8_make_152 hS k0 h
      · rw [if_neg c] at h
        refine x_aload_n dX8_make_136 1 rfl ?_
        refine y_geti fl_RX8_37 dX8_make_137 rfl k0 ?_
        refine x_bipush 13 dX8_make_140 (by decide) ?_
        refine x_icmp_lt 152 dX8_make_142 (by decide) (fun c => ?_) (fun c => ?_)
        · rw [if_pos c] at h
          refine x_lv (lv' := [(0, .ref v0), (1, .int v1), (2, .int v2), (3, .int v3), (4, .int v4), (5, .int q2.1)]) [1, 2, 3, 4, 5, 0] rfl ?_
          exact t_X8_make_152 hS k0 h
        · rw [if_neg c] at h
          refine x_aload_n dX8_make_145 1 rfl ?_
          refine x_iconst 1 dX8_make_146 (by decide) ?_
          refine xlet_e h (fun D5 eD5 h => ?_)
          refine y_putz rfl fp_RX8_40 dX8_make_147 rfl k0 eD5 ?_
          refine x_iconst 0 dX8_make_150 (by decide) ?_
          obtain rfl := Option.some.inj h
          exact y_iret rfl dX8_make_151

def f_X8_make_24s (F P : Nat) (S : xSt) (rec_24 : Nat → Int32 → Int32 → Int32 → Int32 → Int32 → xDt → Option (Int32 × xDt)) (v0 : Nat) (v1 : Int32) (v2 : Int32) (v3 : Int32) (v4 : Int32) (v5 : Int32) (D : xDt) : Option (Int32 × xDt) :=
  if 4096 ≤ v5 then (f_X8_make_105 F P S v0 v1 v2 v3 v4 D) else (xgrd (xin v4 (xl S (xr S v0 5))) (if (D.1 (xr S v0 5) (v4).toNatClampNeg) = 0 then (f_X8_make_105 F P S v0 v1 v2 v3 v4 D) else (xgrd (xin v4 (xl S (xr S v0 5))) (xlet ((D.1 (xr S v0 5) (v4).toNatClampNeg) - 1) fun v6_3 => xgrd (xin v6_3 (xl S (xr S v0 0))) (if (D.1 (xr S v0 0) (v6_3).toNatClampNeg) = v1 then (xgrd (xin v6_3 (xl S (xr S v0 1))) (if (D.1 (xr S v0 1) (v6_3).toNatClampNeg) = v2 then (xgrd (xin v6_3 (xl S (xr S v0 2))) (if (D.1 (xr S v0 2) (v6_3).toNatClampNeg) = v3 then (some (v6_3, D)) else (f_X8_make_89 F P S rec_24 v0 v1 v2 v3 v4 v5 D))) else (f_X8_make_89 F P S rec_24 v0 v1 v2 v3 v4 v5 D))) else (f_X8_make_89 F P S rec_24 v0 v1 v2 v3 v4 v5 D))))))
def f_X8_make_24 (F P : Nat) (S : xSt) : Nat → Nat → Int32 → Int32 → Int32 → Int32 → Int32 → xDt → Option (Int32 × xDt)
  | 0 => fun _ _ _ _ _ _ _ => none
  | n + 1 => f_X8_make_24s F P S (f_X8_make_24 F P S n)
set_option maxHeartbeats 4000000 in
theorem t_X8_make_24s {F P : Nat} {S : xSt} (hS : xWF S) {rec_24 : Nat → Int32 → Int32 → Int32 → Int32 → Int32 → xDt → Option (Int32 × xDt)} (hrec_24 : ∀ {v0 : Nat} {v1 : Int32} {v2 : Int32} {v3 : Int32} {v4 : Int32} {v5 : Int32} {D : xDt} {r : Int32 × xDt}, xK S v0 8 → rec_24 v0 v1 v2 v3 v4 v5 D = some r → yEx md_X8_make 1 24 [(0, .ref v0), (1, .int v1), (2, .int v2), (3, .int v3), (4, .int v4), (5, .int v5)] [] S D (xQi S r)) {v0 : Nat} {v1 : Int32} {v2 : Int32} {v3 : Int32} {v4 : Int32} {v5 : Int32} {D : xDt} {r : Int32 × xDt} (k0 : xK S v0 8) (h : f_X8_make_24s F P S rec_24 v0 v1 v2 v3 v4 v5 D = some r) : yEx md_X8_make 1 24 [(0, .ref v0), (1, .int v1), (2, .int v2), (3, .int v3), (4, .int v4), (5, .int v5)] [] S D (xQi S r) := by
  unfold f_X8_make_24s at h
  refine x_iload dX8_make_24 5 rfl ?_
  refine x_sipush 4096 dX8_make_26 (by decide) ?_
  refine x_icmp_ge 105 dX8_make_29 (by decide) (fun c => ?_) (fun c => ?_)
  · rw [if_pos c] at h
    refine x_lv (lv' := [(0, .ref v0), (1, .int v1), (2, .int v2), (3, .int v3), (4, .int v4)]) [0, 1, 2, 3, 4] rfl ?_
    exact t_X8_make_105 hS k0 h
  · rw [if_neg c] at h
    refine x_aload_n dX8_make_32 0 rfl ?_
    refine y_getr (kd := 100) hS fl_RX8_27 dX8_make_33 rfl k0 ?_
    refine x_iload dX8_make_36 4 rfl ?_
    refine xgrd_e h (fun g1 h => ?_)
    refine y_iald dX8_make_38 ((hS.f k0 5 100 rfl).2) g1 ?_
    refine x_if_eq 105 dX8_make_39 (by decide) (fun c => ?_) (fun c => ?_)
    · rw [if_pos c] at h
      refine x_lv (lv' := [(0, .ref v0), (1, .int v1), (2, .int v2), (3, .int v3), (4, .int v4)]) [0, 1, 2, 3, 4] rfl ?_
      exact t_X8_make_105 hS k0 h
    · rw [if_neg c] at h
      refine x_aload_n dX8_make_42 0 rfl ?_
      refine y_getr (kd := 100) hS fl_RX8_27 dX8_make_43 rfl k0 ?_
      refine x_iload dX8_make_46 4 rfl ?_
      refine xgrd_e h (fun g2 h => ?_)
      refine y_iald dX8_make_48 ((hS.f k0 5 100 rfl).2) g2 ?_
      refine x_iconst 1 dX8_make_49 (by decide) ?_
      refine x_isub dX8_make_50 ?_
      refine xlet_e h (fun v6_3 ev6_3 h => ?_)
      refine y_istore v6_3 ev6_3 [(6, .int v6_3), (0, .ref v0), (1, .int v1), (2, .int v2), (3, .int v3), (4, .int v4), (5, .int v5)] dX8_make_51 (by show _ < 7; decide) rfl ?_
      refine x_aload_n dX8_make_53 1 rfl ?_
      refine y_getr (kd := 100) hS fl_RX8_11 dX8_make_54 rfl k0 ?_
      refine x_iload dX8_make_57 0 rfl ?_
      refine xgrd_e h (fun g4 h => ?_)
      refine y_iald dX8_make_59 ((hS.f k0 0 100 rfl).2) g4 ?_
      refine x_iload_n dX8_make_60 2 rfl ?_
      refine x_icmp_ne 89 dX8_make_61 (by decide) (fun c => ?_) (fun c => ?_)
      · rw [if_neg c] at h
        refine x_lv (lv' := [(0, .ref v0), (1, .int v1), (2, .int v2), (3, .int v3), (4, .int v4), (5, .int v5)]) [1, 2, 3, 4, 5, 6] rfl ?_
        exact t_X8_make_89 hS hrec_24 k0 h
      · rw [if_pos c] at h
        refine x_aload_n dX8_make_64 1 rfl ?_
        refine y_getr (kd := 100) hS fl_RX8_15 dX8_make_65 rfl k0 ?_
        refine x_iload dX8_make_68 0 rfl ?_
        refine xgrd_e h (fun g5 h => ?_)
        refine y_iald dX8_make_70 ((hS.f k0 1 100 rfl).2) g5 ?_
        refine x_iload_n dX8_make_71 3 rfl ?_
        refine x_icmp_ne 89 dX8_make_72 (by decide) (fun c => ?_) (fun c => ?_)
        · rw [if_neg c] at h
          refine x_lv (lv' := [(0, .ref v0), (1, .int v1), (2, .int v2), (3, .int v3), (4, .int v4), (5, .int v5)]) [1, 2, 3, 4, 5, 6] rfl ?_
          exact t_X8_make_89 hS hrec_24 k0 h
        · rw [if_pos c] at h
          refine x_aload_n dX8_make_75 1 rfl ?_
          refine y_getr (kd := 100) hS fl_RX8_18 dX8_make_76 rfl k0 ?_
          refine x_iload dX8_make_79 0 rfl ?_
          refine xgrd_e h (fun g6 h => ?_)
          refine y_iald dX8_make_81 ((hS.f k0 2 100 rfl).2) g6 ?_
          refine x_iload_n dX8_make_82 4 rfl ?_
          refine x_icmp_ne 89 dX8_make_83 (by decide) (fun c => ?_) (fun c => ?_)
          · rw [if_neg c] at h
            refine x_lv (lv' := [(0, .ref v0), (1, .int v1), (2, .int v2), (3, .int v3), (4, .int v4), (5, .int v5)]) [1, 2, 3, 4, 5, 6] rfl ?_
            exact t_X8_make_89 hS hrec_24 k0 h
          · rw [if_pos c] at h
            refine x_iload dX8_make_86 0 rfl ?_
            obtain rfl := Option.some.inj h
            exact y_iret rfl dX8_make_88
theorem t_X8_make_24 {F P : Nat} {S : xSt} (hS : xWF S) : ∀ (n : Nat) {v0 : Nat} {v1 : Int32} {v2 : Int32} {v3 : Int32} {v4 : Int32} {v5 : Int32} {D : xDt} {r : Int32 × xDt}, xK S v0 8 → f_X8_make_24 F P S n v0 v1 v2 v3 v4 v5 D = some r → yEx md_X8_make 1 24 [(0, .ref v0), (1, .int v1), (2, .int v2), (3, .int v3), (4, .int v4), (5, .int v5)] [] S D (xQi S r) := by
  intro n
  induction n with
  | zero => intros; rename_i h; cases h
  | succ n ih =>
    intro v0 v1 v2 v3 v4 v5 D r k0 h
    exact t_X8_make_24s hS (fun k0 h => ih k0 h) k0 h

def f_X8_make (F P : Nat) (S : xSt) (v0 : Nat) (v1 : Int32) (v2 : Int32) (v3 : Int32) (D : xDt) : Option (Int32 × xDt) :=
  xlet (((((v1 * 31) + v2) * 1009) + (v3 * 17)) &&& 4095) fun v4_1 => f_X8_make_24 F P S F v0 v1 v2 v3 v4_1 0 D
set_option maxHeartbeats 4000000 in
theorem S_X8_make {F P : Nat} {S : xSt} (hS : xWF S) {v0 : Nat} {v1 : Int32} {v2 : Int32} {v3 : Int32} {D : xDt} {r : Int32 × xDt} (k0 : xK S v0 8) (h : f_X8_make F P S v0 v1 v2 v3 D = some r) : xSp md_X8_make (1, 0, 0) [.ref v0, .int v1, .int v2, .int v3] (S, D) (xQi S r) := by
  unfold f_X8_make at h
  refine xEntry (by decide) (Nat.le_of_ble_eq_true rfl) ?_
  refine x_lv (lv' := [(0, .ref v0), (1, .int v1), (2, .int v2), (3, .int v3)]) [0, 1, 2, 3] rfl ?_
  refine x_iload_n dX8_make_0 1 rfl ?_
  refine x_bipush 31 dX8_make_1 (by decide) ?_
  refine x_imul dX8_make_3 ?_
  refine x_iload_n dX8_make_4 2 rfl ?_
  refine x_iadd dX8_make_5 ?_
  refine x_sipush 1009 dX8_make_6 (by decide) ?_
  refine x_imul dX8_make_9 ?_
  refine x_iload_n dX8_make_10 3 rfl ?_
  refine x_bipush 17 dX8_make_11 (by decide) ?_
  refine x_imul dX8_make_13 ?_
  refine x_iadd dX8_make_14 ?_
  refine x_sipush 4095 dX8_make_15 (by decide) ?_
  refine x_iand dX8_make_18 ?_
  refine xlet_e h (fun v4_1 ev4_1 h => ?_)
  refine y_istore v4_1 ev4_1 [(4, .int v4_1), (0, .ref v0), (1, .int v1), (2, .int v2), (3, .int v3)] dX8_make_19 (by show _ < 7; decide) rfl ?_
  refine x_iconst 0 dX8_make_21 (by decide) ?_
  refine y_istore 0 rfl [(5, .int 0), (4, .int v4_1), (0, .ref v0), (1, .int v1), (2, .int v2), (3, .int v3)] dX8_make_22 (by show _ < 7; decide) rfl ?_
  refine x_lv (lv' := [(0, .ref v0), (1, .int v1), (2, .int v2), (3, .int v3), (4, .int v4_1), (5, .int 0)]) [2, 3, 4, 5, 1, 0] rfl ?_
  exact t_X8_make_24 hS F k0 h

theorem dX11_isJoin_0 : decode cX11_isJoin 0 = .ok (.iload_n 0, 1) := by decide +kernel
theorem dX11_isJoin_1 : decode cX11_isJoin 1 = .ok (.bipush 61, 2) := by decide +kernel
theorem dX11_isJoin_3 : decode cX11_isJoin 3 = .ok (.if_icmp .eq 21, 3) := by decide +kernel
theorem dX11_isJoin_6 : decode cX11_isJoin 6 = .ok (.iload_n 0, 1) := by decide +kernel
theorem dX11_isJoin_7 : decode cX11_isJoin 7 = .ok (.bipush 62, 2) := by decide +kernel
theorem dX11_isJoin_9 : decode cX11_isJoin 9 = .ok (.if_icmp .eq 15, 3) := by decide +kernel
theorem dX11_isJoin_12 : decode cX11_isJoin 12 = .ok (.iload_n 0, 1) := by decide +kernel
theorem dX11_isJoin_13 : decode cX11_isJoin 13 = .ok (.bipush 124, 2) := by decide +kernel
theorem dX11_isJoin_15 : decode cX11_isJoin 15 = .ok (.if_icmp .eq 9, 3) := by decide +kernel
theorem dX11_isJoin_18 : decode cX11_isJoin 18 = .ok (.iload_n 0, 1) := by decide +kernel
theorem dX11_isJoin_19 : decode cX11_isJoin 19 = .ok (.bipush 38, 2) := by decide +kernel
theorem dX11_isJoin_21 : decode cX11_isJoin 21 = .ok (.if_icmp .ne 7, 3) := by decide +kernel
theorem dX11_isJoin_24 : decode cX11_isJoin 24 = .ok (.iconst 1, 1) := by decide +kernel
theorem dX11_isJoin_25 : decode cX11_isJoin 25 = .ok (.goto 4, 3) := by decide +kernel
theorem dX11_isJoin_28 : decode cX11_isJoin 28 = .ok (.iconst 0, 1) := by decide +kernel
theorem dX11_isJoin_29 : decode cX11_isJoin 29 = .ok (.ireturn, 1) := by decide +kernel
def f_X11_isJoin_24 (F P : Nat) (S : xSt) (D : xDt) : Option (Int32 × xDt) :=
  some (1, D)
set_option maxHeartbeats 4000000 in
theorem t_X11_isJoin_24 {F P : Nat} {S : xSt} (hS : xWF S) {D : xDt} {r : Int32 × xDt} (h : f_X11_isJoin_24 F P S D = some r) : yEx md_X11_isJoin 0 24 [] [] S D (xQi S r) := by
  unfold f_X11_isJoin_24 at h
  refine x_iconst 1 dX11_isJoin_24 (by decide) ?_
  refine x_goto 29 dX11_isJoin_25 (by decide) ?_
  obtain rfl := Option.some.inj h
  exact y_zret rfl rfl dX11_isJoin_29

def f_X11_isJoin (F P : Nat) (S : xSt) (v0 : Int32) (D : xDt) : Option (Int32 × xDt) :=
  if v0 = 61 then (f_X11_isJoin_24 F P S D) else (if v0 = 62 then (f_X11_isJoin_24 F P S D) else (if v0 = 124 then (f_X11_isJoin_24 F P S D) else (if v0 = 38 then (f_X11_isJoin_24 F P S D) else (some (0, D)))))
set_option maxHeartbeats 4000000 in
theorem S_X11_isJoin {F P : Nat} {S : xSt} (hS : xWF S) {v0 : Int32} {D : xDt} {r : Int32 × xDt} (h : f_X11_isJoin F P S v0 D = some r) : xSp md_X11_isJoin (0, 0, 0) [.int v0] (S, D) (xQi S r) := by
  unfold f_X11_isJoin at h
  refine xEntry (by decide) (Nat.le_of_ble_eq_true rfl) ?_
  refine x_lv (lv' := [(0, .int v0)]) [0] rfl ?_
  refine x_iload_n dX11_isJoin_0 0 rfl ?_
  refine x_bipush 61 dX11_isJoin_1 (by decide) ?_
  refine x_icmp_eq 24 dX11_isJoin_3 (by decide) (fun c => ?_) (fun c => ?_)
  · rw [if_pos c] at h
    refine x_lv (lv' := []) [] rfl ?_
    exact t_X11_isJoin_24 hS h
  · rw [if_neg c] at h
    refine x_iload_n dX11_isJoin_6 0 rfl ?_
    refine x_bipush 62 dX11_isJoin_7 (by decide) ?_
    refine x_icmp_eq 24 dX11_isJoin_9 (by decide) (fun c => ?_) (fun c => ?_)
    · rw [if_pos c] at h
      refine x_lv (lv' := []) [] rfl ?_
      exact t_X11_isJoin_24 hS h
    · rw [if_neg c] at h
      refine x_iload_n dX11_isJoin_12 0 rfl ?_
      refine x_bipush 124 dX11_isJoin_13 (by decide) ?_
      refine x_icmp_eq 24 dX11_isJoin_15 (by decide) (fun c => ?_) (fun c => ?_)
      · rw [if_pos c] at h
        refine x_lv (lv' := []) [] rfl ?_
        exact t_X11_isJoin_24 hS h
      · rw [if_neg c] at h
        refine x_iload_n dX11_isJoin_18 0 rfl ?_
        refine x_bipush 38 dX11_isJoin_19 (by decide) ?_
        refine x_icmp_ne 28 dX11_isJoin_21 (by decide) (fun c => ?_) (fun c => ?_)
        · rw [if_neg c] at h
          refine x_iconst 0 dX11_isJoin_28 (by decide) ?_
          obtain rfl := Option.some.inj h
          exact y_zret rfl rfl dX11_isJoin_29
        · rw [if_pos c] at h
          refine x_lv (lv' := []) [] rfl ?_
          exact t_X11_isJoin_24 hS h

theorem dX11_hasAgent_0 : decode cX11_hasAgent 0 = .ok (.iload_n 0, 1) := by decide +kernel
theorem dX11_hasAgent_1 : decode cX11_hasAgent 1 = .ok (.bipush 8, 2) := by decide +kernel
theorem dX11_hasAgent_3 : decode cX11_hasAgent 3 = .ok (.iload_n 1, 1) := by decide +kernel
theorem dX11_hasAgent_4 : decode cX11_hasAgent 4 = .ok (.iadd, 1) := by decide +kernel
theorem dX11_hasAgent_5 : decode cX11_hasAgent 5 = .ok (.ishr, 1) := by decide +kernel
theorem dX11_hasAgent_6 : decode cX11_hasAgent 6 = .ok (.iconst 1, 1) := by decide +kernel
theorem dX11_hasAgent_7 : decode cX11_hasAgent 7 = .ok (.iand, 1) := by decide +kernel
theorem dX11_hasAgent_8 : decode cX11_hasAgent 8 = .ok (.ifCond .eq 7, 3) := by decide +kernel
theorem dX11_hasAgent_11 : decode cX11_hasAgent 11 = .ok (.iconst 1, 1) := by decide +kernel
theorem dX11_hasAgent_12 : decode cX11_hasAgent 12 = .ok (.goto 4, 3) := by decide +kernel
theorem dX11_hasAgent_15 : decode cX11_hasAgent 15 = .ok (.iconst 0, 1) := by decide +kernel
theorem dX11_hasAgent_16 : decode cX11_hasAgent 16 = .ok (.ireturn, 1) := by decide +kernel
def f_X11_hasAgent (F P : Nat) (S : xSt) (v0 : Int32) (v1 : Int32) (D : xDt) : Option (Int32 × xDt) :=
  if ((jishr v0 (8 + v1)) &&& 1) = 0 then (some (0, D)) else (some (1, D))
set_option maxHeartbeats 4000000 in
theorem S_X11_hasAgent {F P : Nat} {S : xSt} (hS : xWF S) {v0 : Int32} {v1 : Int32} {D : xDt} {r : Int32 × xDt} (h : f_X11_hasAgent F P S v0 v1 D = some r) : xSp md_X11_hasAgent (0, 0, 0) [.int v0, .int v1] (S, D) (xQi S r) := by
  unfold f_X11_hasAgent at h
  refine xEntry (by decide) (Nat.le_of_ble_eq_true rfl) ?_
  refine x_lv (lv' := [(0, .int v0), (1, .int v1)]) [0, 1] rfl ?_
  refine x_iload_n dX11_hasAgent_0 0 rfl ?_
  refine x_bipush 8 dX11_hasAgent_1 (by decide) ?_
  refine x_iload_n dX11_hasAgent_3 1 rfl ?_
  refine x_iadd dX11_hasAgent_4 ?_
  refine x_ishr dX11_hasAgent_5 ?_
  refine x_iconst 1 dX11_hasAgent_6 (by decide) ?_
  refine x_iand dX11_hasAgent_7 ?_
  refine x_if_eq 15 dX11_hasAgent_8 (by decide) (fun c => ?_) (fun c => ?_)
  · rw [if_pos c] at h
    refine x_iconst 0 dX11_hasAgent_15 (by decide) ?_
    obtain rfl := Option.some.inj h
    exact y_zret rfl rfl dX11_hasAgent_16
  · rw [if_neg c] at h
    refine x_iconst 1 dX11_hasAgent_11 (by decide) ?_
    refine x_goto 16 dX11_hasAgent_12 (by decide) ?_
    obtain rfl := Option.some.inj h
    exact y_zret rfl rfl dX11_hasAgent_16

theorem dX11_withAgents_0 : decode cX11_withAgents 0 = .ok (.iload_n 0, 1) := by decide +kernel
theorem dX11_withAgents_1 : decode cX11_withAgents 1 = .ok (.iload_n 1, 1) := by decide +kernel
theorem dX11_withAgents_2 : decode cX11_withAgents 2 = .ok (.bipush 8, 2) := by decide +kernel
theorem dX11_withAgents_4 : decode cX11_withAgents 4 = .ok (.ishl, 1) := by decide +kernel
theorem dX11_withAgents_5 : decode cX11_withAgents 5 = .ok (.ior, 1) := by decide +kernel
theorem dX11_withAgents_6 : decode cX11_withAgents 6 = .ok (.ireturn, 1) := by decide +kernel
def f_X11_withAgents (F P : Nat) (S : xSt) (v0 : Int32) (v1 : Int32) (D : xDt) : Option (Int32 × xDt) :=
  some (v0 ||| (jishl v1 8), D)
set_option maxHeartbeats 4000000 in
theorem S_X11_withAgents {F P : Nat} {S : xSt} (hS : xWF S) {v0 : Int32} {v1 : Int32} {D : xDt} {r : Int32 × xDt} (h : f_X11_withAgents F P S v0 v1 D = some r) : xSp md_X11_withAgents (0, 0, 0) [.int v0, .int v1] (S, D) (xQi S r) := by
  unfold f_X11_withAgents at h
  refine xEntry (by decide) (Nat.le_of_ble_eq_true rfl) ?_
  refine x_lv (lv' := [(0, .int v0), (1, .int v1)]) [0, 1] rfl ?_
  refine x_iload_n dX11_withAgents_0 0 rfl ?_
  refine x_iload_n dX11_withAgents_1 1 rfl ?_
  refine x_bipush 8 dX11_withAgents_2 (by decide) ?_
  refine x_ishl dX11_withAgents_4 ?_
  refine x_ior dX11_withAgents_5 ?_
  obtain rfl := Option.some.inj h
  exact y_iret rfl dX11_withAgents_6

theorem dX8_everyone_0 : decode cX8_everyone 0 = .ok (.iconst (-1), 1) := by decide +kernel
theorem dX8_everyone_1 : decode cX8_everyone 1 = .ok (.istore_n 3, 1) := by decide +kernel
theorem dX8_everyone_2 : decode cX8_everyone 2 = .ok (.iconst 0, 1) := by decide +kernel
theorem dX8_everyone_3 : decode cX8_everyone 3 = .ok (.istore 4, 2) := by decide +kernel
theorem dX8_everyone_5 : decode cX8_everyone 5 = .ok (.iload 4, 2) := by decide +kernel
theorem dX8_everyone_7 : decode cX8_everyone 7 = .ok (.iconst 4, 1) := by decide +kernel
theorem dX8_everyone_8 : decode cX8_everyone 8 = .ok (.if_icmp .ge 54, 3) := by decide +kernel
theorem dX8_everyone_11 : decode cX8_everyone 11 = .ok (.iload_n 1, 1) := by decide +kernel
theorem dX8_everyone_12 : decode cX8_everyone 12 = .ok (.iload 4, 2) := by decide +kernel
theorem dX8_everyone_14 : decode cX8_everyone 14 = .ok (.invokestatic 81, 3) := by decide +kernel
theorem dX8_everyone_17 : decode cX8_everyone 17 = .ok (.ifCond .eq 39, 3) := by decide +kernel
theorem dX8_everyone_20 : decode cX8_everyone 20 = .ok (.aload_n 0, 1) := by decide +kernel
theorem dX8_everyone_21 : decode cX8_everyone 21 = .ok (.bipush 75, 2) := by decide +kernel
theorem dX8_everyone_23 : decode cX8_everyone 23 = .ok (.iconst 1, 1) := by decide +kernel
theorem dX8_everyone_24 : decode cX8_everyone 24 = .ok (.iload 4, 2) := by decide +kernel
theorem dX8_everyone_26 : decode cX8_everyone 26 = .ok (.ishl, 1) := by decide +kernel
theorem dX8_everyone_27 : decode cX8_everyone 27 = .ok (.invokestatic 85, 3) := by decide +kernel
theorem dX8_everyone_30 : decode cX8_everyone 30 = .ok (.iload_n 2, 1) := by decide +kernel
theorem dX8_everyone_31 : decode cX8_everyone 31 = .ok (.iconst 0, 1) := by decide +kernel
theorem dX8_everyone_32 : decode cX8_everyone 32 = .ok (.invokevirtual 64, 3) := by decide +kernel
theorem dX8_everyone_35 : decode cX8_everyone 35 = .ok (.istore 5, 2) := by decide +kernel
theorem dX8_everyone_37 : decode cX8_everyone 37 = .ok (.iload_n 3, 1) := by decide +kernel
theorem dX8_everyone_38 : decode cX8_everyone 38 = .ok (.ifCond .ge 8, 3) := by decide +kernel
theorem dX8_everyone_41 : decode cX8_everyone 41 = .ok (.iload 5, 2) := by decide +kernel
theorem dX8_everyone_43 : decode cX8_everyone 43 = .ok (.goto 12, 3) := by decide +kernel
theorem dX8_everyone_46 : decode cX8_everyone 46 = .ok (.aload_n 0, 1) := by decide +kernel
theorem dX8_everyone_47 : decode cX8_everyone 47 = .ok (.bipush 38, 2) := by decide +kernel
theorem dX8_everyone_49 : decode cX8_everyone 49 = .ok (.iload_n 3, 1) := by decide +kernel
theorem dX8_everyone_50 : decode cX8_everyone 50 = .ok (.iload 5, 2) := by decide +kernel
theorem dX8_everyone_52 : decode cX8_everyone 52 = .ok (.invokevirtual 64, 3) := by decide +kernel
theorem dX8_everyone_55 : decode cX8_everyone 55 = .ok (.istore_n 3, 1) := by decide +kernel
theorem dX8_everyone_56 : decode cX8_everyone 56 = .ok (.iinc 4 1, 3) := by decide +kernel
theorem dX8_everyone_59 : decode cX8_everyone 59 = .ok (.goto (-54), 3) := by decide +kernel
theorem dX8_everyone_62 : decode cX8_everyone 62 = .ok (.iload_n 3, 1) := by decide +kernel
theorem dX8_everyone_63 : decode cX8_everyone 63 = .ok (.iconst 0, 1) := by decide +kernel
theorem dX8_everyone_64 : decode cX8_everyone 64 = .ok (.invokestatic 88, 3) := by decide +kernel
theorem dX8_everyone_67 : decode cX8_everyone 67 = .ok (.ireturn, 1) := by decide +kernel
def f_X8_everyone_56 (F P : Nat) (S : xSt) (rec_5 : Nat → Int32 → Int32 → Int32 → Int32 → xDt → Option (Int32 × xDt)) (v0 : Nat) (v1 : Int32) (v2 : Int32) (v3 : Int32) (v4 : Int32) (D : xDt) : Option (Int32 × xDt) :=
  xlet (v4 + 1) fun v4_1 => rec_5 v0 v1 v2 v3 v4_1 D
set_option maxHeartbeats 4000000 in
theorem t_X8_everyone_56 {F P : Nat} {S : xSt} (hS : xWF S) {rec_5 : Nat → Int32 → Int32 → Int32 → Int32 → xDt → Option (Int32 × xDt)} (hrec_5 : ∀ {v0 : Nat} {v1 : Int32} {v2 : Int32} {v3 : Int32} {v4 : Int32} {D : xDt} {r : Int32 × xDt}, xK S v0 8 → rec_5 v0 v1 v2 v3 v4 D = some r → yEx md_X8_everyone 2 5 [(0, .ref v0), (1, .int v1), (2, .int v2), (3, .int v3), (4, .int v4)] [] S D (xQi S r)) {v0 : Nat} {v1 : Int32} {v2 : Int32} {v3 : Int32} {v4 : Int32} {D : xDt} {r : Int32 × xDt} (k0 : xK S v0 8) (h : f_X8_everyone_56 F P S rec_5 v0 v1 v2 v3 v4 D = some r) : yEx md_X8_everyone 2 56 [(0, .ref v0), (1, .int v1), (2, .int v2), (3, .int v3), (4, .int v4)] [] S D (xQi S r) := by
  unfold f_X8_everyone_56 at h
  refine xlet_e h (fun v4_1 ev4_1 h => ?_)
  refine y_iinc v4_1 ev4_1 (by decide) [(4, .int v4_1), (0, .ref v0), (1, .int v1), (2, .int v2), (3, .int v3)] dX8_everyone_56 4 rfl (by show _ < 6; decide) rfl ?_
  refine x_goto 5 dX8_everyone_59 (by decide) ?_
  refine x_lv (lv' := [(0, .ref v0), (1, .int v1), (2, .int v2), (3, .int v3), (4, .int v4_1)]) [1, 2, 3, 4, 0] rfl ?_
  exact hrec_5 k0 h

def f_X8_everyone_55 (F P : Nat) (S : xSt) (rec_5 : Nat → Int32 → Int32 → Int32 → Int32 → xDt → Option (Int32 × xDt)) (v0 : Nat) (v1 : Int32) (v2 : Int32) (v4 : Int32) (s0 : Int32) (D : xDt) : Option (Int32 × xDt) :=
  f_X8_everyone_56 F P S rec_5 v0 v1 v2 s0 v4 D
set_option maxHeartbeats 4000000 in
theorem t_X8_everyone_55 {F P : Nat} {S : xSt} (hS : xWF S) {rec_5 : Nat → Int32 → Int32 → Int32 → Int32 → xDt → Option (Int32 × xDt)} (hrec_5 : ∀ {v0 : Nat} {v1 : Int32} {v2 : Int32} {v3 : Int32} {v4 : Int32} {D : xDt} {r : Int32 × xDt}, xK S v0 8 → rec_5 v0 v1 v2 v3 v4 D = some r → yEx md_X8_everyone 2 5 [(0, .ref v0), (1, .int v1), (2, .int v2), (3, .int v3), (4, .int v4)] [] S D (xQi S r)) {v0 : Nat} {v1 : Int32} {v2 : Int32} {v4 : Int32} {s0 : Int32} {D : xDt} {r : Int32 × xDt} (k0 : xK S v0 8) (h : f_X8_everyone_55 F P S rec_5 v0 v1 v2 v4 s0 D = some r) : yEx md_X8_everyone 2 55 [(0, .ref v0), (1, .int v1), (2, .int v2), (4, .int v4)] [.int s0] S D (xQi S r) := by
  unfold f_X8_everyone_55 at h
  refine y_istore_n s0 rfl [(3, .int s0), (0, .ref v0), (1, .int v1), (2, .int v2), (4, .int v4)] dX8_everyone_55 (by show _ < 6; decide) rfl ?_
  refine x_lv (lv' := [(0, .ref v0), (1, .int v1), (2, .int v2), (3, .int s0), (4, .int v4)]) [1, 2, 3, 0, 4] rfl ?_
  exact t_X8_everyone_56 hS hrec_5 k0 h

def f_X8_everyone_5s (F P : Nat) (S : xSt) (rec_5 : Nat → Int32 → Int32 → Int32 → Int32 → xDt → Option (Int32 × xDt)) (v0 : Nat) (v1 : Int32) (v2 : Int32) (v3 : Int32) (v4 : Int32) (D : xDt) : Option (Int32 × xDt) :=
  if 4 ≤ v4 then (some (jmax v3 0, D)) else ((f_X11_hasAgent F P S v1 v4 D).bind fun q1 => if q1.1 = 0 then (f_X8_everyone_56 F P S rec_5 v0 v1 v2 v3 v4 q1.2) else ((f_X11_withAgents F P S 75 (jishl 1 v4) q1.2).bind fun q2 => (f_X8_make F P S v0 q2.1 v2 0 q2.2).bind fun q3 => if 0 ≤ v3 then ((f_X8_make F P S v0 38 v3 q3.1 q3.2).bind fun q4 => f_X8_everyone_55 F P S rec_5 v0 v1 v2 v4 q4.1 q4.2) else (f_X8_everyone_55 F P S rec_5 v0 v1 v2 v4 q3.1 q3.2)))
def f_X8_everyone_5 (F P : Nat) (S : xSt) : Nat → Nat → Int32 → Int32 → Int32 → Int32 → xDt → Option (Int32 × xDt)
  | 0 => fun _ _ _ _ _ _ => none
  | n + 1 => f_X8_everyone_5s F P S (f_X8_everyone_5 F P S n)
set_option maxHeartbeats 4000000 in
theorem t_X8_everyone_5s {F P : Nat} {S : xSt} (hS : xWF S) {rec_5 : Nat → Int32 → Int32 → Int32 → Int32 → xDt → Option (Int32 × xDt)} (hrec_5 : ∀ {v0 : Nat} {v1 : Int32} {v2 : Int32} {v3 : Int32} {v4 : Int32} {D : xDt} {r : Int32 × xDt}, xK S v0 8 → rec_5 v0 v1 v2 v3 v4 D = some r → yEx md_X8_everyone 2 5 [(0, .ref v0), (1, .int v1), (2, .int v2), (3, .int v3), (4, .int v4)] [] S D (xQi S r)) {v0 : Nat} {v1 : Int32} {v2 : Int32} {v3 : Int32} {v4 : Int32} {D : xDt} {r : Int32 × xDt} (k0 : xK S v0 8) (h : f_X8_everyone_5s F P S rec_5 v0 v1 v2 v3 v4 D = some r) : yEx md_X8_everyone 2 5 [(0, .ref v0), (1, .int v1), (2, .int v2), (3, .int v3), (4, .int v4)] [] S D (xQi S r) := by
  unfold f_X8_everyone_5s at h
  refine x_iload dX8_everyone_5 4 rfl ?_
  refine x_iconst 4 dX8_everyone_7 (by decide) ?_
  refine x_icmp_ge 62 dX8_everyone_8 (by decide) (fun c => ?_) (fun c => ?_)
  · rw [if_pos c] at h
    refine x_iload_n dX8_everyone_62 3 rfl ?_
    refine x_iconst 0 dX8_everyone_63 (by decide) ?_
    refine y_max mm_RX8_88 dX8_everyone_64 (Nat.le_of_ble_eq_true rfl) (by omega) ?_
    obtain rfl := Option.some.inj h
    exact y_iret rfl dX8_everyone_67
  · rw [if_neg c] at h
    refine x_iload_n dX8_everyone_11 1 rfl ?_
    refine x_iload dX8_everyone_12 4 rfl ?_
    refine xbnd_e h (fun q1 e1 h => ?_)
    refine y_callNi (As := [.int v1, .int v4]) (q := q1) cn_RX8_81 dX8_everyone_14 rfl (Nat.le_of_ble_eq_true rfl) (by omega) (S_X11_hasAgent hS e1) ?_
    refine x_if_eq 56 dX8_everyone_17 (by decide) (fun c => ?_) (fun c => ?_)
    · rw [if_pos c] at h
      exact t_X8_everyone_56 hS hrec_5 k0 h
    · rw [if_neg c] at h
      refine x_aload_n dX8_everyone_20 0 rfl ?_
      refine x_bipush 75 dX8_everyone_21 (by decide) ?_
      refine x_iconst 1 dX8_everyone_23 (by decide) ?_
      refine x_iload dX8_everyone_24 4 rfl ?_
      refine x_ishl dX8_everyone_26 ?_
      refine xbnd_e h (fun q2 e2 h => ?_)
      refine y_callNi (As := [.int 75, .int (jishl 1 v4)]) (q := q2) cn_RX8_85 dX8_everyone_27 rfl (Nat.le_of_ble_eq_true rfl) (by omega) (S_X11_withAgents hS e2) ?_
      refine x_iload_n dX8_everyone_30 2 rfl ?_
      refine x_iconst 0 dX8_everyone_31 (by decide) ?_
      refine xbnd_e h (fun q3 e3 h => ?_)
      refine y_callVi (As := [.int q2.1, .int v2, .int 0]) (q := q3) cv_RX8_64 dX8_everyone_32 k0 rfl (Nat.le_of_ble_eq_true rfl) (by omega) (S_X8_make hS k0 e3) ?_
      refine y_istore q3.1 rfl [(5, .int q3.1), (0, .ref v0), (1, .int v1), (2, .int v2), (3, .int v3), (4, .int v4)] dX8_everyone_35 (by show _ < 6; decide) rfl ?_
      refine x_iload_n dX8_everyone_37 4 rfl ?_
      refine x_if_ge 46 dX8_everyone_38 (by decide) (fun c => ?_) (fun c => ?_)
      · rw [if_pos c] at h
        refine x_aload_n dX8_everyone_46 1 rfl ?_
        refine x_bipush 38 dX8_everyone_47 (by decide) ?_
        refine x_iload_n dX8_everyone_49 4 rfl ?_
        refine x_iload dX8_everyone_50 0 rfl ?_
        refine xbnd_e h (fun q4 e4 h => ?_)
        refine y_callVi (As := [.int 38, .int v3, .int q3.1]) (q := q4) cv_RX8_64 dX8_everyone_52 k0 rfl (Nat.le_of_ble_eq_true rfl) (by omega) (S_X8_make hS k0 e4) ?_
        refine x_lv (lv' := [(0, .ref v0), (1, .int v1), (2, .int v2), (4, .int v4)]) [1, 2, 3, 5] rfl ?_
        exact t_X8_everyone_55 hS hrec_5 k0 h
      · rw [if_neg c] at h
        refine x_iload dX8_everyone_41 0 rfl ?_
        refine x_goto 55 dX8_everyone_43 (by decide) ?_
        refine x_lv (lv' := [(0, .ref v0), (1, .int v1), (2, .int v2), (4, .int v4)]) [1, 2, 3, 5] rfl ?_
        exact t_X8_everyone_55 hS hrec_5 k0 h
theorem t_X8_everyone_5 {F P : Nat} {S : xSt} (hS : xWF S) : ∀ (n : Nat) {v0 : Nat} {v1 : Int32} {v2 : Int32} {v3 : Int32} {v4 : Int32} {D : xDt} {r : Int32 × xDt}, xK S v0 8 → f_X8_everyone_5 F P S n v0 v1 v2 v3 v4 D = some r → yEx md_X8_everyone 2 5 [(0, .ref v0), (1, .int v1), (2, .int v2), (3, .int v3), (4, .int v4)] [] S D (xQi S r) := by
  intro n
  induction n with
  | zero => intros; rename_i h; cases h
  | succ n ih =>
    intro v0 v1 v2 v3 v4 D r k0 h
    exact t_X8_everyone_5s hS (fun k0 h => ih k0 h) k0 h

def f_X8_everyone (F P : Nat) (S : xSt) (v0 : Nat) (v1 : Int32) (v2 : Int32) (D : xDt) : Option (Int32 × xDt) :=
  f_X8_everyone_5 F P S F v0 v1 v2 (-1) 0 D
set_option maxHeartbeats 4000000 in
theorem S_X8_everyone {F P : Nat} {S : xSt} (hS : xWF S) {v0 : Nat} {v1 : Int32} {v2 : Int32} {D : xDt} {r : Int32 × xDt} (k0 : xK S v0 8) (h : f_X8_everyone F P S v0 v1 v2 D = some r) : xSp md_X8_everyone (2, 0, 0) [.ref v0, .int v1, .int v2] (S, D) (xQi S r) := by
  unfold f_X8_everyone at h
  refine xEntry (by decide) (Nat.le_of_ble_eq_true rfl) ?_
  refine x_lv (lv' := [(0, .ref v0), (1, .int v1), (2, .int v2)]) [0, 1, 2] rfl ?_
  refine x_iconst (-1) dX8_everyone_0 (by decide) ?_
  refine y_istore_n (-1) rfl [(3, .int (-1)), (0, .ref v0), (1, .int v1), (2, .int v2)] dX8_everyone_1 (by show _ < 6; decide) rfl ?_
  refine x_iconst 0 dX8_everyone_2 (by decide) ?_
  refine y_istore 0 rfl [(4, .int 0), (3, .int (-1)), (0, .ref v0), (1, .int v1), (2, .int v2)] dX8_everyone_3 (by show _ < 6; decide) rfl ?_
  refine x_lv (lv' := [(0, .ref v0), (1, .int v1), (2, .int v2), (3, .int (-1)), (4, .int 0)]) [2, 3, 4, 1, 0] rfl ?_
  exact t_X8_everyone_5 hS F k0 h

theorem dX8_common_0 : decode cX8_common 0 = .ok (.aload_n 0, 1) := by decide +kernel
theorem dX8_common_1 : decode cX8_common 1 = .ok (.iload_n 1, 1) := by decide +kernel
theorem dX8_common_2 : decode cX8_common 2 = .ok (.iload_n 2, 1) := by decide +kernel
theorem dX8_common_3 : decode cX8_common 3 = .ok (.iconst 0, 1) := by decide +kernel
theorem dX8_common_4 : decode cX8_common 4 = .ok (.invokevirtual 64, 3) := by decide +kernel
theorem dX8_common_7 : decode cX8_common 7 = .ok (.istore_n 3, 1) := by decide +kernel
theorem dX8_common_8 : decode cX8_common 8 = .ok (.iconst 0, 1) := by decide +kernel
theorem dX8_common_9 : decode cX8_common 9 = .ok (.istore 4, 2) := by decide +kernel
theorem dX8_common_11 : decode cX8_common 11 = .ok (.iload 4, 2) := by decide +kernel
theorem dX8_common_13 : decode cX8_common 13 = .ok (.iconst 4, 1) := by decide +kernel
theorem dX8_common_14 : decode cX8_common 14 = .ok (.if_icmp .ge 34, 3) := by decide +kernel
theorem dX8_common_17 : decode cX8_common 17 = .ok (.iload_n 1, 1) := by decide +kernel
theorem dX8_common_18 : decode cX8_common 18 = .ok (.iload 4, 2) := by decide +kernel
theorem dX8_common_20 : decode cX8_common 20 = .ok (.invokestatic 81, 3) := by decide +kernel
theorem dX8_common_23 : decode cX8_common 23 = .ok (.ifCond .eq 19, 3) := by decide +kernel
theorem dX8_common_26 : decode cX8_common 26 = .ok (.aload_n 0, 1) := by decide +kernel
theorem dX8_common_27 : decode cX8_common 27 = .ok (.bipush 75, 2) := by decide +kernel
theorem dX8_common_29 : decode cX8_common 29 = .ok (.iconst 1, 1) := by decide +kernel
theorem dX8_common_30 : decode cX8_common 30 = .ok (.iload 4, 2) := by decide +kernel
theorem dX8_common_32 : decode cX8_common 32 = .ok (.ishl, 1) := by decide +kernel
theorem dX8_common_33 : decode cX8_common 33 = .ok (.invokestatic 85, 3) := by decide +kernel
theorem dX8_common_36 : decode cX8_common 36 = .ok (.iload_n 3, 1) := by decide +kernel
theorem dX8_common_37 : decode cX8_common 37 = .ok (.iconst 0, 1) := by decide +kernel
theorem dX8_common_38 : decode cX8_common 38 = .ok (.invokevirtual 64, 3) := by decide +kernel
theorem dX8_common_41 : decode cX8_common 41 = .ok (.pop, 1) := by decide +kernel
theorem dX8_common_42 : decode cX8_common 42 = .ok (.iinc 4 1, 3) := by decide +kernel
theorem dX8_common_45 : decode cX8_common 45 = .ok (.goto (-34), 3) := by decide +kernel
theorem dX8_common_48 : decode cX8_common 48 = .ok (.iload_n 3, 1) := by decide +kernel
theorem dX8_common_49 : decode cX8_common 49 = .ok (.ireturn, 1) := by decide +kernel
def f_X8_common_42 (F P : Nat) (S : xSt) (rec_11 : Nat → Int32 → Int32 → Int32 → xDt → Option (Int32 × xDt)) (v0 : Nat) (v1 : Int32) (v3 : Int32) (v4 : Int32) (D : xDt) : Option (Int32 × xDt) :=
  xlet (v4 + 1) fun v4_1 => rec_11 v0 v1 v3 v4_1 D
set_option maxHeartbeats 4000000 in
theorem t_X8_common_42 {F P : Nat} {S : xSt} (hS : xWF S) {rec_11 : Nat → Int32 → Int32 → Int32 → xDt → Option (Int32 × xDt)} (hrec_11 : ∀ {v0 : Nat} {v1 : Int32} {v3 : Int32} {v4 : Int32} {D : xDt} {r : Int32 × xDt}, xK S v0 8 → rec_11 v0 v1 v3 v4 D = some r → yEx md_X8_common 2 11 [(0, .ref v0), (1, .int v1), (3, .int v3), (4, .int v4)] [] S D (xQi S r)) {v0 : Nat} {v1 : Int32} {v3 : Int32} {v4 : Int32} {D : xDt} {r : Int32 × xDt} (k0 : xK S v0 8) (h : f_X8_common_42 F P S rec_11 v0 v1 v3 v4 D = some r) : yEx md_X8_common 2 42 [(0, .ref v0), (1, .int v1), (3, .int v3), (4, .int v4)] [] S D (xQi S r) := by
  unfold f_X8_common_42 at h
  refine xlet_e h (fun v4_1 ev4_1 h => ?_)
  refine y_iinc v4_1 ev4_1 (by decide) [(4, .int v4_1), (0, .ref v0), (1, .int v1), (3, .int v3)] dX8_common_42 3 rfl (by show _ < 5; decide) rfl ?_
  refine x_goto 11 dX8_common_45 (by decide) ?_
  refine x_lv (lv' := [(0, .ref v0), (1, .int v1), (3, .int v3), (4, .int v4_1)]) [1, 2, 3, 0] rfl ?_
  exact hrec_11 k0 h

def f_X8_common_11s (F P : Nat) (S : xSt) (rec_11 : Nat → Int32 → Int32 → Int32 → xDt → Option (Int32 × xDt)) (v0 : Nat) (v1 : Int32) (v3 : Int32) (v4 : Int32) (D : xDt) : Option (Int32 × xDt) :=
  if 4 ≤ v4 then (some (v3, D)) else ((f_X11_hasAgent F P S v1 v4 D).bind fun q1 => if q1.1 = 0 then (f_X8_common_42 F P S rec_11 v0 v1 v3 v4 q1.2) else ((f_X11_withAgents F P S 75 (jishl 1 v4) q1.2).bind fun q2 => (f_X8_make F P S v0 q2.1 v3 0 q2.2).bind fun q3 => f_X8_common_42 F P S rec_11 v0 v1 v3 v4 q3.2))
def f_X8_common_11 (F P : Nat) (S : xSt) : Nat → Nat → Int32 → Int32 → Int32 → xDt → Option (Int32 × xDt)
  | 0 => fun _ _ _ _ _ => none
  | n + 1 => f_X8_common_11s F P S (f_X8_common_11 F P S n)
set_option maxHeartbeats 4000000 in
theorem t_X8_common_11s {F P : Nat} {S : xSt} (hS : xWF S) {rec_11 : Nat → Int32 → Int32 → Int32 → xDt → Option (Int32 × xDt)} (hrec_11 : ∀ {v0 : Nat} {v1 : Int32} {v3 : Int32} {v4 : Int32} {D : xDt} {r : Int32 × xDt}, xK S v0 8 → rec_11 v0 v1 v3 v4 D = some r → yEx md_X8_common 2 11 [(0, .ref v0), (1, .int v1), (3, .int v3), (4, .int v4)] [] S D (xQi S r)) {v0 : Nat} {v1 : Int32} {v3 : Int32} {v4 : Int32} {D : xDt} {r : Int32 × xDt} (k0 : xK S v0 8) (h : f_X8_common_11s F P S rec_11 v0 v1 v3 v4 D = some r) : yEx md_X8_common 2 11 [(0, .ref v0), (1, .int v1), (3, .int v3), (4, .int v4)] [] S D (xQi S r) := by
  unfold f_X8_common_11s at h
  refine x_iload dX8_common_11 3 rfl ?_
  refine x_iconst 4 dX8_common_13 (by decide) ?_
  refine x_icmp_ge 48 dX8_common_14 (by decide) (fun c => ?_) (fun c => ?_)
  · rw [if_pos c] at h
    refine x_iload_n dX8_common_48 2 rfl ?_
    obtain rfl := Option.some.inj h
    exact y_iret rfl dX8_common_49
  · rw [if_neg c] at h
    refine x_iload_n dX8_common_17 1 rfl ?_
    refine x_iload dX8_common_18 3 rfl ?_
    refine xbnd_e h (fun q1 e1 h => ?_)
    refine y_callNi (As := [.int v1, .int v4]) (q := q1) cn_RX8_81 dX8_common_20 rfl (Nat.le_of_ble_eq_true rfl) (by omega) (S_X11_hasAgent hS e1) ?_
    refine x_if_eq 42 dX8_common_23 (by decide) (fun c => ?_) (fun c => ?_)
    · rw [if_pos c] at h
      exact t_X8_common_42 hS hrec_11 k0 h
    · rw [if_neg c] at h
      refine x_aload_n dX8_common_26 0 rfl ?_
      refine x_bipush 75 dX8_common_27 (by decide) ?_
      refine x_iconst 1 dX8_common_29 (by decide) ?_
      refine x_iload dX8_common_30 3 rfl ?_
      refine x_ishl dX8_common_32 ?_
      refine xbnd_e h (fun q2 e2 h => ?_)
      refine y_callNi (As := [.int 75, .int (jishl 1 v4)]) (q := q2) cn_RX8_85 dX8_common_33 rfl (Nat.le_of_ble_eq_true rfl) (by omega) (S_X11_withAgents hS e2) ?_
      refine x_iload_n dX8_common_36 2 rfl ?_
      refine x_iconst 0 dX8_common_37 (by decide) ?_
      refine xbnd_e h (fun q3 e3 h => ?_)
      refine y_callVi (As := [.int q2.1, .int v3, .int 0]) (q := q3) cv_RX8_64 dX8_common_38 k0 rfl (Nat.le_of_ble_eq_true rfl) (by omega) (S_X8_make hS k0 e3) ?_
      refine x_pop dX8_common_41 rfl ?_
      exact t_X8_common_42 hS hrec_11 k0 h
theorem t_X8_common_11 {F P : Nat} {S : xSt} (hS : xWF S) : ∀ (n : Nat) {v0 : Nat} {v1 : Int32} {v3 : Int32} {v4 : Int32} {D : xDt} {r : Int32 × xDt}, xK S v0 8 → f_X8_common_11 F P S n v0 v1 v3 v4 D = some r → yEx md_X8_common 2 11 [(0, .ref v0), (1, .int v1), (3, .int v3), (4, .int v4)] [] S D (xQi S r) := by
  intro n
  induction n with
  | zero => intros; rename_i h; cases h
  | succ n ih =>
    intro v0 v1 v3 v4 D r k0 h
    exact t_X8_common_11s hS (fun k0 h => ih k0 h) k0 h

def f_X8_common (F P : Nat) (S : xSt) (v0 : Nat) (v1 : Int32) (v2 : Int32) (D : xDt) : Option (Int32 × xDt) :=
  (f_X8_make F P S v0 v1 v2 0 D).bind fun q1 => f_X8_common_11 F P S F v0 v1 q1.1 0 q1.2
set_option maxHeartbeats 4000000 in
theorem S_X8_common {F P : Nat} {S : xSt} (hS : xWF S) {v0 : Nat} {v1 : Int32} {v2 : Int32} {D : xDt} {r : Int32 × xDt} (k0 : xK S v0 8) (h : f_X8_common F P S v0 v1 v2 D = some r) : xSp md_X8_common (2, 0, 0) [.ref v0, .int v1, .int v2] (S, D) (xQi S r) := by
  unfold f_X8_common at h
  refine xEntry (by decide) (Nat.le_of_ble_eq_true rfl) ?_
  refine x_lv (lv' := [(0, .ref v0), (1, .int v1), (2, .int v2)]) [0, 1, 2] rfl ?_
  refine x_aload_n dX8_common_0 0 rfl ?_
  refine x_iload_n dX8_common_1 1 rfl ?_
  refine x_iload_n dX8_common_2 2 rfl ?_
  refine x_iconst 0 dX8_common_3 (by decide) ?_
  refine xbnd_e h (fun q1 e1 h => ?_)
  refine y_callVi (As := [.int v1, .int v2, .int 0]) (q := q1) cv_RX8_64 dX8_common_4 k0 rfl (Nat.le_of_ble_eq_true rfl) (by omega) (S_X8_make hS k0 e1) ?_
  refine y_istore_n q1.1 rfl [(3, .int q1.1), (0, .ref v0), (1, .int v1), (2, .int v2)] dX8_common_7 (by show _ < 5; decide) rfl ?_
  refine x_iconst 0 dX8_common_8 (by decide) ?_
  refine y_istore 0 rfl [(4, .int 0), (3, .int q1.1), (0, .ref v0), (1, .int v1), (2, .int v2)] dX8_common_9 (by show _ < 5; decide) rfl ?_
  refine x_lv (lv' := [(0, .ref v0), (1, .int v1), (3, .int q1.1), (4, .int 0)]) [2, 3, 1, 0] rfl ?_
  exact t_X8_common_11 hS F k0 h

theorem dX8_single_0 : decode cX8_single 0 = .ok (.iload_n 1, 1) := by decide +kernel
theorem dX8_single_1 : decode cX8_single 1 = .ok (.invokestatic 56, 3) := by decide +kernel
theorem dX8_single_4 : decode cX8_single 4 = .ok (.lookupswitch 73 #[(67, 57), (80, 36), (126, 64)], 36) := by decide +kernel
theorem dX8_single_40 : decode cX8_single 40 = .ok (.aload_n 0, 1) := by decide +kernel
theorem dX8_single_41 : decode cX8_single 41 = .ok (.bipush 126, 2) := by decide +kernel
theorem dX8_single_43 : decode cX8_single 43 = .ok (.aload_n 0, 1) := by decide +kernel
theorem dX8_single_44 : decode cX8_single 44 = .ok (.iload_n 1, 1) := by decide +kernel
theorem dX8_single_45 : decode cX8_single 45 = .ok (.aload_n 0, 1) := by decide +kernel
theorem dX8_single_46 : decode cX8_single 46 = .ok (.bipush 126, 2) := by decide +kernel
theorem dX8_single_48 : decode cX8_single 48 = .ok (.iload_n 2, 1) := by decide +kernel
theorem dX8_single_49 : decode cX8_single 49 = .ok (.iconst 0, 1) := by decide +kernel
theorem dX8_single_50 : decode cX8_single 50 = .ok (.invokevirtual 64, 3) := by decide +kernel
theorem dX8_single_53 : decode cX8_single 53 = .ok (.invokevirtual 75, 3) := by decide +kernel
theorem dX8_single_56 : decode cX8_single 56 = .ok (.iconst 0, 1) := by decide +kernel
theorem dX8_single_57 : decode cX8_single 57 = .ok (.invokevirtual 64, 3) := by decide +kernel
theorem dX8_single_60 : decode cX8_single 60 = .ok (.ireturn, 1) := by decide +kernel
theorem dX8_single_61 : decode cX8_single 61 = .ok (.aload_n 0, 1) := by decide +kernel
theorem dX8_single_62 : decode cX8_single 62 = .ok (.iload_n 1, 1) := by decide +kernel
theorem dX8_single_63 : decode cX8_single 63 = .ok (.iload_n 2, 1) := by decide +kernel
theorem dX8_single_64 : decode cX8_single 64 = .ok (.invokevirtual 78, 3) := by decide +kernel
theorem dX8_single_67 : decode cX8_single 67 = .ok (.ireturn, 1) := by decide +kernel
theorem dX8_single_68 : decode cX8_single 68 = .ok (.aload_n 0, 1) := by decide +kernel
theorem dX8_single_69 : decode cX8_single 69 = .ok (.bipush 126, 2) := by decide +kernel
theorem dX8_single_71 : decode cX8_single 71 = .ok (.iload_n 2, 1) := by decide +kernel
theorem dX8_single_72 : decode cX8_single 72 = .ok (.iconst 0, 1) := by decide +kernel
theorem dX8_single_73 : decode cX8_single 73 = .ok (.invokevirtual 64, 3) := by decide +kernel
theorem dX8_single_76 : decode cX8_single 76 = .ok (.ireturn, 1) := by decide +kernel
theorem dX8_single_77 : decode cX8_single 77 = .ok (.aload_n 0, 1) := by decide +kernel
theorem dX8_single_78 : decode cX8_single 78 = .ok (.iload_n 1, 1) := by decide +kernel
theorem dX8_single_79 : decode cX8_single 79 = .ok (.iload_n 2, 1) := by decide +kernel
theorem dX8_single_80 : decode cX8_single 80 = .ok (.invokevirtual 75, 3) := by decide +kernel
theorem dX8_single_83 : decode cX8_single 83 = .ok (.ireturn, 1) := by decide +kernel
def f_X8_single (F P : Nat) (S : xSt) (v0 : Nat) (v1 : Int32) (v2 : Int32) (D : xDt) : Option (Int32 × xDt) :=
  (f_X11_signOf F P S v1 D).bind fun q1 => if q1.1 = 67 then ((f_X8_common F P S v0 v1 v2 q1.2).bind fun q2 => some (q2.1, q2.2)) else (if q1.1 = 80 then ((f_X8_make F P S v0 126 v2 0 q1.2).bind fun q3 => (f_X8_everyone F P S v0 v1 q3.1 q3.2).bind fun q4 => (f_X8_make F P S v0 126 q4.1 0 q4.2).bind fun q5 => some (q5.1, q5.2)) else (if q1.1 = 126 then ((f_X8_make F P S v0 126 v2 0 q1.2).bind fun q6 => some (q6.1, q6.2)) else ((f_X8_everyone F P S v0 v1 v2 q1.2).bind fun q7 => some (q7.1, q7.2))))
set_option maxHeartbeats 4000000 in
theorem S_X8_single {F P : Nat} {S : xSt} (hS : xWF S) {v0 : Nat} {v1 : Int32} {v2 : Int32} {D : xDt} {r : Int32 × xDt} (k0 : xK S v0 8) (h : f_X8_single F P S v0 v1 v2 D = some r) : xSp md_X8_single (3, 0, 0) [.ref v0, .int v1, .int v2] (S, D) (xQi S r) := by
  unfold f_X8_single at h
  refine xEntry (by decide) (Nat.le_of_ble_eq_true rfl) ?_
  refine x_lv (lv' := [(0, .ref v0), (1, .int v1), (2, .int v2)]) [0, 1, 2] rfl ?_
  refine x_iload_n dX8_single_0 1 rfl ?_
  refine xbnd_e h (fun q1 e1 h => ?_)
  refine y_callNi (As := [.int v1]) (q := q1) cn_RX8_56 dX8_single_1 rfl (Nat.le_of_ble_eq_true rfl) (by omega) (S_X11_signOf hS e1) ?_
  by_cases c0 : q1.1 = 67
  · rw [if_pos c0] at h
    refine x_ls 61 dX8_single_4 (by decide) (by rw [c0]) (by decide) ?_
    refine x_aload_n dX8_single_61 0 rfl ?_
    refine x_iload_n dX8_single_62 1 rfl ?_
    refine x_iload_n dX8_single_63 2 rfl ?_
    refine xbnd_e h (fun q2 e2 h => ?_)
    refine y_callVi (As := [.int v1, .int v2]) (q := q2) cv_RX8_78 dX8_single_64 k0 rfl (Nat.le_of_ble_eq_true rfl) (by omega) (S_X8_common hS k0 e2) ?_
    obtain rfl := Option.some.inj h
    exact y_iret rfl dX8_single_67
  · rw [if_neg c0] at h
    by_cases c1 : q1.1 = 80
    · rw [if_pos c1] at h
      refine x_ls 40 dX8_single_4 (by decide) (by rw [c1]) (by decide) ?_
      refine x_aload_n dX8_single_40 0 rfl ?_
      refine x_bipush 126 dX8_single_41 (by decide) ?_
      refine x_aload_n dX8_single_43 0 rfl ?_
      refine x_iload_n dX8_single_44 1 rfl ?_
      refine x_aload_n dX8_single_45 0 rfl ?_
      refine x_bipush 126 dX8_single_46 (by decide) ?_
      refine x_iload_n dX8_single_48 2 rfl ?_
      refine x_iconst 0 dX8_single_49 (by decide) ?_
      refine xbnd_e h (fun q3 e3 h => ?_)
      refine y_callVi (As := [.int 126, .int v2, .int 0]) (q := q3) cv_RX8_64 dX8_single_50 k0 rfl (Nat.le_of_ble_eq_true rfl) (by omega) (S_X8_make hS k0 e3) ?_
      refine xbnd_e h (fun q4 e4 h => ?_)
      refine y_callVi (As := [.int v1, .int q3.1]) (q := q4) cv_RX8_75 dX8_single_53 k0 rfl (Nat.le_of_ble_eq_true rfl) (by omega) (S_X8_everyone hS k0 e4) ?_
      refine x_iconst 0 dX8_single_56 (by decide) ?_
      refine xbnd_e h (fun q5 e5 h => ?_)
      refine y_callVi (As := [.int 126, .int q4.1, .int 0]) (q := q5) cv_RX8_64 dX8_single_57 k0 rfl (Nat.le_of_ble_eq_true rfl) (by omega) (S_X8_make hS k0 e5) ?_
      obtain rfl := Option.some.inj h
      exact y_iret rfl dX8_single_60
    · rw [if_neg c1] at h
      by_cases c2 : q1.1 = 126
      · rw [if_pos c2] at h
        refine x_ls 68 dX8_single_4 (by decide) (by rw [c2]) (by decide) ?_
        refine x_aload_n dX8_single_68 0 rfl ?_
        refine x_bipush 126 dX8_single_69 (by decide) ?_
        refine x_iload_n dX8_single_71 2 rfl ?_
        refine x_iconst 0 dX8_single_72 (by decide) ?_
        refine xbnd_e h (fun q6 e6 h => ?_)
        refine y_callVi (As := [.int 126, .int v2, .int 0]) (q := q6) cv_RX8_64 dX8_single_73 k0 rfl (Nat.le_of_ble_eq_true rfl) (by omega) (S_X8_make hS k0 e6) ?_
        obtain rfl := Option.some.inj h
        exact y_iret rfl dX8_single_76
      · rw [if_neg c2] at h
        refine x_ls (off := 73) 77 dX8_single_4 (by decide) ((lv_osw c0 (by decide)).trans ((lv_osw c1 (by decide)).trans ((lv_osw c2 (by decide)).trans rfl))) (by decide) ?_
        refine x_aload_n dX8_single_77 0 rfl ?_
        refine x_iload_n dX8_single_78 1 rfl ?_
        refine x_iload_n dX8_single_79 2 rfl ?_
        refine xbnd_e h (fun q7 e7 h => ?_)
        refine y_callVi (As := [.int v1, .int v2]) (q := q7) cv_RX8_75 dX8_single_80 k0 rfl (Nat.le_of_ble_eq_true rfl) (by omega) (S_X8_everyone hS k0 e7) ?_
        obtain rfl := Option.some.inj h
        exact y_iret rfl dX8_single_83

theorem dX8_build_0 : decode cX8_build 0 = .ok (.aload_n 0, 1) := by decide +kernel
theorem dX8_build_1 : decode cX8_build 1 = .ok (.iconst 0, 1) := by decide +kernel
theorem dX8_build_2 : decode cX8_build 2 = .ok (.putfield 33, 3) := by decide +kernel
theorem dX8_build_5 : decode cX8_build 5 = .ok (.aload_n 0, 1) := by decide +kernel
theorem dX8_build_6 : decode cX8_build 6 = .ok (.iconst 0, 1) := by decide +kernel
theorem dX8_build_7 : decode cX8_build 7 = .ok (.putfield 37, 3) := by decide +kernel
theorem dX8_build_10 : decode cX8_build 10 = .ok (.aload_n 0, 1) := by decide +kernel
theorem dX8_build_11 : decode cX8_build 11 = .ok (.iconst 0, 1) := by decide +kernel
theorem dX8_build_12 : decode cX8_build 12 = .ok (.putfield 40, 3) := by decide +kernel
theorem dX8_build_15 : decode cX8_build 15 = .ok (.aload_n 0, 1) := by decide +kernel
theorem dX8_build_16 : decode cX8_build 16 = .ok (.getfield 27, 3) := by decide +kernel
theorem dX8_build_19 : decode cX8_build 19 = .ok (.iconst 0, 1) := by decide +kernel
theorem dX8_build_20 : decode cX8_build 20 = .ok (.invokestatic 44, 3) := by decide +kernel
theorem dX8_build_23 : decode cX8_build 23 = .ok (.iconst 0, 1) := by decide +kernel
theorem dX8_build_24 : decode cX8_build 24 = .ok (.istore_n 2, 1) := by decide +kernel
theorem dX8_build_25 : decode cX8_build 25 = .ok (.aload_n 1, 1) := by decide +kernel
theorem dX8_build_26 : decode cX8_build 26 = .ok (.getfield 50, 3) := by decide +kernel
theorem dX8_build_29 : decode cX8_build 29 = .ok (.iconst 1, 1) := by decide +kernel
theorem dX8_build_30 : decode cX8_build 30 = .ok (.isub, 1) := by decide +kernel
theorem dX8_build_31 : decode cX8_build 31 = .ok (.istore_n 3, 1) := by decide +kernel
theorem dX8_build_32 : decode cX8_build 32 = .ok (.iload_n 3, 1) := by decide +kernel
theorem dX8_build_33 : decode cX8_build 33 = .ok (.ifCond .lt 142, 3) := by decide +kernel
theorem dX8_build_36 : decode cX8_build 36 = .ok (.aload_n 0, 1) := by decide +kernel
theorem dX8_build_37 : decode cX8_build 37 = .ok (.getfield 40, 3) := by decide +kernel
theorem dX8_build_40 : decode cX8_build 40 = .ok (.ifCond .ne 135, 3) := by decide +kernel
theorem dX8_build_43 : decode cX8_build 43 = .ok (.aload_n 1, 1) := by decide +kernel
theorem dX8_build_44 : decode cX8_build 44 = .ok (.getfield 53, 3) := by decide +kernel
theorem dX8_build_47 : decode cX8_build 47 = .ok (.iload_n 3, 1) := by decide +kernel
theorem dX8_build_48 : decode cX8_build 48 = .ok (.iaload, 1) := by decide +kernel
theorem dX8_build_49 : decode cX8_build 49 = .ok (.istore 4, 2) := by decide +kernel
theorem dX8_build_51 : decode cX8_build 51 = .ok (.iload 4, 2) := by decide +kernel
theorem dX8_build_53 : decode cX8_build 53 = .ok (.invokestatic 56, 3) := by decide +kernel
theorem dX8_build_56 : decode cX8_build 56 = .ok (.istore 5, 2) := by decide +kernel
theorem dX8_build_58 : decode cX8_build 58 = .ok (.iload 5, 2) := by decide +kernel
theorem dX8_build_60 : decode cX8_build 60 = .ok (.invokestatic 60, 3) := by decide +kernel
theorem dX8_build_63 : decode cX8_build 63 = .ok (.ifCond .eq 32, 3) := by decide +kernel
theorem dX8_build_66 : decode cX8_build 66 = .ok (.iload_n 2, 1) := by decide +kernel
theorem dX8_build_67 : decode cX8_build 67 = .ok (.aload_n 0, 1) := by decide +kernel
theorem dX8_build_68 : decode cX8_build 68 = .ok (.getfield 30, 3) := by decide +kernel
theorem dX8_build_71 : decode cX8_build 71 = .ok (.arraylength, 1) := by decide +kernel
theorem dX8_build_72 : decode cX8_build 72 = .ok (.if_icmp .ge 23, 3) := by decide +kernel
theorem dX8_build_75 : decode cX8_build 75 = .ok (.aload_n 0, 1) := by decide +kernel
theorem dX8_build_76 : decode cX8_build 76 = .ok (.getfield 30, 3) := by decide +kernel
theorem dX8_build_79 : decode cX8_build 79 = .ok (.iload_n 2, 1) := by decide +kernel
theorem dX8_build_80 : decode cX8_build 80 = .ok (.iinc 2 1, 3) := by decide +kernel
theorem dX8_build_83 : decode cX8_build 83 = .ok (.aload_n 0, 1) := by decide +kernel
theorem dX8_build_84 : decode cX8_build 84 = .ok (.iload 4, 2) := by decide +kernel
theorem dX8_build_86 : decode cX8_build 86 = .ok (.iconst 0, 1) := by decide +kernel
theorem dX8_build_87 : decode cX8_build 87 = .ok (.iconst 0, 1) := by decide +kernel
theorem dX8_build_88 : decode cX8_build 88 = .ok (.invokevirtual 64, 3) := by decide +kernel
theorem dX8_build_91 : decode cX8_build 91 = .ok (.iastore, 1) := by decide +kernel
theorem dX8_build_92 : decode cX8_build 92 = .ok (.goto 77, 3) := by decide +kernel
theorem dX8_build_95 : decode cX8_build 95 = .ok (.iload 5, 2) := by decide +kernel
theorem dX8_build_97 : decode cX8_build 97 = .ok (.invokestatic 68, 3) := by decide +kernel
theorem dX8_build_100 : decode cX8_build 100 = .ok (.ifCond .eq 42, 3) := by decide +kernel
theorem dX8_build_103 : decode cX8_build 103 = .ok (.iload_n 2, 1) := by decide +kernel
theorem dX8_build_104 : decode cX8_build 104 = .ok (.iconst 2, 1) := by decide +kernel
theorem dX8_build_105 : decode cX8_build 105 = .ok (.if_icmp .lt 37, 3) := by decide +kernel
theorem dX8_build_108 : decode cX8_build 108 = .ok (.iinc 2 (-1), 3) := by decide +kernel
theorem dX8_build_111 : decode cX8_build 111 = .ok (.aload_n 0, 1) := by decide +kernel
theorem dX8_build_112 : decode cX8_build 112 = .ok (.getfield 30, 3) := by decide +kernel
theorem dX8_build_115 : decode cX8_build 115 = .ok (.iload_n 2, 1) := by decide +kernel
theorem dX8_build_116 : decode cX8_build 116 = .ok (.iconst 1, 1) := by decide +kernel
theorem dX8_build_117 : decode cX8_build 117 = .ok (.isub, 1) := by decide +kernel
theorem dX8_build_118 : decode cX8_build 118 = .ok (.aload_n 0, 1) := by decide +kernel
theorem dX8_build_119 : decode cX8_build 119 = .ok (.iload 4, 2) := by decide +kernel
theorem dX8_build_121 : decode cX8_build 121 = .ok (.aload_n 0, 1) := by decide +kernel
theorem dX8_build_122 : decode cX8_build 122 = .ok (.getfield 30, 3) := by decide +kernel
theorem dX8_build_125 : decode cX8_build 125 = .ok (.iload_n 2, 1) := by decide +kernel
theorem dX8_build_126 : decode cX8_build 126 = .ok (.iaload, 1) := by decide +kernel
theorem dX8_build_127 : decode cX8_build 127 = .ok (.aload_n 0, 1) := by decide +kernel
theorem dX8_build_128 : decode cX8_build 128 = .ok (.getfield 30, 3) := by decide +kernel
theorem dX8_build_131 : decode cX8_build 131 = .ok (.iload_n 2, 1) := by decide +kernel
theorem dX8_build_132 : decode cX8_build 132 = .ok (.iconst 1, 1) := by decide +kernel
theorem dX8_build_133 : decode cX8_build 133 = .ok (.isub, 1) := by decide +kernel
theorem dX8_build_134 : decode cX8_build 134 = .ok (.iaload, 1) := by decide +kernel
theorem dX8_build_135 : decode cX8_build 135 = .ok (.invokevirtual 64, 3) := by decide +kernel
theorem dX8_build_138 : decode cX8_build 138 = .ok (.iastore, 1) := by decide +kernel
theorem dX8_build_139 : decode cX8_build 139 = .ok (.goto 30, 3) := by decide +kernel
theorem dX8_build_142 : decode cX8_build 142 = .ok (.iload_n 2, 1) := by decide +kernel
theorem dX8_build_143 : decode cX8_build 143 = .ok (.iconst 1, 1) := by decide +kernel
theorem dX8_build_144 : decode cX8_build 144 = .ok (.if_icmp .lt 25, 3) := by decide +kernel
theorem dX8_build_147 : decode cX8_build 147 = .ok (.aload_n 0, 1) := by decide +kernel
theorem dX8_build_148 : decode cX8_build 148 = .ok (.getfield 30, 3) := by decide +kernel
theorem dX8_build_151 : decode cX8_build 151 = .ok (.iload_n 2, 1) := by decide +kernel
theorem dX8_build_152 : decode cX8_build 152 = .ok (.iconst 1, 1) := by decide +kernel
theorem dX8_build_153 : decode cX8_build 153 = .ok (.isub, 1) := by decide +kernel
theorem dX8_build_154 : decode cX8_build 154 = .ok (.aload_n 0, 1) := by decide +kernel
theorem dX8_build_155 : decode cX8_build 155 = .ok (.iload 4, 2) := by decide +kernel
theorem dX8_build_157 : decode cX8_build 157 = .ok (.aload_n 0, 1) := by decide +kernel
theorem dX8_build_158 : decode cX8_build 158 = .ok (.getfield 30, 3) := by decide +kernel
theorem dX8_build_161 : decode cX8_build 161 = .ok (.iload_n 2, 1) := by decide +kernel
theorem dX8_build_162 : decode cX8_build 162 = .ok (.iconst 1, 1) := by decide +kernel
theorem dX8_build_163 : decode cX8_build 163 = .ok (.isub, 1) := by decide +kernel
theorem dX8_build_164 : decode cX8_build 164 = .ok (.iaload, 1) := by decide +kernel
theorem dX8_build_165 : decode cX8_build 165 = .ok (.invokevirtual 71, 3) := by decide +kernel
theorem dX8_build_168 : decode cX8_build 168 = .ok (.iastore, 1) := by decide +kernel
theorem dX8_build_169 : decode cX8_build 169 = .ok (.iinc 3 (-1), 3) := by decide +kernel
theorem dX8_build_172 : decode cX8_build 172 = .ok (.goto (-140), 3) := by decide +kernel
theorem dX8_build_175 : decode cX8_build 175 = .ok (.aload_n 0, 1) := by decide +kernel
theorem dX8_build_176 : decode cX8_build 176 = .ok (.getfield 30, 3) := by decide +kernel
theorem dX8_build_179 : decode cX8_build 179 = .ok (.iconst 0, 1) := by decide +kernel
theorem dX8_build_180 : decode cX8_build 180 = .ok (.iaload, 1) := by decide +kernel
theorem dX8_build_181 : decode cX8_build 181 = .ok (.ireturn, 1) := by decide +kernel
def f_X8_build_169 (F P : Nat) (S : xSt) (rec_32 : Nat → Nat → Int32 → Int32 → xDt → Option (Int32 × xDt)) (v0 : Nat) (v1 : Nat) (v2 : Int32) (v3 : Int32) (D : xDt) : Option (Int32 × xDt) :=
  xlet (v3 + (-1)) fun v3_1 => rec_32 v0 v1 v2 v3_1 D
set_option maxHeartbeats 4000000 in
theorem t_X8_build_169 {F P : Nat} {S : xSt} (hS : xWF S) {rec_32 : Nat → Nat → Int32 → Int32 → xDt → Option (Int32 × xDt)} (hrec_32 : ∀ {v0 : Nat} {v1 : Nat} {v2 : Int32} {v3 : Int32} {D : xDt} {r : Int32 × xDt}, xK S v0 8 → xK S v1 2 → rec_32 v0 v1 v2 v3 D = some r → yEx md_X8_build 4 32 [(0, .ref v0), (1, .ref v1), (2, .int v2), (3, .int v3)] [] S D (xQi S r)) {v0 : Nat} {v1 : Nat} {v2 : Int32} {v3 : Int32} {D : xDt} {r : Int32 × xDt} (k0 : xK S v0 8) (k1 : xK S v1 2) (h : f_X8_build_169 F P S rec_32 v0 v1 v2 v3 D = some r) : yEx md_X8_build 4 169 [(0, .ref v0), (1, .ref v1), (2, .int v2), (3, .int v3)] [] S D (xQi S r) := by
  unfold f_X8_build_169 at h
  refine xlet_e h (fun v3_1 ev3_1 h => ?_)
  refine y_iinc v3_1 ev3_1 (by decide) [(3, .int v3_1), (0, .ref v0), (1, .ref v1), (2, .int v2)] dX8_build_169 3 rfl (by show _ < 6; decide) rfl ?_
  refine x_goto 32 dX8_build_172 (by decide) ?_
  refine x_lv (lv' := [(0, .ref v0), (1, .ref v1), (2, .int v2), (3, .int v3_1)]) [1, 2, 3, 0] rfl ?_
  exact hrec_32 k0 k1 h

def f_X8_build_142 (F P : Nat) (S : xSt) (rec_32 : Nat → Nat → Int32 → Int32 → xDt → Option (Int32 × xDt)) (v0 : Nat) (v1 : Nat) (v2 : Int32) (v3 : Int32) (v4 : Int32) (D : xDt) : Option (Int32 × xDt) :=
  if v2 < 1 then (f_X8_build_169 F P S rec_32 v0 v1 v2 v3 D) else (xgrd (xin (v2 - 1) (xl S (xr S v0 6))) ((f_X8_single F P S v0 v4 (D.1 (xr S v0 6) (v2 - 1).toNatClampNeg) D).bind fun q2 => xgrd (xin (v2 - 1) (xl S (xr S v0 6))) (xlet (xup q2.2.1 (xr S v0 6) (v2 - 1).toNatClampNeg q2.1, q2.2.2) fun D4 => f_X8_build_169 F P S rec_32 v0 v1 v2 v3 D4)))
set_option maxHeartbeats 4000000 in
theorem t_X8_build_142 {F P : Nat} {S : xSt} (hS : xWF S) {rec_32 : Nat → Nat → Int32 → Int32 → xDt → Option (Int32 × xDt)} (hrec_32 : ∀ {v0 : Nat} {v1 : Nat} {v2 : Int32} {v3 : Int32} {D : xDt} {r : Int32 × xDt}, xK S v0 8 → xK S v1 2 → rec_32 v0 v1 v2 v3 D = some r → yEx md_X8_build 4 32 [(0, .ref v0), (1, .ref v1), (2, .int v2), (3, .int v3)] [] S D (xQi S r)) {v0 : Nat} {v1 : Nat} {v2 : Int32} {v3 : Int32} {v4 : Int32} {D : xDt} {r : Int32 × xDt} (k0 : xK S v0 8) (k1 : xK S v1 2) (h : f_X8_build_142 F P S rec_32 v0 v1 v2 v3 v4 D = some r) : yEx md_X8_build 4 142 [(0, .ref v0), (1, .ref v1), (2, .int v2), (3, .int v3), (4, .int v4)] [] S D (xQi S r) := by
  unfold f_X8_build_142 at h
  refine x_iload_n dX8_build_142 2 rfl ?_
  refine x_iconst 1 dX8_build_143 (by decide) ?_
  refine x_icmp_lt 169 dX8_build_144 (by decide) (fun c => ?_) (fun c => ?_)
  · rw [if_pos c] at h
    refine x_lv (lv' := [(0, .ref v0), (1, .ref v1), (2, .int v2), (3, .int v3)]) [0, 1, 2, 3] rfl ?_
    exact t_X8_build_169 hS hrec_32 k0 k1 h
  · rw [if_neg c] at h
    refine x_aload_n dX8_build_147 0 rfl ?_
    refine y_getr (kd := 100) hS fl_RX8_30 dX8_build_148 rfl k0 ?_
    refine x_iload_n dX8_build_151 2 rfl ?_
    refine x_iconst 1 dX8_build_152 (by decide) ?_
    refine x_isub dX8_build_153 ?_
    refine x_aload_n dX8_build_154 0 rfl ?_
    refine x_iload dX8_build_155 4 rfl ?_
    refine x_aload_n dX8_build_157 0 rfl ?_
    refine y_getr (kd := 100) hS fl_RX8_30 dX8_build_158 rfl k0 ?_
    refine x_iload_n dX8_build_161 2 rfl ?_
    refine x_iconst 1 dX8_build_162 (by decide) ?_
    refine x_isub dX8_build_163 ?_
    refine xgrd_e h (fun g1 h => ?_)
    refine y_iald dX8_build_164 ((hS.f k0 6 100 rfl).2) g1 ?_
    refine xbnd_e h (fun q2 e2 h => ?_)
    refine y_callVi (As := [.int v4, .int (D.1 (xr S v0 6) (v2 - 1).toNatClampNeg)]) (q := q2) cv_RX8_71 dX8_build_165 k0 rfl (Nat.le_of_ble_eq_true rfl) (by omega) (S_X8_single hS k0 e2) ?_
    refine xgrd_e h (fun g3 h => ?_)
    refine xlet_e h (fun D4 eD4 h => ?_)
    refine y_iast dX8_build_168 ((hS.f k0 6 100 rfl).2) g3 eD4 ?_
    refine x_lv (lv' := [(0, .ref v0), (1, .ref v1), (2, .int v2), (3, .int v3)]) [0, 1, 2, 3] rfl ?_
    exact t_X8_build_169 hS hrec_32 k0 k1 h

def f_X8_build_95 (F P : Nat) (S : xSt) (rec_32 : Nat → Nat → Int32 → Int32 → xDt → Option (Int32 × xDt)) (v0 : Nat) (v1 : Nat) (v2 : Int32) (v3 : Int32) (v4 : Int32) (v5 : Int32) (D : xDt) : Option (Int32 × xDt) :=
  (f_X11_isJoin F P S v5 D).bind fun q1 => if q1.1 = 0 then (f_X8_build_142 F P S rec_32 v0 v1 v2 v3 v4 q1.2) else (if v2 < 2 then (f_X8_build_142 F P S rec_32 v0 v1 v2 v3 v4 q1.2) else (xlet (v2 + (-1)) fun v2_2 => xgrd (xin v2_2 (xl S (xr S v0 6))) (xgrd (xin (v2_2 - 1) (xl S (xr S v0 6))) ((f_X8_make F P S v0 v4 (q1.2.1 (xr S v0 6) (v2_2).toNatClampNeg) (q1.2.1 (xr S v0 6) (v2_2 - 1).toNatClampNeg) q1.2).bind fun q5 => xgrd (xin (v2_2 - 1) (xl S (xr S v0 6))) (xlet (xup q5.2.1 (xr S v0 6) (v2_2 - 1).toNatClampNeg q5.1, q5.2.2) fun D7 => f_X8_build_169 F P S rec_32 v0 v1 v2_2 v3 D7)))))
set_option maxHeartbeats 4000000 in
theorem t_X8_build_95 {F P : Nat} {S : xSt} (hS : xWF S) {rec_32 : Nat → Nat → Int32 → Int32 → xDt → Option (Int32 × xDt)} (hrec_32 : ∀ {v0 : Nat} {v1 : Nat} {v2 : Int32} {v3 : Int32} {D : xDt} {r : Int32 × xDt}, xK S v0 8 → xK S v1 2 → rec_32 v0 v1 v2 v3 D = some r → yEx md_X8_build 4 32 [(0, .ref v0), (1, .ref v1), (2, .int v2), (3, .int v3)] [] S D (xQi S r)) {v0 : Nat} {v1 : Nat} {v2 : Int32} {v3 : Int32} {v4 : Int32} {v5 : Int32} {D : xDt} {r : Int32 × xDt} (k0 : xK S v0 8) (k1 : xK S v1 2) (h : f_X8_build_95 F P S rec_32 v0 v1 v2 v3 v4 v5 D = some r) : yEx md_X8_build 4 95 [(0, .ref v0), (1, .ref v1), (2, .int v2), (3, .int v3), (4, .int v4), (5, .int v5)] [] S D (xQi S r) := by
  unfold f_X8_build_95 at h
  refine x_iload dX8_build_95 5 rfl ?_
  refine xbnd_e h (fun q1 e1 h => ?_)
  refine y_callNi (As := [.int v5]) (q := q1) cn_RX8_68 dX8_build_97 rfl (Nat.le_of_ble_eq_true rfl) (by omega) (S_X11_isJoin hS e1) ?_
  refine x_if_eq 142 dX8_build_100 (by decide) (fun c => ?_) (fun c => ?_)
  · rw [if_pos c] at h
    refine x_lv (lv' := [(0, .ref v0), (1, .ref v1), (2, .int v2), (3, .int v3), (4, .int v4)]) [0, 1, 2, 3, 4] rfl ?_
    exact t_X8_build_142 hS hrec_32 k0 k1 h
  · rw [if_neg c] at h
    refine x_iload_n dX8_build_103 2 rfl ?_
    refine x_iconst 2 dX8_build_104 (by decide) ?_
    refine x_icmp_lt 142 dX8_build_105 (by decide) (fun c => ?_) (fun c => ?_)
    · rw [if_pos c] at h
      refine x_lv (lv' := [(0, .ref v0), (1, .ref v1), (2, .int v2), (3, .int v3), (4, .int v4)]) [0, 1, 2, 3, 4] rfl ?_
      exact t_X8_build_142 hS hrec_32 k0 k1 h
    · rw [if_neg c] at h
      refine xlet_e h (fun v2_2 ev2_2 h => ?_)
      refine y_iinc v2_2 ev2_2 (by decide) [(2, .int v2_2), (0, .ref v0), (1, .ref v1), (3, .int v3), (4, .int v4), (5, .int v5)] dX8_build_108 2 rfl (by show _ < 6; decide) rfl ?_
      refine x_aload_n dX8_build_111 1 rfl ?_
      refine y_getr (kd := 100) hS fl_RX8_30 dX8_build_112 rfl k0 ?_
      refine x_iload_n dX8_build_115 0 rfl ?_
      refine x_iconst 1 dX8_build_116 (by decide) ?_
      refine x_isub dX8_build_117 ?_
      refine x_aload_n dX8_build_118 1 rfl ?_
      refine x_iload dX8_build_119 4 rfl ?_
      refine x_aload_n dX8_build_121 1 rfl ?_
      refine y_getr (kd := 100) hS fl_RX8_30 dX8_build_122 rfl k0 ?_
      refine x_iload_n dX8_build_125 0 rfl ?_
      refine xgrd_e h (fun g3 h => ?_)
      refine y_iald dX8_build_126 ((hS.f k0 6 100 rfl).2) g3 ?_
      refine x_aload_n dX8_build_127 1 rfl ?_
      refine y_getr (kd := 100) hS fl_RX8_30 dX8_build_128 rfl k0 ?_
      refine x_iload_n dX8_build_131 0 rfl ?_
      refine x_iconst 1 dX8_build_132 (by decide) ?_
      refine x_isub dX8_build_133 ?_
      refine xgrd_e h (fun g4 h => ?_)
      refine y_iald dX8_build_134 ((hS.f k0 6 100 rfl).2) g4 ?_
      refine xbnd_e h (fun q5 e5 h => ?_)
      refine y_callVi (As := [.int v4, .int (q1.2.1 (xr S v0 6) (v2_2).toNatClampNeg), .int (q1.2.1 (xr S v0 6) (v2_2 - 1).toNatClampNeg)]) (q := q5) cv_RX8_64 dX8_build_135 k0 rfl (Nat.le_of_ble_eq_true rfl) (by omega) (S_X8_make hS k0 e5) ?_
      refine xgrd_e h (fun g6 h => ?_)
      refine xlet_e h (fun D7 eD7 h => ?_)
      refine y_iast dX8_build_138 ((hS.f k0 6 100 rfl).2) g6 eD7 ?_
      refine x_goto 169 dX8_build_139 (by decide) ?_
      refine x_lv (lv' := [(0, .ref v0), (1, .ref v1), (2, .int v2_2), (3, .int v3)]) [1, 2, 0, 3] rfl ?_
      exact t_X8_build_169 hS hrec_32 k0 k1 h

def f_X8_build_32s (F P : Nat) (S : xSt) (rec_32 : Nat → Nat → Int32 → Int32 → xDt → Option (Int32 × xDt)) (v0 : Nat) (v1 : Nat) (v2 : Int32) (v3 : Int32) (D : xDt) : Option (Int32 × xDt) :=
  if v3 < 0 then (xgrd (xin 0 (xl S (xr S v0 6))) (some (D.1 (xr S v0 6) (0 : Int32).toNatClampNeg, D))) else (if (D.1 v0 9) = 0 then (xgrd (xin v3 (xl S (xr S v1 0))) (xlet (D.1 (xr S v1 0) (v3).toNatClampNeg) fun v4_4 => (f_X11_signOf F P S v4_4 D).bind fun q5 => (f_X11_isLeaf F P S q5.1 q5.2).bind fun q6 => if q6.1 = 0 then (f_X8_build_95 F P S rec_32 v0 v1 v2 v3 v4_4 q5.1 q6.2) else (if (Int32.ofNat (xl S (xr S v0 6))) ≤ v2 then (f_X8_build_95 F P S rec_32 v0 v1 v2 v3 v4_4 q5.1 q6.2) else (xlet (v2 + 1) fun v2_7 => (f_X8_make F P S v0 v4_4 0 0 q6.2).bind fun q8 => xgrd (xin v2 (xl S (xr S v0 6))) (xlet (xup q8.2.1 (xr S v0 6) (v2).toNatClampNeg q8.1, q8.2.2) fun D10 => f_X8_build_169 F P S rec_32 v0 v1 v2_7 v3 D10))))) else (xgrd (xin 0 (xl S (xr S v0 6))) (some (D.1 (xr S v0 6) (0 : Int32).toNatClampNeg, D))))
def f_X8_build_32 (F P : Nat) (S : xSt) : Nat → Nat → Nat → Int32 → Int32 → xDt → Option (Int32 × xDt)
  | 0 => fun _ _ _ _ _ => none
  | n + 1 => f_X8_build_32s F P S (f_X8_build_32 F P S n)
set_option maxHeartbeats 4000000 in
theorem t_X8_build_32s {F P : Nat} {S : xSt} (hS : xWF S) {rec_32 : Nat → Nat → Int32 → Int32 → xDt → Option (Int32 × xDt)} (hrec_32 : ∀ {v0 : Nat} {v1 : Nat} {v2 : Int32} {v3 : Int32} {D : xDt} {r : Int32 × xDt}, xK S v0 8 → xK S v1 2 → rec_32 v0 v1 v2 v3 D = some r → yEx md_X8_build 4 32 [(0, .ref v0), (1, .ref v1), (2, .int v2), (3, .int v3)] [] S D (xQi S r)) {v0 : Nat} {v1 : Nat} {v2 : Int32} {v3 : Int32} {D : xDt} {r : Int32 × xDt} (k0 : xK S v0 8) (k1 : xK S v1 2) (h : f_X8_build_32s F P S rec_32 v0 v1 v2 v3 D = some r) : yEx md_X8_build 4 32 [(0, .ref v0), (1, .ref v1), (2, .int v2), (3, .int v3)] [] S D (xQi S r) := by
  unfold f_X8_build_32s at h
  refine x_iload_n dX8_build_32 3 rfl ?_
  refine x_if_lt 175 dX8_build_33 (by decide) (fun c => ?_) (fun c => ?_)
  · rw [if_pos c] at h
    refine x_aload_n dX8_build_175 0 rfl ?_
    refine y_getr (kd := 100) hS fl_RX8_30 dX8_build_176 rfl k0 ?_
    refine x_iconst 0 dX8_build_179 (by decide) ?_
    refine xgrd_e h (fun g1 h => ?_)
    refine y_iald dX8_build_180 ((hS.f k0 6 100 rfl).2) g1 ?_
    obtain rfl := Option.some.inj h
    exact y_iret rfl dX8_build_181
  · rw [if_neg c] at h
    refine x_aload_n dX8_build_36 0 rfl ?_
    refine y_geti fl_RX8_40 dX8_build_37 rfl k0 ?_
    refine x_if_ne 175 dX8_build_40 (by decide) (fun c => ?_) (fun c => ?_)
    · rw [if_neg c] at h
      refine x_aload_n dX8_build_175 0 rfl ?_
      refine y_getr (kd := 100) hS fl_RX8_30 dX8_build_176 rfl k0 ?_
      refine x_iconst 0 dX8_build_179 (by decide) ?_
      refine xgrd_e h (fun g2 h => ?_)
      refine y_iald dX8_build_180 ((hS.f k0 6 100 rfl).2) g2 ?_
      obtain rfl := Option.some.inj h
      exact y_iret rfl dX8_build_181
    · rw [if_pos c] at h
      refine x_aload_n dX8_build_43 1 rfl ?_
      refine y_getr (kd := 100) hS fl_RX8_53 dX8_build_44 rfl k1 ?_
      refine x_iload_n dX8_build_47 3 rfl ?_
      refine xgrd_e h (fun g3 h => ?_)
      refine y_iald dX8_build_48 ((hS.f k1 0 100 rfl).2) g3 ?_
      refine xlet_e h (fun v4_4 ev4_4 h => ?_)
      refine y_istore v4_4 ev4_4 [(4, .int v4_4), (0, .ref v0), (1, .ref v1), (2, .int v2), (3, .int v3)] dX8_build_49 (by show _ < 6; decide) rfl ?_
      refine x_iload dX8_build_51 0 rfl ?_
      refine xbnd_e h (fun q5 e5 h => ?_)
      refine y_callNi (As := [.int v4_4]) (q := q5) cn_RX8_56 dX8_build_53 rfl (Nat.le_of_ble_eq_true rfl) (by omega) (S_X11_signOf hS e5) ?_
      refine y_istore q5.1 rfl [(5, .int q5.1), (4, .int v4_4), (0, .ref v0), (1, .ref v1), (2, .int v2), (3, .int v3)] dX8_build_56 (by show _ < 6; decide) rfl ?_
      refine x_iload dX8_build_58 0 rfl ?_
      refine xbnd_e h (fun q6 e6 h => ?_)
      refine y_callNi (As := [.int q5.1]) (q := q6) cn_RX8_60 dX8_build_60 rfl (Nat.le_of_ble_eq_true rfl) (by omega) (S_X11_isLeaf hS e6) ?_
      refine x_if_eq 95 dX8_build_63 (by decide) (fun c => ?_) (fun c => ?_)
      · rw [if_pos c] at h
        refine x_lv (lv' := [(0, .ref v0), (1, .ref v1), (2, .int v2), (3, .int v3), (4, .int v4_4), (5, .int q5.1)]) [2, 3, 4, 5, 1, 0] rfl ?_
        exact t_X8_build_95 hS hrec_32 k0 k1 h
      · rw [if_neg c] at h
        refine x_iload_n dX8_build_66 4 rfl ?_
        refine x_aload_n dX8_build_67 2 rfl ?_
        refine y_getr (kd := 100) hS fl_RX8_30 dX8_build_68 rfl k0 ?_
        refine y_alen dX8_build_71 ((hS.f k0 6 100 rfl).2) (by decide) ?_
        refine x_icmp_ge 95 dX8_build_72 (by decide) (fun c => ?_) (fun c => ?_)
        · rw [if_pos c] at h
          refine x_lv (lv' := [(0, .ref v0), (1, .ref v1), (2, .int v2), (3, .int v3), (4, .int v4_4), (5, .int q5.1)]) [2, 3, 4, 5, 1, 0] rfl ?_
          exact t_X8_build_95 hS hrec_32 k0 k1 h
        · rw [if_neg c] at h
          refine x_aload_n dX8_build_75 2 rfl ?_
          refine y_getr (kd := 100) hS fl_RX8_30 dX8_build_76 rfl k0 ?_
          refine x_iload_n dX8_build_79 4 rfl ?_
          refine xlet_e h (fun v2_7 ev2_7 h => ?_)
          refine y_iinc v2_7 ev2_7 (by decide) [(2, .int v2_7), (5, .int q5.1), (4, .int v4_4), (0, .ref v0), (1, .ref v1), (3, .int v3)] dX8_build_80 4 rfl (by show _ < 6; decide) rfl ?_
          refine x_aload_n dX8_build_83 3 rfl ?_
          refine x_iload dX8_build_84 2 rfl ?_
          refine x_iconst 0 dX8_build_86 (by decide) ?_
          refine x_iconst 0 dX8_build_87 (by decide) ?_
          refine xbnd_e h (fun q8 e8 h => ?_)
          refine y_callVi (As := [.int v4_4, .int 0, .int 0]) (q := q8) cv_RX8_64 dX8_build_88 k0 rfl (Nat.le_of_ble_eq_true rfl) (by omega) (S_X8_make hS k0 e8) ?_
          refine xgrd_e h (fun g9 h => ?_)
          refine xlet_e h (fun D10 eD10 h => ?_)
          refine y_iast dX8_build_91 ((hS.f k0 6 100 rfl).2) g9 eD10 ?_
          refine x_goto 169 dX8_build_92 (by decide) ?_
          refine x_lv (lv' := [(0, .ref v0), (1, .ref v1), (2, .int v2_7), (3, .int v3)]) [3, 4, 0, 5] rfl ?_
          exact t_X8_build_169 hS hrec_32 k0 k1 h
theorem t_X8_build_32 {F P : Nat} {S : xSt} (hS : xWF S) : ∀ (n : Nat) {v0 : Nat} {v1 : Nat} {v2 : Int32} {v3 : Int32} {D : xDt} {r : Int32 × xDt}, xK S v0 8 → xK S v1 2 → f_X8_build_32 F P S n v0 v1 v2 v3 D = some r → yEx md_X8_build 4 32 [(0, .ref v0), (1, .ref v1), (2, .int v2), (3, .int v3)] [] S D (xQi S r) := by
  intro n
  induction n with
  | zero => intros; rename_i h; cases h
  | succ n ih =>
    intro v0 v1 v2 v3 D r k0 k1 h
    exact t_X8_build_32s hS (fun k0 k1 h => ih k0 k1 h) k0 k1 h

def f_X8_build (F P : Nat) (S : xSt) (v0 : Nat) (v1 : Nat) (D : xDt) : Option (Int32 × xDt) :=
  xlet (xup D.1 v0 7 0, D.2) fun D1 => xlet (xup D1.1 v0 8 0, D1.2) fun D2 => xlet (xup D2.1 v0 9 0, D2.2) fun D3 => (f_J7_fill_53178 F P S (xr S v0 5) 0 D3).bind fun q4 => xlet ((q4.1 v1 1) - 1) fun v3_5 => f_X8_build_32 F P S F v0 v1 0 v3_5 q4
set_option maxHeartbeats 4000000 in
theorem S_X8_build {F P : Nat} {S : xSt} (hS : xWF S) {v0 : Nat} {v1 : Nat} {D : xDt} {r : Int32 × xDt} (k0 : xK S v0 8) (k1 : xK S v1 2) (h : f_X8_build F P S v0 v1 D = some r) : xSp md_X8_build (4, 0, 0) [.ref v0, .ref v1] (S, D) (xQi S r) := by
  unfold f_X8_build at h
  refine xEntry (by decide) (Nat.le_of_ble_eq_true rfl) ?_
  refine x_lv (lv' := [(0, .ref v0), (1, .ref v1)]) [0, 1] rfl ?_
  refine x_aload_n dX8_build_0 0 rfl ?_
  refine x_iconst 0 dX8_build_1 (by decide) ?_
  refine xlet_e h (fun D1 eD1 h => ?_)
  refine y_puti fp_RX8_33 dX8_build_2 rfl k0 eD1 ?_
  refine x_aload_n dX8_build_5 0 rfl ?_
  refine x_iconst 0 dX8_build_6 (by decide) ?_
  refine xlet_e h (fun D2 eD2 h => ?_)
  refine y_puti fp_RX8_37 dX8_build_7 rfl k0 eD2 ?_
  refine x_aload_n dX8_build_10 0 rfl ?_
  refine x_iconst 0 dX8_build_11 (by decide) ?_
  refine xlet_e h (fun D3 eD3 h => ?_)
  refine y_putz rfl fp_RX8_40 dX8_build_12 rfl k0 eD3 ?_
  refine x_aload_n dX8_build_15 0 rfl ?_
  refine y_getr (kd := 100) hS fl_RX8_27 dX8_build_16 rfl k0 ?_
  refine x_iconst 0 dX8_build_19 (by decide) ?_
  refine xbnd_e h (fun q4 e4 h => ?_)
  refine y_callSv (As := [.ref (xr S v0 5), .int 0]) (q := q4) cs_RX8_44 dX8_build_20 rfl (Nat.le_of_ble_eq_true rfl) (by omega) (S_J7_fill_53178 hS ((hS.f k0 5 100 rfl).2) e4) ?_
  refine x_iconst 0 dX8_build_23 (by decide) ?_
  refine y_istore_n 0 rfl [(2, .int 0), (0, .ref v0), (1, .ref v1)] dX8_build_24 (by show _ < 6; decide) rfl ?_
  refine x_aload_n dX8_build_25 2 rfl ?_
  refine y_geti fl_RX8_50 dX8_build_26 rfl k1 ?_
  refine x_iconst 1 dX8_build_29 (by decide) ?_
  refine x_isub dX8_build_30 ?_
  refine xlet_e h (fun v3_5 ev3_5 h => ?_)
  refine y_istore_n v3_5 ev3_5 [(3, .int v3_5), (2, .int 0), (0, .ref v0), (1, .ref v1)] dX8_build_31 (by show _ < 6; decide) rfl ?_
  refine x_lv (lv' := [(0, .ref v0), (1, .ref v1), (2, .int 0), (3, .int v3_5)]) [2, 3, 1, 0] rfl ?_
  exact t_X8_build_32 hS F k0 k1 h

theorem dX0_tokenAt_0 : decode cX0_tokenAt 0 = .ok (.aload_n 0, 1) := by decide +kernel
theorem dX0_tokenAt_1 : decode cX0_tokenAt 1 = .ok (.getfield 18, 3) := by decide +kernel
theorem dX0_tokenAt_4 : decode cX0_tokenAt 4 = .ok (.getfield 95, 3) := by decide +kernel
theorem dX0_tokenAt_7 : decode cX0_tokenAt 7 = .ok (.aload_n 0, 1) := by decide +kernel
theorem dX0_tokenAt_8 : decode cX0_tokenAt 8 = .ok (.getfield 18, 3) := by decide +kernel
theorem dX0_tokenAt_11 : decode cX0_tokenAt 11 = .ok (.getfield 98, 3) := by decide +kernel
theorem dX0_tokenAt_14 : decode cX0_tokenAt 14 = .ok (.iload_n 1, 1) := by decide +kernel
theorem dX0_tokenAt_15 : decode cX0_tokenAt 15 = .ok (.iaload, 1) := by decide +kernel
theorem dX0_tokenAt_16 : decode cX0_tokenAt 16 = .ok (.iaload, 1) := by decide +kernel
theorem dX0_tokenAt_17 : decode cX0_tokenAt 17 = .ok (.ireturn, 1) := by decide +kernel
def f_X0_tokenAt (F P : Nat) (S : xSt) (v0 : Nat) (v1 : Int32) (D : xDt) : Option (Int32 × xDt) :=
  xgrd (xin v1 (xl S (xr S (xr S v0 1) 4))) (xgrd (xin (D.1 (xr S (xr S v0 1) 4) (v1).toNatClampNeg) (xl S (xr S (xr S v0 1) 0))) (some (D.1 (xr S (xr S v0 1) 0) (D.1 (xr S (xr S v0 1) 4) (v1).toNatClampNeg).toNatClampNeg, D)))
set_option maxHeartbeats 4000000 in
theorem S_X0_tokenAt {F P : Nat} {S : xSt} (hS : xWF S) {v0 : Nat} {v1 : Int32} {D : xDt} {r : Int32 × xDt} (k0 : xK S v0 0) (h : f_X0_tokenAt F P S v0 v1 D = some r) : xSp md_X0_tokenAt (0, 0, 0) [.ref v0, .int v1] (S, D) (xQi S r) := by
  unfold f_X0_tokenAt at h
  refine xEntry (by decide) (Nat.le_of_ble_eq_true rfl) ?_
  refine x_lv (lv' := [(0, .ref v0), (1, .int v1)]) [0, 1] rfl ?_
  refine x_aload_n dX0_tokenAt_0 0 rfl ?_
  refine y_getr (kd := 8) hS fl_RX0_18 dX0_tokenAt_1 rfl k0 ?_
  refine y_getr (kd := 100) hS fl_RX0_95 dX0_tokenAt_4 rfl ((hS.f k0 1 8 rfl).2) ?_
  refine x_aload_n dX0_tokenAt_7 0 rfl ?_
  refine y_getr (kd := 8) hS fl_RX0_18 dX0_tokenAt_8 rfl k0 ?_
  refine y_getr (kd := 100) hS fl_RX0_98 dX0_tokenAt_11 rfl ((hS.f k0 1 8 rfl).2) ?_
  refine x_iload_n dX0_tokenAt_14 1 rfl ?_
  refine xgrd_e h (fun g1 h => ?_)
  refine y_iald dX0_tokenAt_15 ((hS.f ((hS.f k0 1 8 rfl).2) 4 100 rfl).2) g1 ?_
  refine xgrd_e h (fun g2 h => ?_)
  refine y_iald dX0_tokenAt_16 ((hS.f ((hS.f k0 1 8 rfl).2) 0 100 rfl).2) g2 ?_
  obtain rfl := Option.some.inj h
  exact y_iret rfl dX0_tokenAt_17

theorem dX0_findKnownBits_0 : decode cX0_findKnownBits 0 = .ok (.iconst 0, 1) := by decide +kernel
theorem dX0_findKnownBits_1 : decode cX0_findKnownBits 1 = .ok (.istore_n 1, 1) := by decide +kernel
theorem dX0_findKnownBits_2 : decode cX0_findKnownBits 2 = .ok (.iload_n 1, 1) := by decide +kernel
theorem dX0_findKnownBits_3 : decode cX0_findKnownBits 3 = .ok (.iconst 4, 1) := by decide +kernel
theorem dX0_findKnownBits_4 : decode cX0_findKnownBits 4 = .ok (.if_icmp .ge 63, 3) := by decide +kernel
theorem dX0_findKnownBits_7 : decode cX0_findKnownBits 7 = .ok (.aload_n 0, 1) := by decide +kernel
theorem dX0_findKnownBits_8 : decode cX0_findKnownBits 8 = .ok (.getfield 41, 3) := by decide +kernel
theorem dX0_findKnownBits_11 : decode cX0_findKnownBits 11 = .ok (.iload_n 1, 1) := by decide +kernel
theorem dX0_findKnownBits_12 : decode cX0_findKnownBits 12 = .ok (.iconst 0, 1) := by decide +kernel
theorem dX0_findKnownBits_13 : decode cX0_findKnownBits 13 = .ok (.iastore, 1) := by decide +kernel
theorem dX0_findKnownBits_14 : decode cX0_findKnownBits 14 = .ok (.iconst 0, 1) := by decide +kernel
theorem dX0_findKnownBits_15 : decode cX0_findKnownBits 15 = .ok (.istore_n 2, 1) := by decide +kernel
theorem dX0_findKnownBits_16 : decode cX0_findKnownBits 16 = .ok (.iload_n 2, 1) := by decide +kernel
theorem dX0_findKnownBits_17 : decode cX0_findKnownBits 17 = .ok (.aload_n 0, 1) := by decide +kernel
theorem dX0_findKnownBits_18 : decode cX0_findKnownBits 18 = .ok (.getfield 18, 3) := by decide +kernel
theorem dX0_findKnownBits_21 : decode cX0_findKnownBits 21 = .ok (.getfield 73, 3) := by decide +kernel
theorem dX0_findKnownBits_24 : decode cX0_findKnownBits 24 = .ok (.if_icmp .ge 37, 3) := by decide +kernel
theorem dX0_findKnownBits_27 : decode cX0_findKnownBits 27 = .ok (.aload_n 0, 1) := by decide +kernel
theorem dX0_findKnownBits_28 : decode cX0_findKnownBits 28 = .ok (.iload_n 2, 1) := by decide +kernel
theorem dX0_findKnownBits_29 : decode cX0_findKnownBits 29 = .ok (.invokevirtual 104, 3) := by decide +kernel
theorem dX0_findKnownBits_32 : decode cX0_findKnownBits 32 = .ok (.bipush 75, 2) := by decide +kernel
theorem dX0_findKnownBits_34 : decode cX0_findKnownBits 34 = .ok (.iconst 1, 1) := by decide +kernel
theorem dX0_findKnownBits_35 : decode cX0_findKnownBits 35 = .ok (.iload_n 1, 1) := by decide +kernel
theorem dX0_findKnownBits_36 : decode cX0_findKnownBits 36 = .ok (.ishl, 1) := by decide +kernel
theorem dX0_findKnownBits_37 : decode cX0_findKnownBits 37 = .ok (.invokestatic 108, 3) := by decide +kernel
theorem dX0_findKnownBits_40 : decode cX0_findKnownBits 40 = .ok (.if_icmp .ne 15, 3) := by decide +kernel
theorem dX0_findKnownBits_43 : decode cX0_findKnownBits 43 = .ok (.aload_n 0, 1) := by decide +kernel
theorem dX0_findKnownBits_44 : decode cX0_findKnownBits 44 = .ok (.getfield 41, 3) := by decide +kernel
theorem dX0_findKnownBits_47 : decode cX0_findKnownBits 47 = .ok (.iload_n 1, 1) := by decide +kernel
theorem dX0_findKnownBits_48 : decode cX0_findKnownBits 48 = .ok (.dup2, 1) := by decide +kernel
theorem dX0_findKnownBits_49 : decode cX0_findKnownBits 49 = .ok (.iaload, 1) := by decide +kernel
theorem dX0_findKnownBits_50 : decode cX0_findKnownBits 50 = .ok (.iconst 1, 1) := by decide +kernel
theorem dX0_findKnownBits_51 : decode cX0_findKnownBits 51 = .ok (.iload_n 2, 1) := by decide +kernel
theorem dX0_findKnownBits_52 : decode cX0_findKnownBits 52 = .ok (.ishl, 1) := by decide +kernel
theorem dX0_findKnownBits_53 : decode cX0_findKnownBits 53 = .ok (.ior, 1) := by decide +kernel
theorem dX0_findKnownBits_54 : decode cX0_findKnownBits 54 = .ok (.iastore, 1) := by decide +kernel
theorem dX0_findKnownBits_55 : decode cX0_findKnownBits 55 = .ok (.iinc 2 1, 3) := by decide +kernel
theorem dX0_findKnownBits_58 : decode cX0_findKnownBits 58 = .ok (.goto (-42), 3) := by decide +kernel
theorem dX0_findKnownBits_61 : decode cX0_findKnownBits 61 = .ok (.iinc 1 1, 3) := by decide +kernel
theorem dX0_findKnownBits_64 : decode cX0_findKnownBits 64 = .ok (.goto (-62), 3) := by decide +kernel
theorem dX0_findKnownBits_67 : decode cX0_findKnownBits 67 = .ok (.return_, 1) := by decide +kernel
def f_X0_findKnownBits_55 (F P : Nat) (S : xSt) (rec_2 : Nat → Int32 → xDt → Option (xDt)) (rec_16 : Nat → Int32 → Int32 → xDt → Option (xDt)) (v0 : Nat) (v1 : Int32) (v2 : Int32) (D : xDt) : Option (xDt) :=
  xlet (v2 + 1) fun v2_1 => rec_16 v0 v1 v2_1 D
set_option maxHeartbeats 4000000 in
theorem t_X0_findKnownBits_55 {F P : Nat} {S : xSt} (hS : xWF S) {rec_2 : Nat → Int32 → xDt → Option (xDt)} (hrec_2 : ∀ {v0 : Nat} {v1 : Int32} {D : xDt} {r : xDt}, xK S v0 0 → rec_2 v0 v1 D = some r → yEx md_X0_findKnownBits 1 2 [(0, .ref v0), (1, .int v1)] [] S D (xQv S r)) {rec_16 : Nat → Int32 → Int32 → xDt → Option (xDt)} (hrec_16 : ∀ {v0 : Nat} {v1 : Int32} {v2 : Int32} {D : xDt} {r : xDt}, xK S v0 0 → rec_16 v0 v1 v2 D = some r → yEx md_X0_findKnownBits 1 16 [(0, .ref v0), (1, .int v1), (2, .int v2)] [] S D (xQv S r)) {v0 : Nat} {v1 : Int32} {v2 : Int32} {D : xDt} {r : xDt} (k0 : xK S v0 0) (h : f_X0_findKnownBits_55 F P S rec_2 rec_16 v0 v1 v2 D = some r) : yEx md_X0_findKnownBits 1 55 [(0, .ref v0), (1, .int v1), (2, .int v2)] [] S D (xQv S r) := by
  unfold f_X0_findKnownBits_55 at h
  refine xlet_e h (fun v2_1 ev2_1 h => ?_)
  refine y_iinc v2_1 ev2_1 (by decide) [(2, .int v2_1), (0, .ref v0), (1, .int v1)] dX0_findKnownBits_55 2 rfl (by show _ < 3; decide) rfl ?_
  refine x_goto 16 dX0_findKnownBits_58 (by decide) ?_
  refine x_lv (lv' := [(0, .ref v0), (1, .int v1), (2, .int v2_1)]) [1, 2, 0] rfl ?_
  exact hrec_16 k0 h

def f_X0_findKnownBits_16s (F P : Nat) (S : xSt) (rec_2 : Nat → Int32 → xDt → Option (xDt)) (rec_16 : Nat → Int32 → Int32 → xDt → Option (xDt)) (v0 : Nat) (v1 : Int32) (v2 : Int32) (D : xDt) : Option (xDt) :=
  if (D.1 (xr S v0 1) 8) ≤ v2 then (xlet (v1 + 1) fun v1_1 => rec_2 v0 v1_1 D) else ((f_X0_tokenAt F P S v0 v2 D).bind fun q2 => (f_X11_withAgents F P S 75 (jishl 1 v1) q2.2).bind fun q3 => if q2.1 = q3.1 then (xgrd (xin v1 (xl S (xr S v0 8))) (xgrd (xin v1 (xl S (xr S v0 8))) (xlet (xup q3.2.1 (xr S v0 8) (v1).toNatClampNeg ((q3.2.1 (xr S v0 8) (v1).toNatClampNeg) ||| (jishl 1 v2)), q3.2.2) fun D6 => f_X0_findKnownBits_55 F P S rec_2 rec_16 v0 v1 v2 D6))) else (f_X0_findKnownBits_55 F P S rec_2 rec_16 v0 v1 v2 q3.2))
def f_X0_findKnownBits_16 (F P : Nat) (S : xSt) (rec_2 : Nat → Int32 → xDt → Option (xDt)) : Nat → Nat → Int32 → Int32 → xDt → Option (xDt)
  | 0 => fun _ _ _ _ => none
  | n + 1 => f_X0_findKnownBits_16s F P S rec_2 (f_X0_findKnownBits_16 F P S rec_2 n)
set_option maxHeartbeats 4000000 in
theorem t_X0_findKnownBits_16s {F P : Nat} {S : xSt} (hS : xWF S) {rec_2 : Nat → Int32 → xDt → Option (xDt)} (hrec_2 : ∀ {v0 : Nat} {v1 : Int32} {D : xDt} {r : xDt}, xK S v0 0 → rec_2 v0 v1 D = some r → yEx md_X0_findKnownBits 1 2 [(0, .ref v0), (1, .int v1)] [] S D (xQv S r)) {rec_16 : Nat → Int32 → Int32 → xDt → Option (xDt)} (hrec_16 : ∀ {v0 : Nat} {v1 : Int32} {v2 : Int32} {D : xDt} {r : xDt}, xK S v0 0 → rec_16 v0 v1 v2 D = some r → yEx md_X0_findKnownBits 1 16 [(0, .ref v0), (1, .int v1), (2, .int v2)] [] S D (xQv S r)) {v0 : Nat} {v1 : Int32} {v2 : Int32} {D : xDt} {r : xDt} (k0 : xK S v0 0) (h : f_X0_findKnownBits_16s F P S rec_2 rec_16 v0 v1 v2 D = some r) : yEx md_X0_findKnownBits 1 16 [(0, .ref v0), (1, .int v1), (2, .int v2)] [] S D (xQv S r) := by
  unfold f_X0_findKnownBits_16s at h
  refine x_iload_n dX0_findKnownBits_16 2 rfl ?_
  refine x_aload_n dX0_findKnownBits_17 0 rfl ?_
  refine y_getr (kd := 8) hS fl_RX0_18 dX0_findKnownBits_18 rfl k0 ?_
  refine y_geti fl_RX0_73 dX0_findKnownBits_21 rfl ((hS.f k0 1 8 rfl).2) ?_
  refine x_icmp_ge 61 dX0_findKnownBits_24 (by decide) (fun c => ?_) (fun c => ?_)
  · rw [if_pos c] at h
    refine xlet_e h (fun v1_1 ev1_1 h => ?_)
    refine y_iinc v1_1 ev1_1 (by decide) [(1, .int v1_1), (0, .ref v0), (2, .int v2)] dX0_findKnownBits_61 1 rfl (by show _ < 3; decide) rfl ?_
    refine x_goto 2 dX0_findKnownBits_64 (by decide) ?_
    refine x_lv (lv' := [(0, .ref v0), (1, .int v1_1)]) [1, 0] rfl ?_
    exact hrec_2 k0 h
  · rw [if_neg c] at h
    refine x_aload_n dX0_findKnownBits_27 0 rfl ?_
    refine x_iload_n dX0_findKnownBits_28 2 rfl ?_
    refine xbnd_e h (fun q2 e2 h => ?_)
    refine y_callVi (As := [.int v2]) (q := q2) cv_RX0_104 dX0_findKnownBits_29 k0 rfl (Nat.le_of_ble_eq_true rfl) (by omega) (S_X0_tokenAt hS k0 e2) ?_
    refine x_bipush 75 dX0_findKnownBits_32 (by decide) ?_
    refine x_iconst 1 dX0_findKnownBits_34 (by decide) ?_
    refine x_iload_n dX0_findKnownBits_35 1 rfl ?_
    refine x_ishl dX0_findKnownBits_36 ?_
    refine xbnd_e h (fun q3 e3 h => ?_)
    refine y_callNi (As := [.int 75, .int (jishl 1 v1)]) (q := q3) cn_RX0_108 dX0_findKnownBits_37 rfl (Nat.le_of_ble_eq_true rfl) (by omega) (S_X11_withAgents hS e3) ?_
    refine x_icmp_ne 55 dX0_findKnownBits_40 (by decide) (fun c => ?_) (fun c => ?_)
    · rw [if_neg c] at h
      exact t_X0_findKnownBits_55 hS hrec_2 hrec_16 k0 h
    · rw [if_pos c] at h
      refine x_aload_n dX0_findKnownBits_43 0 rfl ?_
      refine y_getr (kd := 100) hS fl_RX0_41 dX0_findKnownBits_44 rfl k0 ?_
      refine x_iload_n dX0_findKnownBits_47 1 rfl ?_
      refine x_dup2 dX0_findKnownBits_48 rfl rfl ?_
      refine xgrd_e h (fun g4 h => ?_)
      refine y_iald dX0_findKnownBits_49 ((hS.f k0 8 100 rfl).2) g4 ?_
      refine x_iconst 1 dX0_findKnownBits_50 (by decide) ?_
      refine x_iload_n dX0_findKnownBits_51 2 rfl ?_
      refine x_ishl dX0_findKnownBits_52 ?_
      refine x_ior dX0_findKnownBits_53 ?_
      refine xgrd_e h (fun g5 h => ?_)
      refine xlet_e h (fun D6 eD6 h => ?_)
      refine y_iast dX0_findKnownBits_54 ((hS.f k0 8 100 rfl).2) g5 eD6 ?_
      exact t_X0_findKnownBits_55 hS hrec_2 hrec_16 k0 h
theorem t_X0_findKnownBits_16 {F P : Nat} {S : xSt} (hS : xWF S) {rec_2 : Nat → Int32 → xDt → Option (xDt)} (hrec_2 : ∀ {v0 : Nat} {v1 : Int32} {D : xDt} {r : xDt}, xK S v0 0 → rec_2 v0 v1 D = some r → yEx md_X0_findKnownBits 1 2 [(0, .ref v0), (1, .int v1)] [] S D (xQv S r)) : ∀ (n : Nat) {v0 : Nat} {v1 : Int32} {v2 : Int32} {D : xDt} {r : xDt}, xK S v0 0 → f_X0_findKnownBits_16 F P S rec_2 n v0 v1 v2 D = some r → yEx md_X0_findKnownBits 1 16 [(0, .ref v0), (1, .int v1), (2, .int v2)] [] S D (xQv S r) := by
  intro n
  induction n with
  | zero => intros; rename_i h; cases h
  | succ n ih =>
    intro v0 v1 v2 D r k0 h
    exact t_X0_findKnownBits_16s hS hrec_2 (fun k0 h => ih k0 h) k0 h

def f_X0_findKnownBits_2s (F P : Nat) (S : xSt) (rec_2 : Nat → Int32 → xDt → Option (xDt)) (v0 : Nat) (v1 : Int32) (D : xDt) : Option (xDt) :=
  if 4 ≤ v1 then (some D) else (xgrd (xin v1 (xl S (xr S v0 8))) (xlet (xup D.1 (xr S v0 8) (v1).toNatClampNeg 0, D.2) fun D2 => f_X0_findKnownBits_16 F P S rec_2 F v0 v1 0 D2))
def f_X0_findKnownBits_2 (F P : Nat) (S : xSt) : Nat → Nat → Int32 → xDt → Option (xDt)
  | 0 => fun _ _ _ => none
  | n + 1 => f_X0_findKnownBits_2s F P S (f_X0_findKnownBits_2 F P S n)
set_option maxHeartbeats 4000000 in
theorem t_X0_findKnownBits_2s {F P : Nat} {S : xSt} (hS : xWF S) {rec_2 : Nat → Int32 → xDt → Option (xDt)} (hrec_2 : ∀ {v0 : Nat} {v1 : Int32} {D : xDt} {r : xDt}, xK S v0 0 → rec_2 v0 v1 D = some r → yEx md_X0_findKnownBits 1 2 [(0, .ref v0), (1, .int v1)] [] S D (xQv S r)) {v0 : Nat} {v1 : Int32} {D : xDt} {r : xDt} (k0 : xK S v0 0) (h : f_X0_findKnownBits_2s F P S rec_2 v0 v1 D = some r) : yEx md_X0_findKnownBits 1 2 [(0, .ref v0), (1, .int v1)] [] S D (xQv S r) := by
  unfold f_X0_findKnownBits_2s at h
  refine x_iload_n dX0_findKnownBits_2 1 rfl ?_
  refine x_iconst 4 dX0_findKnownBits_3 (by decide) ?_
  refine x_icmp_ge 67 dX0_findKnownBits_4 (by decide) (fun c => ?_) (fun c => ?_)
  · rw [if_pos c] at h
    obtain rfl := Option.some.inj h
    exact y_vret rfl dX0_findKnownBits_67
  · rw [if_neg c] at h
    refine x_aload_n dX0_findKnownBits_7 0 rfl ?_
    refine y_getr (kd := 100) hS fl_RX0_41 dX0_findKnownBits_8 rfl k0 ?_
    refine x_iload_n dX0_findKnownBits_11 1 rfl ?_
    refine x_iconst 0 dX0_findKnownBits_12 (by decide) ?_
    refine xgrd_e h (fun g1 h => ?_)
    refine xlet_e h (fun D2 eD2 h => ?_)
    refine y_iast dX0_findKnownBits_13 ((hS.f k0 8 100 rfl).2) g1 eD2 ?_
    refine x_iconst 0 dX0_findKnownBits_14 (by decide) ?_
    refine y_istore_n 0 rfl [(2, .int 0), (0, .ref v0), (1, .int v1)] dX0_findKnownBits_15 (by show _ < 3; decide) rfl ?_
    refine x_lv (lv' := [(0, .ref v0), (1, .int v1), (2, .int 0)]) [1, 2, 0] rfl ?_
    exact t_X0_findKnownBits_16 hS hrec_2 F k0 h
theorem t_X0_findKnownBits_2 {F P : Nat} {S : xSt} (hS : xWF S) : ∀ (n : Nat) {v0 : Nat} {v1 : Int32} {D : xDt} {r : xDt}, xK S v0 0 → f_X0_findKnownBits_2 F P S n v0 v1 D = some r → yEx md_X0_findKnownBits 1 2 [(0, .ref v0), (1, .int v1)] [] S D (xQv S r) := by
  intro n
  induction n with
  | zero => intros; rename_i h; cases h
  | succ n ih =>
    intro v0 v1 D r k0 h
    exact t_X0_findKnownBits_2s hS (fun k0 h => ih k0 h) k0 h

def f_X0_findKnownBits (F P : Nat) (S : xSt) (v0 : Nat) (D : xDt) : Option (xDt) :=
  f_X0_findKnownBits_2 F P S F v0 0 D
set_option maxHeartbeats 4000000 in
theorem S_X0_findKnownBits {F P : Nat} {S : xSt} (hS : xWF S) {v0 : Nat} {D : xDt} {r : xDt} (k0 : xK S v0 0) (h : f_X0_findKnownBits F P S v0 D = some r) : xSp md_X0_findKnownBits (1, 0, 0) [.ref v0] (S, D) (xQv S r) := by
  unfold f_X0_findKnownBits at h
  refine xEntry (by decide) (Nat.le_of_ble_eq_true rfl) ?_
  refine x_lv (lv' := [(0, .ref v0)]) [0] rfl ?_
  refine x_iconst 0 dX0_findKnownBits_0 (by decide) ?_
  refine y_istore_n 0 rfl [(1, .int 0), (0, .ref v0)] dX0_findKnownBits_1 (by show _ < 3; decide) rfl ?_
  refine x_lv (lv' := [(0, .ref v0), (1, .int 0)]) [1, 0] rfl ?_
  exact t_X0_findKnownBits_2 hS F k0 h

theorem dX0_telling_0 : decode cX0_telling 0 = .ok (.iload_n 1, 1) := by decide +kernel
theorem dX0_telling_1 : decode cX0_telling 1 = .ok (.bipush 6, 2) := by decide +kernel
theorem dX0_telling_3 : decode cX0_telling 3 = .ok (.if_icmp .ge 9, 3) := by decide +kernel
theorem dX0_telling_6 : decode cX0_telling 6 = .ok (.getstatic 101, 3) := by decide +kernel
theorem dX0_telling_9 : decode cX0_telling 9 = .ok (.iload_n 1, 1) := by decide +kernel
theorem dX0_telling_10 : decode cX0_telling 10 = .ok (.laload, 1) := by decide +kernel
theorem dX0_telling_11 : decode cX0_telling 11 = .ok (.lreturn, 1) := by decide +kernel
theorem dX0_telling_12 : decode cX0_telling 12 = .ok (.iload_n 2, 1) := by decide +kernel
theorem dX0_telling_13 : decode cX0_telling 13 = .ok (.iload_n 1, 1) := by decide +kernel
theorem dX0_telling_14 : decode cX0_telling 14 = .ok (.bipush 6, 2) := by decide +kernel
theorem dX0_telling_16 : decode cX0_telling 16 = .ok (.isub, 1) := by decide +kernel
theorem dX0_telling_17 : decode cX0_telling 17 = .ok (.ishr, 1) := by decide +kernel
theorem dX0_telling_18 : decode cX0_telling 18 = .ok (.iconst 1, 1) := by decide +kernel
theorem dX0_telling_19 : decode cX0_telling 19 = .ok (.iand, 1) := by decide +kernel
theorem dX0_telling_20 : decode cX0_telling 20 = .ok (.ifCond .eq 9, 3) := by decide +kernel
theorem dX0_telling_23 : decode cX0_telling 23 = .ok (.ldc2_w 87, 3) := by decide +kernel
theorem dX0_telling_26 : decode cX0_telling 26 = .ok (.goto 4, 3) := by decide +kernel
theorem dX0_telling_29 : decode cX0_telling 29 = .ok (.lconst 0, 1) := by decide +kernel
theorem dX0_telling_30 : decode cX0_telling 30 = .ok (.lreturn, 1) := by decide +kernel
def f_X0_telling (F P : Nat) (S : xSt) (v0 : Nat) (v1 : Int32) (v2 : Int32) (D : xDt) : Option (Int64 × xDt) :=
  if 6 ≤ v1 then (if ((jishr v2 (v1 - 6)) &&& 1) = 0 then (some (0, D)) else (some ((-1), D))) else (xgrd (xin v1 6) (some (xSETv (v1).toNatClampNeg, D)))
set_option maxHeartbeats 4000000 in
theorem S_X0_telling {F P : Nat} {S : xSt} (hS : xWF S) {v0 : Nat} {v1 : Int32} {v2 : Int32} {D : xDt} {r : Int64 × xDt} (k0 : xK S v0 0) (h : f_X0_telling F P S v0 v1 v2 D = some r) : xSp md_X0_telling (0, 0, 0) [.ref v0, .int v1, .int v2] (S, D) (xQl S r) := by
  unfold f_X0_telling at h
  refine xEntry (by decide) (Nat.le_of_ble_eq_true rfl) ?_
  refine x_lv (lv' := [(0, .ref v0), (1, .int v1), (2, .int v2)]) [0, 1, 2] rfl ?_
  refine x_iload_n dX0_telling_0 1 rfl ?_
  refine x_bipush 6 dX0_telling_1 (by decide) ?_
  refine x_icmp_ge 12 dX0_telling_3 (by decide) (fun c => ?_) (fun c => ?_)
  · rw [if_pos c] at h
    refine x_iload_n dX0_telling_12 2 rfl ?_
    refine x_iload_n dX0_telling_13 1 rfl ?_
    refine x_bipush 6 dX0_telling_14 (by decide) ?_
    refine x_isub dX0_telling_16 ?_
    refine x_ishr dX0_telling_17 ?_
    refine x_iconst 1 dX0_telling_18 (by decide) ?_
    refine x_iand dX0_telling_19 ?_
    refine x_if_eq 29 dX0_telling_20 (by decide) (fun c => ?_) (fun c => ?_)
    · rw [if_pos c] at h
      refine x_lconst 0 dX0_telling_29 (by decide) ?_
      obtain rfl := Option.some.inj h
      exact y_lret rfl dX0_telling_30
    · rw [if_neg c] at h
      refine x_ldc2 (-1) dX0_telling_23 wd_1021 ?_
      refine x_goto 30 dX0_telling_26 (by decide) ?_
      obtain rfl := Option.some.inj h
      exact y_lret rfl dX0_telling_30
  · rw [if_neg c] at h
    refine x_getSET dX0_telling_6 wd_1030 ?_
    refine x_iload_n dX0_telling_9 1 rfl ?_
    refine xgrd_e h (fun g1 h => ?_)
    refine x_SETld dX0_telling_10 g1 ?_
    obtain rfl := Option.some.inj h
    exact y_lret rfl dX0_telling_11

