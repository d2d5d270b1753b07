/-! the plain functions at their cells -/
set_option maxHeartbeats 2000000 in
theorem e_X11_worldsEdited (F P : Nat) (D : xDt) : f_X11_worldsEdited F P xS0 0 D = (xlet (xup D.1 4 2 0, D.2) fun D1 => xlet (xup D1.1 0 13 0, D1.2) fun D2 => some D2) := by
  unfold f_X11_worldsEdited
  simp only [rr_0_1]
set_option maxHeartbeats 2000000 in
theorem e_X11_world (F P : Nat) (v1 : Int32) (D : xDt) : f_X11_world F P xS0 0 v1 D = (if v1 < 0 then (some ((-1), D)) else (if 256 ≤ v1 then (some ((-1), D)) else (if (D.1 1 0) < 64 then ((f_X11_worldsEdited F P xS0 0 D).bind fun q1 => (f_X10_add F P xS0 1 v1 q1).bind fun q2 => some (q2.1, q2.2)) else (some ((-1), D))))) := by
  unfold f_X11_world
  simp only [rr_0_0]
set_option maxHeartbeats 2000000 in
theorem e_X11_tie (F P : Nat) (v1 : Int32) (v2 : Int32) (v3 : Int32) (D : xDt) : f_X11_tie F P xS0 0 v1 v2 v3 D = ((f_X11_isAgent F P xS0 v1 D).bind fun q1 => if q1.1 = 0 then (some ((-1), q1.2)) else ((f_X10_has F P xS0 1 v2 q1.2).bind fun q2 => if q2.1 = 0 then (some ((-1), q2.2)) else ((f_X10_has F P xS0 1 v3 q2.2).bind fun q3 => if q3.1 = 0 then (some ((-1), q3.2)) else ((f_X11_worldsEdited F P xS0 0 q3.2).bind fun q4 => (f_X10_merge F P xS0 1 (v1 - 1) v2 v3 q4).bind fun q5 => some (q5.1, q5.2))))) := by
  unfold f_X11_tie
  simp only [rr_0_0]
set_option maxHeartbeats 2000000 in
theorem e_X11_alone (F P : Nat) (v1 : Int32) (v2 : Int32) (D : xDt) : f_X11_alone F P xS0 0 v1 v2 D = ((f_X11_isAgent F P xS0 v1 D).bind fun q1 => if q1.1 = 0 then (some ((-1), q1.2)) else ((f_X10_has F P xS0 1 v2 q1.2).bind fun q2 => if q2.1 = 0 then (some ((-1), q2.2)) else ((f_X11_worldsEdited F P xS0 0 q2.2).bind fun q3 => (f_X10_part F P xS0 1 (v1 - 1) v2 q3).bind fun q4 => some (q4.1, q4.2)))) := by
  unfold f_X11_alone
  simp only [rr_0_0]
set_option maxHeartbeats 2000000 in
theorem e_X11_atom (F P : Nat) (v1 : Int32) (v2 : Int32) (v3 : Int32) (D : xDt) : f_X11_atom F P xS0 0 v1 v2 v3 D = ((f_X10_has F P xS0 1 v1 D).bind fun q1 => if q1.1 = 0 then (some ((-1), q1.2)) else ((f_X11_isAtom F P xS0 v2 q1.2).bind fun q2 => if q2.1 = 0 then (some ((-1), q2.2)) else ((f_X11_worldsEdited F P xS0 0 q2.2).bind fun q3 => xgrd (xin v2 8) (xlet (((jlushr (q3.2 2 (v2).toNatClampNeg) v1) &&& 1).toInt32) fun v4_5 => (f_X10_setAtom F P xS0 1 v1 v2 v3 q3).bind fun q6 => some (v4_5, q6))))) := by
  unfold f_X11_atom
  simp only [ll_2, rr_0_0, rr_1_1]
set_option maxHeartbeats 2000000 in
theorem e_X11_told (F P : Nat) (v1 : Int32) (v2 : Int32) (D : xDt) : f_X11_told F P xS0 0 v1 v2 D = ((f_X10_has F P xS0 1 v1 D).bind fun q1 => if q1.1 = 0 then (some ((-1), q1.2)) else (if v2 < 0 then (some ((-1), q1.2)) else (if v2 ≤ 4 then (if v2 = 0 then ((f_X10_atomsOf F P xS0 1 v1 q1.2).bind fun q4 => some (q4.1, q4.2)) else ((f_X10_cell F P xS0 1 (v2 - 1) v1 q1.2).bind fun q2 => (f_X11_lowest F P xS0 q2.1 q2.2).bind fun q3 => some (q3.1, q3.2))) else (some ((-1), q1.2))))) := by
  unfold f_X11_told
  simp only [rr_0_0]
set_option maxHeartbeats 2000000 in
theorem e_X11_type (F P : Nat) (v1 : Int32) (D : xDt) : f_X11_type F P xS0 0 v1 D = ((f_X6_collect F P xS0 192 v1 D).bind fun q1 => some (q1.1, q1.2)) := by
  unfold f_X11_type
  simp only [rr_0_3]
set_option maxHeartbeats 2000000 in
theorem e_X11_four (F P : Nat) (v1 : Int32) (D : xDt) : f_X11_four F P xS0 0 v1 D = ((f_X6_collectFour F P xS0 192 v1 D).bind fun q1 => some (q1.1, q1.2)) := by
  unfold f_X11_four
  simp only [rr_0_3]
set_option maxHeartbeats 2000000 in
theorem e_X11_handChanged (F P : Nat) (D : xDt) : f_X11_handChanged F P xS0 0 D = (xlet (xup D.1 0 13 0, D.2) fun D1 => xlet (xup D1.1 0 14 0, D1.2) fun D2 => some D2) := by
  unfold f_X11_handChanged
  rfl
set_option maxHeartbeats 2000000 in
theorem e_X11_formula (F P : Nat) (D : xDt) : f_X11_formula F P xS0 0 D = ((f_X6_read F P xS0 192 202 D).bind fun q1 => if q1.1 ≤ 0 then (some (q1.1, q1.2)) else ((f_X11_handChanged F P xS0 0 q1.2).bind fun q2 => some (q1.1, q2))) := by
  unfold f_X11_formula
  simp only [rr_0_3, rr_0_4]
set_option maxHeartbeats 2000000 in
theorem e_X11_truths (F P : Nat) (D : xDt) : f_X11_truths F P xS0 0 D = (if (D.1 0 13) = 0 then ((f_X3_where F P xS0 207 202 1 D).bind fun q1 => xlet (q1.2.1, xup q1.2.2 0 12 q1.1) fun D2 => xlet (xup D2.1 0 13 1, D2.2) fun D3 => some (D3.2 0 12, D3)) else (some (D.2 0 12, D))) := by
  unfold f_X11_truths
  simp only [rr_0_0, rr_0_4, rr_0_6]
set_option maxHeartbeats 2000000 in
theorem e_X11_holds (F P : Nat) (v1 : Int32) (D : xDt) : f_X11_holds F P xS0 0 v1 D = ((f_X10_has F P xS0 1 v1 D).bind fun q1 => if q1.1 = 0 then (some ((-1), q1.2)) else ((f_X11_truths F P xS0 0 q1.2).bind fun q2 => some (((jlushr q2.1 v1) &&& 1).toInt32, q2.2))) := by
  unfold f_X11_holds
  simp only [rr_0_0]
set_option maxHeartbeats 2000000 in
theorem e_X11_worlds (F P : Nat) (D : xDt) : f_X11_worlds F P xS0 0 D = ((f_X11_truths F P xS0 0 D).bind fun q1 => (f_J13_bitCount_95d88 F P xS0 q1.1 q1.2).bind fun q2 => some (q2.1, q2.2)) := by
  unfold f_X11_worlds
  rfl
set_option maxHeartbeats 2000000 in
theorem e_X11_tell (F P : Nat) (D : xDt) : f_X11_tell F P xS0 0 D = ((f_X9_write F P xS0 204 202 D).bind fun q1 => some (q1.1, q1.2)) := by
  unfold f_X11_tell
  simp only [rr_0_4, rr_0_5]
set_option maxHeartbeats 2000000 in
theorem e_X11_letter (F P : Nat) (v1 : Int32) (D : xDt) : f_X11_letter F P xS0 0 v1 D = (if v1 < 0 then (some ((-2), D)) else (if v1 < (D.1 204 1) then (xgrd (xin v1 4000) (some (D.1 205 (v1).toNatClampNeg, D))) else (some ((-2), D)))) := by
  unfold f_X11_letter
  simp only [ll_205, rr_0_5, rr_204_0]
set_option maxHeartbeats 2000000 in
theorem e_X11_choose_34 (F P : Nat) (rec_5 : Nat → Int64 → Int32 → Int32 → xDt → Option (Int32 × xDt)) (v1 : Int64) (v3 : Int32) (v4 : Int32) (D : xDt) : f_X11_choose_34 F P xS0 rec_5 0 v1 v3 v4 D = (xlet (v4 + 1) fun v4_1 => rec_5 0 v1 v3 v4_1 D) := by
  unfold f_X11_choose_34
  rfl
set_option maxHeartbeats 2000000 in
theorem e_X11_choose_5s (F P : Nat) (rec_5 : Nat → Int64 → Int32 → Int32 → xDt → Option (Int32 × xDt)) (v1 : Int64) (v3 : Int32) (v4 : Int32) (D : xDt) : f_X11_choose_5s F P xS0 rec_5 0 v1 v3 v4 D = (if 64 ≤ v4 then (some (v3, D)) else (if (lg_cmp ((jlushr v1 v4) &&& 1) 0) = 0 then (f_X11_choose_34 F P xS0 rec_5 0 v1 v3 v4 D) else (xlet (v3 + 1) fun v3_1 => xgrd (xin v3 64) (xlet (xup D.1 239 (v3).toNatClampNeg v4, D.2) fun D3 => f_X11_choose_34 F P xS0 rec_5 0 v1 v3_1 v4 D3)))) := by
  unfold f_X11_choose_5s
  simp only [ll_239, rr_0_10]
theorem e_X11_choose_5 (F P n : Nat) (v1 : Int64) (v3 : Int32) (v4 : Int32) (D : xDt) : f_X11_choose_5 F P xS0 (n + 1) 0 v1 v3 v4 D = (if 64 ≤ v4 then (some (v3, D)) else (if (lg_cmp ((jlushr v1 v4) &&& 1) 0) = 0 then (f_X11_choose_34 F P xS0 (f_X11_choose_5 F P xS0 n) 0 v1 v3 v4 D) else (xlet (v3 + 1) fun v3_1 => xgrd (xin v3 64) (xlet (xup D.1 239 (v3).toNatClampNeg v4, D.2) fun D3 => f_X11_choose_34 F P xS0 (f_X11_choose_5 F P xS0 n) 0 v1 v3_1 v4 D3)))) := e_X11_choose_5s F P (f_X11_choose_5 F P xS0 n) v1 v3 v4 D
set_option maxHeartbeats 2000000 in
theorem e_X11_choose (F P : Nat) (v1 : Int64) (D : xDt) : f_X11_choose F P xS0 0 v1 D = (f_X11_choose_5 F P xS0 F 0 v1 0 0 D) := by
  unfold f_X11_choose
  rfl
set_option maxHeartbeats 2000000 in
theorem e_X11_keptWorlds (F P : Nat) (D : xDt) : f_X11_keptWorlds F P xS0 0 D = (xlet (xup D.1 0 13 0, D.2) fun D1 => (f_X5_keep F P xS0 4 1 D1).bind fun q2 => xgrd (xkb xS0 q2.1 10) (some (q2.1, q2.2))) := by
  unfold f_X11_keptWorlds
  simp only [rr_0_0, rr_0_1]
set_option maxHeartbeats 2000000 in
theorem e_X11_say (F P : Nat) (D : xDt) : f_X11_say F P xS0 0 D = ((f_X11_truths F P xS0 0 D).bind fun q1 => (f_X11_choose F P xS0 0 q1.1 q1.2).bind fun q2 => if q2.1 ≤ 0 then (some (q2.1, q2.2)) else (if (q2.2.1 1 0) ≤ q2.1 then (some (q2.1, q2.2)) else ((f_X11_keptWorlds F P xS0 0 q2.2).bind fun q3 => xgrd (xkb xS0 q3.1 10) ((f_X10_take F P xS0 1 q3.1 (xr xS0 q3.1 2) 239 q2.1 q3.2).bind fun q5 => some (q2.1, q5))))) := by
  unfold f_X11_say
  simp only [rr_0_0, rr_0_10]
set_option maxHeartbeats 2000000 in
theorem e_X11_event (F P : Nat) (D : xDt) : f_X11_event F P xS0 0 D = ((f_X1_add F P xS0 42 202 D).bind fun q1 => some (q1.1, q1.2)) := by
  unfold f_X11_event
  simp only [rr_0_2, rr_0_4]
set_option maxHeartbeats 2000000 in
theorem e_X11_tieEvents (F P : Nat) (v1 : Int32) (v2 : Int32) (v3 : Int32) (D : xDt) : f_X11_tieEvents F P xS0 0 v1 v2 v3 D = ((f_X11_isAgent F P xS0 v1 D).bind fun q1 => if q1.1 = 0 then (some ((-1), q1.2)) else ((f_X1_has F P xS0 42 v2 q1.2).bind fun q2 => if q2.1 = 0 then (some ((-1), q2.2)) else ((f_X1_has F P xS0 42 v3 q2.2).bind fun q3 => if q3.1 = 0 then (some ((-1), q3.2)) else ((f_X1_merge F P xS0 42 (v1 - 1) v2 v3 q3.2).bind fun q4 => some (q4.1, q4.2))))) := by
  unfold f_X11_tieEvents
  simp only [rr_0_2]
set_option maxHeartbeats 2000000 in
theorem e_X11_change (F P : Nat) (v1 : Int32) (v2 : Int32) (D : xDt) : f_X11_change F P xS0 0 v1 v2 D = ((f_X1_has F P xS0 42 v1 D).bind fun q1 => if q1.1 = 0 then (some ((-1), q1.2)) else ((f_X11_isAtom F P xS0 v2 q1.2).bind fun q2 => if q2.1 = 0 then (some ((-1), q2.2)) else (if (q2.2.1 202 1) ≤ 150 then ((f_X1_setChange F P xS0 42 v1 v2 202 q2.2).bind fun q3 => some (0, q3)) else (some ((-1), q2.2))))) := by
  unfold f_X11_change
  simp only [rr_0_2, rr_0_4]
set_option maxHeartbeats 2000000 in
theorem e_X11_noEvents (F P : Nat) (D : xDt) : f_X11_noEvents F P xS0 0 D = (xlet (D.1 42 0) fun v1_1 => xlet (xup D.1 42 0 0, D.2) fun D2 => some (v1_1, D2)) := by
  unfold f_X11_noEvents
  simp only [rr_0_2]
set_option maxHeartbeats 2000000 in
theorem e_X11_happen (F P : Nat) (D : xDt) : f_X11_happen F P xS0 0 D = ((f_X1_pair F P xS0 42 1 207 D).bind fun q1 => if q1.1 ≤ 64 then (if q1.1 ≤ 0 then (some (q1.1, q1.2)) else ((f_X11_keptWorlds F P xS0 0 q1.2).bind fun q2 => xgrd (xkb xS0 q2.1 10) ((f_X10_take F P xS0 1 q2.1 (xr xS0 q2.1 2) 46 q1.1 q2.2).bind fun q4 => (f_X1_narrowCells F P xS0 42 1 q4).bind fun q5 => (f_X1_changeAtoms F P xS0 42 1 q2.1 207 q5).bind fun q6 => some (q1.1, q6)))) else (some ((-3), q1.2))) := by
  unfold f_X11_happen
  simp only [rr_0_0, rr_0_2, rr_0_6, rr_42_4]
set_option maxHeartbeats 2000000 in
theorem e_X11_back (F P : Nat) (D : xDt) : f_X11_back F P xS0 0 D = (if (D.1 4 2) = 0 then (some ((-1), D)) else ((f_X5_restore F P xS0 4 1 D).bind fun q1 => xlet (xup q1.1 0 13 0, q1.2) fun D2 => some (D2.1 1 0, D2))) := by
  unfold f_X11_back
  simp only [rr_0_0, rr_0_1]
set_option maxHeartbeats 2000000 in
theorem e_X11_contract (F P : Nat) (D : xDt) : f_X11_contract F P xS0 0 D = ((f_X4_settle F P xS0 212 1 D).bind fun q1 => (f_X4_firsts F P xS0 212 1 q1).bind fun q2 => (f_X11_choose F P xS0 0 q2.1 q2.2).bind fun q3 => if (q3.2.1 1 0) ≤ q3.1 then (some (q3.1, q3.2)) else ((f_X11_keptWorlds F P xS0 0 q3.2).bind fun q4 => xgrd (xkb xS0 q4.1 10) ((f_X10_take F P xS0 1 q4.1 214 239 q3.1 q4.2).bind fun q6 => some (q3.1, q6)))) := by
  unfold f_X11_contract
  simp only [rr_0_0, rr_0_10, rr_0_7, rr_212_1]
set_option maxHeartbeats 2000000 in
theorem e_X11_differ (F P : Nat) (v1 : Int32) (v2 : Int32) (D : xDt) : f_X11_differ F P xS0 0 v1 v2 D = ((f_X10_has F P xS0 1 v1 D).bind fun q1 => if q1.1 = 0 then (some ((-1), q1.2)) else ((f_X10_has F P xS0 1 v2 q1.2).bind fun q2 => if q2.1 = 0 then (some ((-1), q2.2)) else ((f_X4_difference F P xS0 212 1 v1 v2 q2.2).bind fun q3 => some (q3.1, q3.2)))) := by
  unfold f_X11_differ
  simp only [rr_0_0, rr_0_7]
set_option maxHeartbeats 2000000 in
theorem e_X11_reduce (F P : Nat) (D : xDt) : f_X11_reduce F P xS0 0 D = ((f_X7_apply F P xS0 217 202 D).bind fun q1 => if q1.1 ≤ 0 then (some (q1.1, q1.2)) else ((f_X11_handChanged F P xS0 0 q1.2).bind fun q2 => some (q1.1, q2))) := by
  unfold f_X11_reduce
  simp only [rr_0_4, rr_0_8]
set_option maxHeartbeats 2000000 in
theorem e_X11_decide_35 (F P : Nat) (v1 : Int32) (D : xDt) : f_X11_decide_35 F P xS0 0 v1 D = (xgrd (xin v1 6) (some (D.1 223 (v1).toNatClampNeg, D))) := by
  unfold f_X11_decide_35
  simp only [ll_223, rr_0_9, rr_222_0]
set_option maxHeartbeats 2000000 in
theorem e_X11_decide (F P : Nat) (v1 : Int32) (D : xDt) : f_X11_decide F P xS0 0 v1 D = (if v1 < 0 then (some ((-1), D)) else (if v1 < 6 then (if (D.1 0 14) = 0 then ((f_X0_work F P xS0 222 202 D).bind fun q1 => xlet (xup q1.1 0 14 1, q1.2) fun D2 => f_X11_decide_35 F P xS0 0 v1 D2) else (f_X11_decide_35 F P xS0 0 v1 D)) else (some ((-1), D)))) := by
  unfold f_X11_decide
  simp only [rr_0_4, rr_0_9]
set_option maxHeartbeats 2000000 in
theorem e_X11_count (F P : Nat) (v1 : Int32) (D : xDt) : f_X11_count F P xS0 0 v1 D = (if v1 = 0 then (some (D.1 1 0, D)) else (if v1 = 1 then (some (D.1 42 0, D)) else (if v1 = 2 then (some (D.1 202 1, D)) else (if v1 = 3 then (some (D.1 192 1, D)) else (if v1 = 4 then (some (D.1 4 2, D)) else (if v1 = 5 then ((f_X2_depth F P xS0 202 240 D).bind fun q1 => some (q1.1, q1.2)) else (some ((-1), D)))))))) := by
  unfold f_X11_count
  simp only [rr_0_0, rr_0_1, rr_0_11, rr_0_2, rr_0_3, rr_0_4]
set_option maxHeartbeats 2000000 in
theorem e_X5_keep_37 (F P : Nat) (v2 : Nat) (s0 : Int32) (s1 : Nat) (D : xDt) : f_X5_keep_37 F P xS0 4 v2 s0 s1 D = (xlet (xup D.1 s1 1 s0, D.2) fun D1 => xlet (xup D1.1 4 2 (jmin ((D1.1 4 2) + 1) 12), D1.2) fun D2 => some (v2, D2)) := by
  unfold f_X5_keep_37
  rfl
set_option maxHeartbeats 2000000 in
theorem e_X5_keep (F P : Nat) (v1 : Nat) (D : xDt) : f_X5_keep F P xS0 4 v1 D = (xgrd (xin (D.1 4 1) 12) ((f_X10_copy F P xS0 (xr xS0 5 (D.1 4 1).toNatClampNeg) v1 D).bind fun q2 => if 12 ≤ ((q2.1 4 1) + 1) then (f_X5_keep_37 F P xS0 4 (xr xS0 5 (D.1 4 1).toNatClampNeg) 0 4 q2) else (f_X5_keep_37 F P xS0 4 (xr xS0 5 (D.1 4 1).toNatClampNeg) ((q2.1 4 1) + 1) 4 q2))) := by
  unfold f_X5_keep
  simp only [ll_5, rr_4_0]
set_option maxHeartbeats 2000000 in
theorem e_X5_restore_19 (F P : Nat) (v1 : Nat) (s0 : Int32) (s1 : Nat) (D : xDt) : f_X5_restore_19 F P xS0 4 v1 s0 s1 D = (xlet (xup D.1 s1 1 s0, D.2) fun D1 => xlet (xup D1.1 4 2 ((D1.1 4 2) - 1), D1.2) fun D2 => xgrd (xin (D2.1 4 1) 12) ((f_X10_copy F P xS0 v1 (xr xS0 5 (D2.1 4 1).toNatClampNeg) D2).bind fun q4 => some q4)) := by
  unfold f_X5_restore_19
  simp only [ll_5, rr_4_0]
set_option maxHeartbeats 2000000 in
theorem e_X5_restore (F P : Nat) (v1 : Nat) (D : xDt) : f_X5_restore F P xS0 4 v1 D = (if (D.1 4 1) ≤ 0 then (f_X5_restore_19 F P xS0 4 v1 11 4 D) else (f_X5_restore_19 F P xS0 4 v1 ((D.1 4 1) - 1) 4 D)) := by
  unfold f_X5_restore
  rfl
set_option maxHeartbeats 2000000 in
theorem e_X1_has (F P : Nat) (v1 : Int32) (D : xDt) : f_X1_has F P xS0 42 v1 D = (if v1 < 0 then (f_X1_has_16 F P xS0 D) else (if (D.1 42 0) ≤ v1 then (f_X1_has_16 F P xS0 D) else (some (1, D)))) := by
  unfold f_X1_has
  rfl
set_option maxHeartbeats 2000000 in
theorem e_X1_add_79s (F P : Nat) (rec_79 : Nat → Int32 → Int32 → xDt → Option (Int32 × xDt)) (v2 : Int32) (v3 : Int32) (D : xDt) : f_X1_add_79s F P xS0 rec_79 42 v2 v3 D = (if 4 ≤ v3 then (some (v2, D)) else (xgrd (xin ((v3 * 8) + v2) 32) (xlet (xup D.1 44 ((v3 * 8) + v2).toNatClampNeg (jishl 1 v2), D.2) fun D2 => xlet (v3 + 1) fun v3_3 => rec_79 42 v2 v3_3 D2))) := by
  unfold f_X1_add_79s
  simp only [ll_44, rr_42_2]
theorem e_X1_add_79 (F P n : Nat) (v2 : Int32) (v3 : Int32) (D : xDt) : f_X1_add_79 F P xS0 (n + 1) 42 v2 v3 D = (if 4 ≤ v3 then (some (v2, D)) else (xgrd (xin ((v3 * 8) + v2) 32) (xlet (xup D.1 44 ((v3 * 8) + v2).toNatClampNeg (jishl 1 v2), D.2) fun D2 => xlet (v3 + 1) fun v3_3 => (f_X1_add_79 F P xS0 n) 42 v2 v3_3 D2))) := e_X1_add_79s F P (f_X1_add_79 F P xS0 n) v2 v3 D
set_option maxHeartbeats 2000000 in
theorem e_X1_add_48s (F P : Nat) (rec_48 : Nat → Int32 → Int32 → xDt → Option (Int32 × xDt)) (v2 : Int32) (v3 : Int32) (D : xDt) : f_X1_add_48s F P xS0 rec_48 42 v2 v3 D = (if 8 ≤ v3 then (f_X1_add_79 F P xS0 F 42 v2 0 D) else (xgrd (xin (((v2 * 9) + 1) + v3) 72) (xlet (xup D.1 (xr xS0 43 (((v2 * 9) + 1) + v3).toNatClampNeg) 1 0, D.2) fun D2 => xlet (v3 + 1) fun v3_3 => rec_48 42 v2 v3_3 D2))) := by
  unfold f_X1_add_48s
  simp only [ll_43, rr_42_1]
theorem e_X1_add_48 (F P n : Nat) (v2 : Int32) (v3 : Int32) (D : xDt) : f_X1_add_48 F P xS0 (n + 1) 42 v2 v3 D = (if 8 ≤ v3 then (f_X1_add_79 F P xS0 F 42 v2 0 D) else (xgrd (xin (((v2 * 9) + 1) + v3) 72) (xlet (xup D.1 (xr xS0 43 (((v2 * 9) + 1) + v3).toNatClampNeg) 1 0, D.2) fun D2 => xlet (v3 + 1) fun v3_3 => (f_X1_add_48 F P xS0 n) 42 v2 v3_3 D2))) := e_X1_add_48s F P (f_X1_add_48 F P xS0 n) v2 v3 D
set_option maxHeartbeats 2000000 in
theorem e_X1_add (F P : Nat) (v1 : Nat) (D : xDt) : f_X1_add F P xS0 42 v1 D = (if 8 ≤ (D.1 42 0) then (some ((-1), D)) else (if (D.1 v1 1) ≤ 150 then (xlet (xup D.1 42 0 ((D.1 42 0) + 1), D.2) fun D1 => xlet (D.1 42 0) fun v2_2 => xgrd (xin (v2_2 * 9) 72) ((f_X2_copy F P xS0 (xr xS0 43 (v2_2 * 9).toNatClampNeg) v1 D1).bind fun q4 => f_X1_add_48 F P xS0 F 42 v2_2 0 q4)) else (some ((-1), D)))) := by
  unfold f_X1_add
  simp only [ll_43, rr_42_1]
set_option maxHeartbeats 2000000 in
theorem e_X1_setChange (F P : Nat) (v1 : Int32) (v2 : Int32) (v3 : Nat) (D : xDt) : f_X1_setChange F P xS0 42 v1 v2 v3 D = (xgrd (xin (((v1 * 9) + 1) + v2) 72) ((f_X2_copy F P xS0 (xr xS0 43 (((v1 * 9) + 1) + v2).toNatClampNeg) v3 D).bind fun q2 => some q2)) := by
  unfold f_X1_setChange
  simp only [ll_43, rr_42_1]
set_option maxHeartbeats 2000000 in
theorem e_X1_merge_61 (F P : Nat) (rec_30 : Nat → Int32 → Int32 → Int32 → xDt → Option (Int32 × xDt)) (v4 : Int32) (v5 : Int32) (v6 : Int32) (D : xDt) : f_X1_merge_61 F P xS0 rec_30 42 v4 v5 v6 D = (xlet (v6 + 1) fun v6_1 => rec_30 42 v4 v5 v6_1 D) := by
  unfold f_X1_merge_61
  rfl
set_option maxHeartbeats 2000000 in
theorem e_X1_merge_30s (F P : Nat) (rec_30 : Nat → Int32 → Int32 → Int32 → xDt → Option (Int32 × xDt)) (v4 : Int32) (v5 : Int32) (v6 : Int32) (D : xDt) : f_X1_merge_30s F P xS0 rec_30 42 v4 v5 v6 D = (if (D.1 42 0) ≤ v6 then ((f_J6_bitCount_0f7a4 F P xS0 v5 D).bind fun q1 => some (q1.1, q1.2)) else (if ((jishr v5 v6) &&& 1) = 0 then (f_X1_merge_61 F P xS0 rec_30 42 v4 v5 v6 D) else (xgrd (xin (v4 + v6) 32) (xlet (xup D.1 44 (v4 + v6).toNatClampNeg v5, D.2) fun D3 => f_X1_merge_61 F P xS0 rec_30 42 v4 v5 v6 D3)))) := by
  unfold f_X1_merge_30s
  simp only [ll_44, rr_42_2]
theorem e_X1_merge_30 (F P n : Nat) (v4 : Int32) (v5 : Int32) (v6 : Int32) (D : xDt) : f_X1_merge_30 F P xS0 (n + 1) 42 v4 v5 v6 D = (if (D.1 42 0) ≤ v6 then ((f_J6_bitCount_0f7a4 F P xS0 v5 D).bind fun q1 => some (q1.1, q1.2)) else (if ((jishr v5 v6) &&& 1) = 0 then (f_X1_merge_61 F P xS0 (f_X1_merge_30 F P xS0 n) 42 v4 v5 v6 D) else (xgrd (xin (v4 + v6) 32) (xlet (xup D.1 44 (v4 + v6).toNatClampNeg v5, D.2) fun D3 => f_X1_merge_61 F P xS0 (f_X1_merge_30 F P xS0 n) 42 v4 v5 v6 D3)))) := e_X1_merge_30s F P (f_X1_merge_30 F P xS0 n) v4 v5 v6 D
set_option maxHeartbeats 2000000 in
theorem e_X1_merge (F P : Nat) (v1 : Int32) (v2 : Int32) (v3 : Int32) (D : xDt) : f_X1_merge F P xS0 42 v1 v2 v3 D = (xlet (v1 * 8) fun v4_1 => xgrd (xin (v4_1 + v2) 32) (xgrd (xin (v4_1 + v3) 32) (xlet ((D.1 44 (v4_1 + v2).toNatClampNeg) ||| (D.1 44 (v4_1 + v3).toNatClampNeg)) fun v5_4 => f_X1_merge_30 F P xS0 F 42 v4_1 v5_4 0 D))) := by
  unfold f_X1_merge
  simp only [ll_44, rr_42_2]
set_option maxHeartbeats 2000000 in
theorem e_X1_pair_104 (F P : Nat) (rec_41 : Nat → Nat → Int32 → Int32 → xDt → Option (Int32 × xDt)) (rec_53 : Nat → Nat → Int32 → Int32 → Int32 → xDt → Option (Int32 × xDt)) (v1 : Nat) (v3 : Int32) (v4 : Int32) (v5 : Int32) (D : xDt) : f_X1_pair_104 F P xS0 rec_41 rec_53 42 v1 v3 v4 v5 D = (xlet (v5 + 1) fun v5_1 => rec_53 42 v1 v3 v4 v5_1 D) := by
  unfold f_X1_pair_104
  rfl
set_option maxHeartbeats 2000000 in
theorem e_X1_pair_101 (F P : Nat) (rec_41 : Nat → Nat → Int32 → Int32 → xDt → Option (Int32 × xDt)) (rec_53 : Nat → Nat → Int32 → Int32 → Int32 → xDt → Option (Int32 × xDt)) (v1 : Nat) (v3 : Int32) (v4 : Int32) (v5 : Int32) (D : xDt) : f_X1_pair_101 F P xS0 rec_41 rec_53 42 v1 v3 v4 v5 D = (xlet (v3 + 1) fun v3_1 => f_X1_pair_104 F P xS0 rec_41 rec_53 42 v1 v3_1 v4 v5 D) := by
  unfold f_X1_pair_101
  rfl
set_option maxHeartbeats 2000000 in
theorem e_X1_pair_53s (F P : Nat) (rec_41 : Nat → Nat → Int32 → Int32 → xDt → Option (Int32 × xDt)) (rec_53 : Nat → Nat → Int32 → Int32 → Int32 → xDt → Option (Int32 × xDt)) (v1 : Nat) (v3 : Int32) (v4 : Int32) (v5 : Int32) (D : xDt) : f_X1_pair_53s F P xS0 rec_41 rec_53 42 v1 v3 v4 v5 D = (if (D.1 42 0) ≤ v5 then (xlet (v4 + 1) fun v4_1 => rec_41 42 v1 v3 v4_1 D) else (xgrd (xin v5 8) (if (lg_cmp ((jlushr (D.2 45 (v5).toNatClampNeg) v4) &&& 1) 0) = 0 then (f_X1_pair_104 F P xS0 rec_41 rec_53 42 v1 v3 v4 v5 D) else (if 64 ≤ v3 then (f_X1_pair_101 F P xS0 rec_41 rec_53 42 v1 v3 v4 v5 D) else (xgrd (xin v3 64) (xlet (xup D.1 46 (v3).toNatClampNeg v4, D.2) fun D4 => xgrd (xin v3 64) (xlet (xup D4.1 47 (v3).toNatClampNeg v5, D4.2) fun D6 => f_X1_pair_101 F P xS0 rec_41 rec_53 42 v1 v3 v4 v5 D6))))))) := by
  unfold f_X1_pair_53s
  simp only [ll_45, ll_46, ll_47, rr_42_3, rr_42_4, rr_42_5]
theorem e_X1_pair_53 (F P n : Nat) (rec_41 : Nat → Nat → Int32 → Int32 → xDt → Option (Int32 × xDt)) (v1 : Nat) (v3 : Int32) (v4 : Int32) (v5 : Int32) (D : xDt) : f_X1_pair_53 F P xS0 rec_41 (n + 1) 42 v1 v3 v4 v5 D = (if (D.1 42 0) ≤ v5 then (xlet (v4 + 1) fun v4_1 => rec_41 42 v1 v3 v4_1 D) else (xgrd (xin v5 8) (if (lg_cmp ((jlushr (D.2 45 (v5).toNatClampNeg) v4) &&& 1) 0) = 0 then (f_X1_pair_104 F P xS0 rec_41 (f_X1_pair_53 F P xS0 rec_41 n) 42 v1 v3 v4 v5 D) else (if 64 ≤ v3 then (f_X1_pair_101 F P xS0 rec_41 (f_X1_pair_53 F P xS0 rec_41 n) 42 v1 v3 v4 v5 D) else (xgrd (xin v3 64) (xlet (xup D.1 46 (v3).toNatClampNeg v4, D.2) fun D4 => xgrd (xin v3 64) (xlet (xup D4.1 47 (v3).toNatClampNeg v5, D4.2) fun D6 => f_X1_pair_101 F P xS0 rec_41 (f_X1_pair_53 F P xS0 rec_41 n) 42 v1 v3 v4 v5 D6))))))) := e_X1_pair_53s F P rec_41 (f_X1_pair_53 F P xS0 rec_41 n) v1 v3 v4 v5 D
set_option maxHeartbeats 2000000 in
theorem e_X1_pair_41s (F P : Nat) (rec_41 : Nat → Nat → Int32 → Int32 → xDt → Option (Int32 × xDt)) (v1 : Nat) (v3 : Int32) (v4 : Int32) (D : xDt) : f_X1_pair_41s F P xS0 rec_41 42 v1 v3 v4 D = (if (D.1 v1 0) ≤ v4 then (some (v3, D)) else (f_X1_pair_53 F P xS0 rec_41 F 42 v1 v3 v4 0 D)) := by
  unfold f_X1_pair_41s
  rfl
theorem e_X1_pair_41 (F P n : Nat) (v1 : Nat) (v3 : Int32) (v4 : Int32) (D : xDt) : f_X1_pair_41 F P xS0 (n + 1) 42 v1 v3 v4 D = (if (D.1 v1 0) ≤ v4 then (some (v3, D)) else (f_X1_pair_53 F P xS0 (f_X1_pair_41 F P xS0 n) F 42 v1 v3 v4 0 D)) := e_X1_pair_41s F P (f_X1_pair_41 F P xS0 n) v1 v3 v4 D
set_option maxHeartbeats 2000000 in
theorem e_X1_pair_2s (F P : Nat) (rec_2 : Nat → Nat → Nat → Int32 → xDt → Option (Int32 × xDt)) (v1 : Nat) (v2 : Nat) (v3 : Int32) (D : xDt) : f_X1_pair_2s F P xS0 rec_2 42 v1 v2 v3 D = (if (D.1 42 0) ≤ v3 then (f_X1_pair_41 F P xS0 F 42 v1 0 0 D) else (xgrd (xin (v3 * 9) 72) ((f_X3_where F P xS0 v2 (xr xS0 43 (v3 * 9).toNatClampNeg) v1 D).bind fun q2 => xgrd (xin v3 8) (xlet (q2.2.1, xup q2.2.2 45 (v3).toNatClampNeg q2.1) fun D4 => xlet (v3 + 1) fun v3_5 => rec_2 42 v1 v2 v3_5 D4)))) := by
  unfold f_X1_pair_2s
  simp only [ll_43, ll_45, rr_42_1, rr_42_3]
theorem e_X1_pair_2 (F P n : Nat) (v1 : Nat) (v2 : Nat) (v3 : Int32) (D : xDt) : f_X1_pair_2 F P xS0 (n + 1) 42 v1 v2 v3 D = (if (D.1 42 0) ≤ v3 then (f_X1_pair_41 F P xS0 F 42 v1 0 0 D) else (xgrd (xin (v3 * 9) 72) ((f_X3_where F P xS0 v2 (xr xS0 43 (v3 * 9).toNatClampNeg) v1 D).bind fun q2 => xgrd (xin v3 8) (xlet (q2.2.1, xup q2.2.2 45 (v3).toNatClampNeg q2.1) fun D4 => xlet (v3 + 1) fun v3_5 => (f_X1_pair_2 F P xS0 n) 42 v1 v2 v3_5 D4)))) := e_X1_pair_2s F P (f_X1_pair_2 F P xS0 n) v1 v2 v3 D
set_option maxHeartbeats 2000000 in
theorem e_X1_pair (F P : Nat) (v1 : Nat) (v2 : Nat) (D : xDt) : f_X1_pair F P xS0 42 v1 v2 D = (f_X1_pair_2 F P xS0 F 42 v1 v2 0 D) := by
  unfold f_X1_pair
  rfl
set_option maxHeartbeats 2000000 in
theorem e_X1_pairsOf_5s (F P : Nat) (rec_5 : Nat → Int32 → Int32 → Int64 → Int32 → xDt → Option (Int64 × xDt)) (v1 : Int32) (v2 : Int32) (v3 : Int64) (v5 : Int32) (D : xDt) : f_X1_pairsOf_5s F P xS0 rec_5 42 v1 v2 v3 v5 D = (if v2 ≤ v5 then (some (v3, D)) else (xgrd (xin v5 64) (xlet (v3 ||| (jlshl (((jishr v1 (D.1 47 (v5).toNatClampNeg)) &&& 1).toInt64) v5)) fun v3_2 => xlet (v5 + 1) fun v5_3 => rec_5 42 v1 v2 v3_2 v5_3 D))) := by
  unfold f_X1_pairsOf_5s
  simp only [ll_47, rr_42_5]
theorem e_X1_pairsOf_5 (F P n : Nat) (v1 : Int32) (v2 : Int32) (v3 : Int64) (v5 : Int32) (D : xDt) : f_X1_pairsOf_5 F P xS0 (n + 1) 42 v1 v2 v3 v5 D = (if v2 ≤ v5 then (some (v3, D)) else (xgrd (xin v5 64) (xlet (v3 ||| (jlshl (((jishr v1 (D.1 47 (v5).toNatClampNeg)) &&& 1).toInt64) v5)) fun v3_2 => xlet (v5 + 1) fun v5_3 => (f_X1_pairsOf_5 F P xS0 n) 42 v1 v2 v3_2 v5_3 D))) := e_X1_pairsOf_5s F P (f_X1_pairsOf_5 F P xS0 n) v1 v2 v3 v5 D
set_option maxHeartbeats 2000000 in
theorem e_X1_pairsOf (F P : Nat) (v1 : Int32) (v2 : Int32) (D : xDt) : f_X1_pairsOf F P xS0 42 v1 v2 D = (f_X1_pairsOf_5 F P xS0 F 42 v1 v2 0 0 D) := by
  unfold f_X1_pairsOf
  rfl
set_option maxHeartbeats 2000000 in
theorem e_X1_narrowCells_9s (F P : Nat) (rec_2 : Nat → Nat → Int32 → xDt → Option (xDt)) (rec_9 : Nat → Nat → Int32 → Int32 → xDt → Option (xDt)) (v1 : Nat) (v2 : Int32) (v3 : Int32) (D : xDt) : f_X1_narrowCells_9s F P xS0 rec_2 rec_9 42 v1 v2 v3 D = (if (D.1 v1 0) ≤ v3 then (xlet (v2 + 1) fun v2_1 => rec_2 42 v1 v2_1 D) else (xgrd (xin v3 64) (xgrd (xin ((v2 * 8) + (D.1 47 (v3).toNatClampNeg)) 32) (xlet (D.1 44 ((v2 * 8) + (D.1 47 (v3).toNatClampNeg)).toNatClampNeg) fun v4_4 => xgrd (xin ((v2 * 64) + v3) (xl xS0 (xr xS0 v1 2))) ((f_X1_pairsOf F P xS0 42 v4_4 (D.1 v1 0) D).bind fun q6 => xgrd (xin ((v2 * 64) + v3) (xl xS0 (xr xS0 v1 2))) (xlet (q6.2.1, xup q6.2.2 (xr xS0 v1 2) ((v2 * 64) + v3).toNatClampNeg ((D.2 (xr xS0 v1 2) ((v2 * 64) + v3).toNatClampNeg) &&& q6.1)) fun D8 => xlet (v3 + 1) fun v3_9 => rec_9 42 v1 v2 v3_9 D8)))))) := by
  unfold f_X1_narrowCells_9s
  simp only [ll_44, ll_47, rr_42_2, rr_42_5]
theorem e_X1_narrowCells_9 (F P n : Nat) (rec_2 : Nat → Nat → Int32 → xDt → Option (xDt)) (v1 : Nat) (v2 : Int32) (v3 : Int32) (D : xDt) : f_X1_narrowCells_9 F P xS0 rec_2 (n + 1) 42 v1 v2 v3 D = (if (D.1 v1 0) ≤ v3 then (xlet (v2 + 1) fun v2_1 => rec_2 42 v1 v2_1 D) else (xgrd (xin v3 64) (xgrd (xin ((v2 * 8) + (D.1 47 (v3).toNatClampNeg)) 32) (xlet (D.1 44 ((v2 * 8) + (D.1 47 (v3).toNatClampNeg)).toNatClampNeg) fun v4_4 => xgrd (xin ((v2 * 64) + v3) (xl xS0 (xr xS0 v1 2))) ((f_X1_pairsOf F P xS0 42 v4_4 (D.1 v1 0) D).bind fun q6 => xgrd (xin ((v2 * 64) + v3) (xl xS0 (xr xS0 v1 2))) (xlet (q6.2.1, xup q6.2.2 (xr xS0 v1 2) ((v2 * 64) + v3).toNatClampNeg ((D.2 (xr xS0 v1 2) ((v2 * 64) + v3).toNatClampNeg) &&& q6.1)) fun D8 => xlet (v3 + 1) fun v3_9 => (f_X1_narrowCells_9 F P xS0 rec_2 n) 42 v1 v2 v3_9 D8)))))) := e_X1_narrowCells_9s F P rec_2 (f_X1_narrowCells_9 F P xS0 rec_2 n) v1 v2 v3 D
set_option maxHeartbeats 2000000 in
theorem e_X1_narrowCells_2s (F P : Nat) (rec_2 : Nat → Nat → Int32 → xDt → Option (xDt)) (v1 : Nat) (v2 : Int32) (D : xDt) : f_X1_narrowCells_2s F P xS0 rec_2 42 v1 v2 D = (if 4 ≤ v2 then (some D) else (f_X1_narrowCells_9 F P xS0 rec_2 F 42 v1 v2 0 D)) := by
  unfold f_X1_narrowCells_2s
  rfl
theorem e_X1_narrowCells_2 (F P n : Nat) (v1 : Nat) (v2 : Int32) (D : xDt) : f_X1_narrowCells_2 F P xS0 (n + 1) 42 v1 v2 D = (if 4 ≤ v2 then (some D) else (f_X1_narrowCells_9 F P xS0 (f_X1_narrowCells_2 F P xS0 n) F 42 v1 v2 0 D)) := e_X1_narrowCells_2s F P (f_X1_narrowCells_2 F P xS0 n) v1 v2 D
set_option maxHeartbeats 2000000 in
theorem e_X1_narrowCells (F P : Nat) (v1 : Nat) (D : xDt) : f_X1_narrowCells F P xS0 42 v1 D = (f_X1_narrowCells_2 F P xS0 F 42 v1 0 D) := by
  unfold f_X1_narrowCells
  rfl
set_option maxHeartbeats 2000000 in
theorem e_X1_changeAtom_52 (F P : Nat) (rec_3 : Nat → Nat → Int32 → Int32 → Int64 → Int32 → xDt → Option (xDt)) (v1 : Nat) (v2 : Int32) (v3 : Int32) (v4 : Int64) (v6 : Int32) (D : xDt) : f_X1_changeAtom_52 F P xS0 rec_3 42 v1 v2 v3 v4 v6 D = (xlet (v6 + 1) fun v6_1 => rec_3 42 v1 v2 v3 v4 v6_1 D) := by
  unfold f_X1_changeAtom_52
  rfl
set_option maxHeartbeats 2000000 in
theorem e_X1_changeAtom_49 (F P : Nat) (rec_3 : Nat → Nat → Int32 → Int32 → Int64 → Int32 → xDt → Option (xDt)) (v1 : Nat) (v2 : Int32) (v3 : Int32) (v4 : Int64) (v6 : Int32) (s0 : Int32) (s1 : Int32) (s2 : Int32) (s3 : Nat) (D : xDt) : f_X1_changeAtom_49 F P xS0 rec_3 42 v1 v2 v3 v4 v6 s0 s1 s2 s3 D = ((f_X10_setAtom F P xS0 s3 s2 s1 s0 D).bind fun q1 => f_X1_changeAtom_52 F P xS0 rec_3 42 v1 v2 v3 v4 v6 q1) := by
  unfold f_X1_changeAtom_49
  rfl
set_option maxHeartbeats 2000000 in
theorem e_X1_changeAtom_3s (F P : Nat) (rec_3 : Nat → Nat → Int32 → Int32 → Int64 → Int32 → xDt → Option (xDt)) (v1 : Nat) (v2 : Int32) (v3 : Int32) (v4 : Int64) (v6 : Int32) (D : xDt) : f_X1_changeAtom_3s F P xS0 rec_3 42 v1 v2 v3 v4 v6 D = (if (D.1 v1 0) ≤ v6 then (some D) else (xgrd (xin v6 64) (if (D.1 47 (v6).toNatClampNeg) = v2 then (xgrd (xin v6 64) (if (lg_cmp ((jlushr v4 (D.1 46 (v6).toNatClampNeg)) &&& 1) 0) = 0 then (f_X1_changeAtom_49 F P xS0 rec_3 42 v1 v2 v3 v4 v6 0 v3 v6 v1 D) else (f_X1_changeAtom_49 F P xS0 rec_3 42 v1 v2 v3 v4 v6 1 v3 v6 v1 D))) else (f_X1_changeAtom_52 F P xS0 rec_3 42 v1 v2 v3 v4 v6 D)))) := by
  unfold f_X1_changeAtom_3s
  simp only [ll_46, ll_47, rr_42_4, rr_42_5]
theorem e_X1_changeAtom_3 (F P n : Nat) (v1 : Nat) (v2 : Int32) (v3 : Int32) (v4 : Int64) (v6 : Int32) (D : xDt) : f_X1_changeAtom_3 F P xS0 (n + 1) 42 v1 v2 v3 v4 v6 D = (if (D.1 v1 0) ≤ v6 then (some D) else (xgrd (xin v6 64) (if (D.1 47 (v6).toNatClampNeg) = v2 then (xgrd (xin v6 64) (if (lg_cmp ((jlushr v4 (D.1 46 (v6).toNatClampNeg)) &&& 1) 0) = 0 then (f_X1_changeAtom_49 F P xS0 (f_X1_changeAtom_3 F P xS0 n) 42 v1 v2 v3 v4 v6 0 v3 v6 v1 D) else (f_X1_changeAtom_49 F P xS0 (f_X1_changeAtom_3 F P xS0 n) 42 v1 v2 v3 v4 v6 1 v3 v6 v1 D))) else (f_X1_changeAtom_52 F P xS0 (f_X1_changeAtom_3 F P xS0 n) 42 v1 v2 v3 v4 v6 D)))) := e_X1_changeAtom_3s F P (f_X1_changeAtom_3 F P xS0 n) v1 v2 v3 v4 v6 D
set_option maxHeartbeats 2000000 in
theorem e_X1_changeAtom (F P : Nat) (v1 : Nat) (v2 : Int32) (v3 : Int32) (v4 : Int64) (D : xDt) : f_X1_changeAtom F P xS0 42 v1 v2 v3 v4 D = (f_X1_changeAtom_3 F P xS0 F 42 v1 v2 v3 v4 0 D) := by
  unfold f_X1_changeAtom
  rfl
set_option maxHeartbeats 2000000 in
theorem e_X1_changeAtoms_63 (F P : Nat) (rec_3 : Nat → Nat → Nat → Nat → Int32 → xDt → Option (xDt)) (rec_15 : Nat → Nat → Nat → Nat → Int32 → Int32 → xDt → Option (xDt)) (v1 : Nat) (v2 : Nat) (v3 : Nat) (v4 : Int32) (v5 : Int32) (D : xDt) : f_X1_changeAtoms_63 F P xS0 rec_3 rec_15 42 v1 v2 v3 v4 v5 D = (xlet (v5 + 1) fun v5_1 => rec_15 42 v1 v2 v3 v4 v5_1 D) := by
  unfold f_X1_changeAtoms_63
  rfl
set_option maxHeartbeats 2000000 in
theorem e_X1_changeAtoms_15s (F P : Nat) (rec_3 : Nat → Nat → Nat → Nat → Int32 → xDt → Option (xDt)) (rec_15 : Nat → Nat → Nat → Nat → Int32 → Int32 → xDt → Option (xDt)) (v1 : Nat) (v2 : Nat) (v3 : Nat) (v4 : Int32) (v5 : Int32) (D : xDt) : f_X1_changeAtoms_15s F P xS0 rec_3 rec_15 42 v1 v2 v3 v4 v5 D = (if 8 ≤ v5 then (xlet (v4 + 1) fun v4_1 => rec_3 42 v1 v2 v3 v4_1 D) else (xgrd (xin (((v4 * 9) + 1) + v5) 72) (if (D.1 (xr xS0 43 (((v4 * 9) + 1) + v5).toNatClampNeg) 1) ≤ 0 then (f_X1_changeAtoms_63 F P xS0 rec_3 rec_15 42 v1 v2 v3 v4 v5 D) else ((f_X3_where F P xS0 v3 (xr xS0 43 (((v4 * 9) + 1) + v5).toNatClampNeg) v2 D).bind fun q3 => (f_X1_changeAtom F P xS0 42 v1 v4 v5 q3.1 q3.2).bind fun q4 => f_X1_changeAtoms_63 F P xS0 rec_3 rec_15 42 v1 v2 v3 v4 v5 q4)))) := by
  unfold f_X1_changeAtoms_15s
  simp only [ll_43, rr_42_1]
theorem e_X1_changeAtoms_15 (F P n : Nat) (rec_3 : Nat → Nat → Nat → Nat → Int32 → xDt → Option (xDt)) (v1 : Nat) (v2 : Nat) (v3 : Nat) (v4 : Int32) (v5 : Int32) (D : xDt) : f_X1_changeAtoms_15 F P xS0 rec_3 (n + 1) 42 v1 v2 v3 v4 v5 D = (if 8 ≤ v5 then (xlet (v4 + 1) fun v4_1 => rec_3 42 v1 v2 v3 v4_1 D) else (xgrd (xin (((v4 * 9) + 1) + v5) 72) (if (D.1 (xr xS0 43 (((v4 * 9) + 1) + v5).toNatClampNeg) 1) ≤ 0 then (f_X1_changeAtoms_63 F P xS0 rec_3 (f_X1_changeAtoms_15 F P xS0 rec_3 n) 42 v1 v2 v3 v4 v5 D) else ((f_X3_where F P xS0 v3 (xr xS0 43 (((v4 * 9) + 1) + v5).toNatClampNeg) v2 D).bind fun q3 => (f_X1_changeAtom F P xS0 42 v1 v4 v5 q3.1 q3.2).bind fun q4 => f_X1_changeAtoms_63 F P xS0 rec_3 (f_X1_changeAtoms_15 F P xS0 rec_3 n) 42 v1 v2 v3 v4 v5 q4)))) := e_X1_changeAtoms_15s F P rec_3 (f_X1_changeAtoms_15 F P xS0 rec_3 n) v1 v2 v3 v4 v5 D
set_option maxHeartbeats 2000000 in
theorem e_X1_changeAtoms_3s (F P : Nat) (rec_3 : Nat → Nat → Nat → Nat → Int32 → xDt → Option (xDt)) (v1 : Nat) (v2 : Nat) (v3 : Nat) (v4 : Int32) (D : xDt) : f_X1_changeAtoms_3s F P xS0 rec_3 42 v1 v2 v3 v4 D = (if (D.1 42 0) ≤ v4 then (some D) else (f_X1_changeAtoms_15 F P xS0 rec_3 F 42 v1 v2 v3 v4 0 D)) := by
  unfold f_X1_changeAtoms_3s
  rfl
theorem e_X1_changeAtoms_3 (F P n : Nat) (v1 : Nat) (v2 : Nat) (v3 : Nat) (v4 : Int32) (D : xDt) : f_X1_changeAtoms_3 F P xS0 (n + 1) 42 v1 v2 v3 v4 D = (if (D.1 42 0) ≤ v4 then (some D) else (f_X1_changeAtoms_15 F P xS0 (f_X1_changeAtoms_3 F P xS0 n) F 42 v1 v2 v3 v4 0 D)) := e_X1_changeAtoms_3s F P (f_X1_changeAtoms_3 F P xS0 n) v1 v2 v3 v4 D
set_option maxHeartbeats 2000000 in
theorem e_X1_changeAtoms (F P : Nat) (v1 : Nat) (v2 : Nat) (v3 : Nat) (D : xDt) : f_X1_changeAtoms F P xS0 42 v1 v2 v3 D = (f_X1_changeAtoms_3 F P xS0 F 42 v1 v2 v3 0 D) := by
  unfold f_X1_changeAtoms
  rfl
set_option maxHeartbeats 2000000 in
theorem e_X6_collect (F P : Nat) (v1 : Int32) (D : xDt) : f_X6_collect F P xS0 192 v1 D = ((f_X6_isSign F P xS0 v1 D).bind fun q1 => if q1.1 = 0 then (some ((-1), q1.2)) else (if (q1.2.1 192 1) < 200 then (xlet (xup q1.2.1 192 1 ((q1.2.1 192 1) + 1), q1.2.2) fun D2 => xgrd (xin (q1.2.1 192 1) 200) (xlet (xup D2.1 193 (q1.2.1 192 1).toNatClampNeg (ji2c (ji2c v1)), D2.2) fun D4 => some (D4.1 192 1, D4))) else (some ((-1), q1.2)))) := by
  unfold f_X6_collect
  simp only [ll_193, rr_192_0]
set_option maxHeartbeats 2000000 in
theorem e_X6_collectFour_44 (F P : Nat) (rec_5 : Nat → Int32 → Int32 → Int32 → xDt → Option (Int32 × xDt)) (v1 : Int32) (v3 : Int32) (s0 : Int32) (s1 : Int32) (D : xDt) : f_X6_collectFour_44 F P xS0 rec_5 192 v1 v3 s0 s1 D = (xlet (s1 + s0) fun v2_1 => xlet (v3 + (-8)) fun v3_2 => rec_5 192 v1 v2_1 v3_2 D) := by
  unfold f_X6_collectFour_44
  rfl
set_option maxHeartbeats 2000000 in
theorem e_X6_collectFour_33 (F P : Nat) (rec_5 : Nat → Int32 → Int32 → Int32 → xDt → Option (Int32 × xDt)) (v1 : Int32) (v2 : Int32) (v3 : Int32) (v4 : Int32) (D : xDt) : f_X6_collectFour_33 F P xS0 rec_5 192 v1 v2 v3 v4 D = (if v4 = 0 then (f_X6_collectFour_44 F P xS0 rec_5 192 v1 v3 0 v2 D) else (f_X6_collectFour_44 F P xS0 rec_5 192 v1 v3 1 v2 D)) := by
  unfold f_X6_collectFour_33
  rfl
set_option maxHeartbeats 2000000 in
theorem e_X6_collectFour_94 (F P : Nat) (rec_69 : Nat → Int32 → Int32 → xDt → Option (Int32 × xDt)) (v1 : Int32) (v3 : Int32) (D : xDt) : f_X6_collectFour_94 F P xS0 rec_69 192 v1 v3 D = (xlet (v3 + (-8)) fun v3_1 => rec_69 192 v1 v3_1 D) := by
  unfold f_X6_collectFour_94
  rfl
set_option maxHeartbeats 2000000 in
theorem e_X6_collectFour_69s (F P : Nat) (rec_69 : Nat → Int32 → Int32 → xDt → Option (Int32 × xDt)) (v1 : Int32) (v3 : Int32) (D : xDt) : f_X6_collectFour_69s F P xS0 rec_69 192 v1 v3 D = (if v3 < 0 then (some (D.1 192 1, D)) else (xlet ((jiushr v1 v3) &&& 255) fun v4_1 => if v4_1 = 0 then (f_X6_collectFour_94 F P xS0 rec_69 192 v1 v3 D) else ((f_X6_collect F P xS0 192 v4_1 D).bind fun q2 => f_X6_collectFour_94 F P xS0 rec_69 192 v1 v3 q2.2))) := by
  unfold f_X6_collectFour_69s
  rfl
theorem e_X6_collectFour_69 (F P n : Nat) (v1 : Int32) (v3 : Int32) (D : xDt) : f_X6_collectFour_69 F P xS0 (n + 1) 192 v1 v3 D = (if v3 < 0 then (some (D.1 192 1, D)) else (xlet ((jiushr v1 v3) &&& 255) fun v4_1 => if v4_1 = 0 then (f_X6_collectFour_94 F P xS0 (f_X6_collectFour_69 F P xS0 n) 192 v1 v3 D) else ((f_X6_collect F P xS0 192 v4_1 D).bind fun q2 => f_X6_collectFour_94 F P xS0 (f_X6_collectFour_69 F P xS0 n) 192 v1 v3 q2.2))) := e_X6_collectFour_69s F P (f_X6_collectFour_69 F P xS0 n) v1 v3 D
set_option maxHeartbeats 2000000 in
theorem e_X6_collectFour_5s (F P : Nat) (rec_5 : Nat → Int32 → Int32 → Int32 → xDt → Option (Int32 × xDt)) (v1 : Int32) (v2 : Int32) (v3 : Int32) (D : xDt) : f_X6_collectFour_5s F P xS0 rec_5 192 v1 v2 v3 D = (if v3 < 0 then (if v2 ≤ (200 - (D.1 192 1)) then (f_X6_collectFour_69 F P xS0 F 192 v1 24 D) else (some ((-1), D))) else (xlet ((jiushr v1 v3) &&& 255) fun v4_1 => if v4_1 = 0 then (f_X6_collectFour_33 F P xS0 rec_5 192 v1 v2 v3 v4_1 D) else ((f_X6_isSign F P xS0 v4_1 D).bind fun q2 => if q2.1 = 0 then (some ((-1), q2.2)) else (f_X6_collectFour_33 F P xS0 rec_5 192 v1 v2 v3 v4_1 q2.2)))) := by
  unfold f_X6_collectFour_5s
  rfl
theorem e_X6_collectFour_5 (F P n : Nat) (v1 : Int32) (v2 : Int32) (v3 : Int32) (D : xDt) : f_X6_collectFour_5 F P xS0 (n + 1) 192 v1 v2 v3 D = (if v3 < 0 then (if v2 ≤ (200 - (D.1 192 1)) then (f_X6_collectFour_69 F P xS0 F 192 v1 24 D) else (some ((-1), D))) else (xlet ((jiushr v1 v3) &&& 255) fun v4_1 => if v4_1 = 0 then (f_X6_collectFour_33 F P xS0 (f_X6_collectFour_5 F P xS0 n) 192 v1 v2 v3 v4_1 D) else ((f_X6_isSign F P xS0 v4_1 D).bind fun q2 => if q2.1 = 0 then (some ((-1), q2.2)) else (f_X6_collectFour_33 F P xS0 (f_X6_collectFour_5 F P xS0 n) 192 v1 v2 v3 v4_1 q2.2)))) := e_X6_collectFour_5s F P (f_X6_collectFour_5 F P xS0 n) v1 v2 v3 D
set_option maxHeartbeats 2000000 in
theorem e_X6_collectFour (F P : Nat) (v1 : Int32) (D : xDt) : f_X6_collectFour F P xS0 192 v1 D = (f_X6_collectFour_5 F P xS0 F 192 v1 0 24 D) := by
  unfold f_X6_collectFour
  rfl
set_option maxHeartbeats 2000000 in
theorem e_X6_wantFirstOne (F P : Nat) (D : xDt) : f_X6_wantFirstOne F P xS0 192 D = (xlet (xup D.1 192 10 0, D.2) fun D1 => xlet (xup D1.1 192 11 1, D1.2) fun D2 => some D2) := by
  unfold f_X6_wantFirstOne
  rfl
set_option maxHeartbeats 2000000 in
theorem e_X6_enter (F P : Nat) (v1 : Int32) (D : xDt) : f_X6_enter F P xS0 192 v1 D = (xlet (xup D.1 192 9 ((D.1 192 9) + 1), D.2) fun D1 => xgrd (xin (D1.1 192 9) 16) (xlet (xup D1.1 196 (D1.1 192 9).toNatClampNeg (ji2c v1), D1.2) fun D3 => xgrd (xin (D3.1 192 9) 16) (xlet (xup D3.1 200 (D3.1 192 9).toNatClampNeg (D3.1 192 10), D3.2) fun D5 => xgrd (xin (D5.1 192 9) 16) (xlet (xup D5.1 201 (D5.1 192 9).toNatClampNeg (0 &&& 1), D5.2) fun D7 => xgrd (xin (D7.1 192 9) 16) (xlet (xup D7.1 197 (D7.1 192 9).toNatClampNeg (D7.1 194 1), D7.2) fun D9 => xgrd (xin (D9.1 192 9) 16) (xlet (xup D9.1 198 (D9.1 192 9).toNatClampNeg (D9.1 194 1), D9.2) fun D11 => xgrd (xin (D11.1 192 9) 16) (xlet (xup D11.1 199 (D11.1 192 9).toNatClampNeg (D11.1 194 1), D11.2) fun D13 => (f_X6_wantFirstOne F P xS0 192 D13).bind fun q14 => some q14))))))) := by
  unfold f_X6_enter
  simp only [ll_196, ll_197, ll_198, ll_199, ll_200, ll_201, rr_192_2, rr_192_3, rr_192_4, rr_192_5, rr_192_6, rr_192_7, rr_192_8]
set_option maxHeartbeats 2000000 in
theorem e_X6_toSign_5s (F P : Nat) (rec_5 : Nat → xDt → Option (xDt)) (D : xDt) : f_X6_toSign_5s F P xS0 rec_5 192 D = (if (D.1 192 1) ≤ (D.1 192 12) then (some D) else (xgrd (xin (D.1 192 12) 200) (if (D.1 193 (D.1 192 12).toNatClampNeg) = 32 then (xlet (xup D.1 192 12 ((D.1 192 12) + 1), D.2) fun D2 => rec_5 192 D2) else (some D)))) := by
  unfold f_X6_toSign_5s
  simp only [ll_193, rr_192_0]
theorem e_X6_toSign_5 (F P n : Nat) (D : xDt) : f_X6_toSign_5 F P xS0 (n + 1) 192 D = (if (D.1 192 1) ≤ (D.1 192 12) then (some D) else (xgrd (xin (D.1 192 12) 200) (if (D.1 193 (D.1 192 12).toNatClampNeg) = 32 then (xlet (xup D.1 192 12 ((D.1 192 12) + 1), D.2) fun D2 => (f_X6_toSign_5 F P xS0 n) 192 D2) else (some D)))) := e_X6_toSign_5s F P (f_X6_toSign_5 F P xS0 n) D
set_option maxHeartbeats 2000000 in
theorem e_X6_toSign (F P : Nat) (v1 : Int32) (D : xDt) : f_X6_toSign F P xS0 192 v1 D = (xlet (xup D.1 192 12 v1, D.2) fun D1 => f_X6_toSign_5 F P xS0 F 192 D1) := by
  unfold f_X6_toSign
  rfl
set_option maxHeartbeats 2000000 in
theorem e_X6_takeOpening_26 (F P : Nat) (v2 : Int32) (D : xDt) : f_X6_takeOpening_26 F P xS0 192 v2 D = ((f_X6_enter F P xS0 192 v2 D).bind fun q1 => (f_X6_toSign F P xS0 192 ((q1.1 192 12) + 1) q1).bind fun q2 => some (1, q2)) := by
  unfold f_X6_takeOpening_26
  rfl
set_option maxHeartbeats 2000000 in
theorem e_X6_takeOpening (F P : Nat) (v1 : Int32) (v2 : Int32) (D : xDt) : f_X6_takeOpening F P xS0 192 v1 v2 D = (if (D.1 192 9) < 15 then (if v1 = 40 then (f_X6_takeOpening_26 F P xS0 192 v2 D) else ((f_X2_add F P xS0 194 v1 D).bind fun q1 => f_X6_takeOpening_26 F P xS0 192 v2 q1.2)) else (some (0, D))) := by
  unfold f_X6_takeOpening
  simp only [rr_192_2]
set_option maxHeartbeats 2000000 in
theorem e_X6_takeAgents_8s (F P : Nat) (rec_8 : Nat → Int32 → Int32 → Int32 → Int32 → xDt → Option (Int32 × xDt)) (v1 : Int32) (v2 : Int32) (v3 : Int32) (v4 : Int32) (D : xDt) : f_X6_takeAgents_8s F P xS0 rec_8 192 v1 v2 v3 v4 D = (if v1 ≤ v4 then (some (v2, D)) else (if (D.1 192 1) ≤ (D.1 192 12) then (some (v2, D)) else (xgrd (xin (D.1 192 12) 200) (if (D.1 193 (D.1 192 12).toNatClampNeg) ≤ v3 then (some (v2, D)) else (xgrd (xin (D.1 192 12) 200) (if 52 < (D.1 193 (D.1 192 12).toNatClampNeg) then (some (v2, D)) else (xgrd (xin (D.1 192 12) 200) (xlet (D.1 193 (D.1 192 12).toNatClampNeg) fun v3_4 => xlet (v2 ||| (jishl 1 (v3_4 - 49))) fun v2_5 => (f_X6_toSign F P xS0 192 ((D.1 192 12) + 1) D).bind fun q6 => xlet (v4 + 1) fun v4_7 => rec_8 192 v1 v2_5 v3_4 v4_7 q6)))))))) := by
  unfold f_X6_takeAgents_8s
  simp only [ll_193, rr_192_0]
theorem e_X6_takeAgents_8 (F P n : Nat) (v1 : Int32) (v2 : Int32) (v3 : Int32) (v4 : Int32) (D : xDt) : f_X6_takeAgents_8 F P xS0 (n + 1) 192 v1 v2 v3 v4 D = (if v1 ≤ v4 then (some (v2, D)) else (if (D.1 192 1) ≤ (D.1 192 12) then (some (v2, D)) else (xgrd (xin (D.1 192 12) 200) (if (D.1 193 (D.1 192 12).toNatClampNeg) ≤ v3 then (some (v2, D)) else (xgrd (xin (D.1 192 12) 200) (if 52 < (D.1 193 (D.1 192 12).toNatClampNeg) then (some (v2, D)) else (xgrd (xin (D.1 192 12) 200) (xlet (D.1 193 (D.1 192 12).toNatClampNeg) fun v3_4 => xlet (v2 ||| (jishl 1 (v3_4 - 49))) fun v2_5 => (f_X6_toSign F P xS0 192 ((D.1 192 12) + 1) D).bind fun q6 => xlet (v4 + 1) fun v4_7 => (f_X6_takeAgents_8 F P xS0 n) 192 v1 v2_5 v3_4 v4_7 q6)))))))) := e_X6_takeAgents_8s F P (f_X6_takeAgents_8 F P xS0 n) v1 v2 v3 v4 D
set_option maxHeartbeats 2000000 in
theorem e_X6_takeAgents (F P : Nat) (v1 : Int32) (D : xDt) : f_X6_takeAgents F P xS0 192 v1 D = (f_X6_takeAgents_8 F P xS0 F 192 v1 0 48 0 D) := by
  unfold f_X6_takeAgents
  rfl
set_option maxHeartbeats 2000000 in
theorem e_X6_takeKnowing_28 (F P : Nat) (v1 : Int32) (s0 : Int32) (s1 : Nat) (D : xDt) : f_X6_takeKnowing_28 F P xS0 192 v1 s0 s1 D = ((f_X6_takeAgents F P xS0 s1 s0 D).bind fun q1 => if q1.1 = 0 then (some (0, q1.2)) else ((f_X11_withAgents F P xS0 v1 q1.1 q1.2).bind fun q2 => (f_X2_add F P xS0 194 q2.1 q2.2).bind fun q3 => xlet (xup q3.2.1 192 10 ((q3.2.1 192 10) + 1), q3.2.2) fun D4 => some (1, D4))) := by
  unfold f_X6_takeKnowing_28
  simp only [rr_192_2]
set_option maxHeartbeats 2000000 in
theorem e_X6_takeKnowing_23 (F P : Nat) (v1 : Int32) (s0 : Nat) (D : xDt) : f_X6_takeKnowing_23 F P xS0 192 v1 s0 D = (f_X6_takeKnowing_28 F P xS0 192 v1 1 s0 D) := by
  unfold f_X6_takeKnowing_23
  rfl
set_option maxHeartbeats 2000000 in
theorem e_X6_takeKnowing (F P : Nat) (v1 : Int32) (D : xDt) : f_X6_takeKnowing F P xS0 192 v1 D = ((f_X6_toSign F P xS0 192 ((D.1 192 12) + 1) D).bind fun q1 => if v1 = 75 then (f_X6_takeKnowing_23 F P xS0 192 v1 192 q1) else (if v1 = 80 then (f_X6_takeKnowing_23 F P xS0 192 v1 192 q1) else (f_X6_takeKnowing_28 F P xS0 192 v1 4 192 q1))) := by
  unfold f_X6_takeKnowing
  rfl
set_option maxHeartbeats 2000000 in
theorem e_X6_takeOne_115 (F P : Nat) (s0 : Int32) (s1 : Nat) (D : xDt) : f_X6_takeOne_115 F P xS0 192 s0 s1 D = (xgrd (xb s0) (xlet (xup D.1 s1 11 s0, D.2) fun D2 => xlet (xup D2.1 192 10 ((D2.1 192 10) + 1), D2.2) fun D3 => (f_X6_toSign F P xS0 192 ((D3.1 192 12) + 1) D3).bind fun q4 => some (1, q4))) := by
  unfold f_X6_takeOne_115
  rfl
set_option maxHeartbeats 2000000 in
theorem e_X6_takeOne_94 (F P : Nat) (v1 : Int32) (D : xDt) : f_X6_takeOne_94 F P xS0 192 v1 D = ((f_X2_add F P xS0 194 v1 D).bind fun q1 => if v1 = 126 then (f_X6_takeOne_115 F P xS0 192 1 192 q1.2) else (f_X6_takeOne_115 F P xS0 192 0 192 q1.2)) := by
  unfold f_X6_takeOne_94
  simp only [rr_192_2]
set_option maxHeartbeats 2000000 in
theorem e_X6_takeOne (F P : Nat) (v1 : Int32) (D : xDt) : f_X6_takeOne F P xS0 192 v1 D = (if (D.1 192 10) ≤ 30 then (if v1 = 40 then ((f_X6_takeOpening F P xS0 192 v1 41 D).bind fun q6 => xgrd (xb q6.1) (some (q6.1, q6.2))) else (if (D.1 194 1) < 150 then ((f_X11_isSaying F P xS0 v1 D).bind fun q1 => if q1.1 = 0 then ((f_X11_isKnowing F P xS0 v1 q1.2).bind fun q2 => if q2.1 = 0 then (if v1 = 126 then (f_X6_takeOne_94 F P xS0 192 v1 q2.2) else ((f_X11_isLeaf F P xS0 v1 q2.2).bind fun q3 => if q3.1 = 0 then (some (0, q3.2)) else (f_X6_takeOne_94 F P xS0 192 v1 q3.2))) else ((f_X6_takeKnowing F P xS0 192 v1 q2.2).bind fun q4 => xgrd (xb q4.1) (some (q4.1, q4.2)))) else (if v1 = 91 then (f_X6_takeOne_62 F P xS0 93 v1 192 q1.2) else (f_X6_takeOne_62 F P xS0 125 v1 192 q1.2))) else (some (0, D)))) else (some (0, D))) := by
  unfold f_X6_takeOne
  simp only [rr_192_2]
set_option maxHeartbeats 2000000 in
theorem e_X6_leave_21 (F P : Nat) (s0 : Int32) (s1 : Nat) (D : xDt) : f_X6_leave_21 F P xS0 192 s0 s1 D = (xgrd (xb s0) (xlet (xup D.1 s1 11 s0, D.2) fun D2 => xgrd (xin (D2.1 192 9) 16) (xlet (xup D2.1 192 10 ((D2.1 200 (D2.1 192 9).toNatClampNeg) + 1), D2.2) fun D4 => xlet (xup D4.1 192 9 ((D4.1 192 9) - 1), D4.2) fun D5 => some (1, D5)))) := by
  unfold f_X6_leave_21
  simp only [ll_200, rr_192_7]
set_option maxHeartbeats 2000000 in
theorem e_X6_leave (F P : Nat) (v1 : Int32) (D : xDt) : f_X6_leave F P xS0 192 v1 D = (if (D.1 192 9) = 0 then (some (0, D)) else (if v1 = 41 then (f_X6_leave_21 F P xS0 192 0 192 D) else (f_X6_leave_21 F P xS0 192 1 192 D))) := by
  unfold f_X6_leave
  rfl
set_option maxHeartbeats 2000000 in
theorem e_X6_takeJoin_192 (F P : Nat) (s0 : Int32) (s1 : Int32) (s2 : Nat) (D : xDt) : f_X6_takeJoin_192 F P xS0 192 s0 s1 s2 D = (xgrd (xin s1 (xl xS0 s2)) (xlet (xup D.1 s2 (s1).toNatClampNeg s0, D.2) fun D2 => (f_X6_wantFirstOne F P xS0 192 D2).bind fun q3 => some (1, q3))) := by
  unfold f_X6_takeJoin_192
  rfl
set_option maxHeartbeats 2000000 in
theorem e_X6_takeJoin_158 (F P : Nat) (v1 : Int32) (s0 : Int32) (s1 : Int32) (s2 : Nat) (D : xDt) : f_X6_takeJoin_158 F P xS0 192 v1 s0 s1 s2 D = (xgrd (xin s1 (xl xS0 s2)) (xlet (xup D.1 s2 (s1).toNatClampNeg s0, D.2) fun D2 => if v1 = 38 then (xgrd (xin (D2.1 192 9) 16) (f_X6_takeJoin_192 F P xS0 192 (D2.1 199 (D2.1 192 9).toNatClampNeg) (D2.1 192 9) 199 D2)) else (f_X6_takeJoin_192 F P xS0 192 (D2.1 194 1) (D2.1 192 9) 199 D2))) := by
  unfold f_X6_takeJoin_158
  simp only [ll_199, rr_192_2, rr_192_6]
set_option maxHeartbeats 2000000 in
theorem e_X6_takeJoin_139 (F P : Nat) (v1 : Int32) (s0 : Int32) (s1 : Nat) (D : xDt) : f_X6_takeJoin_139 F P xS0 192 v1 s0 s1 D = (f_X6_takeJoin_158 F P xS0 192 v1 (D.1 194 1) s0 s1 D) := by
  unfold f_X6_takeJoin_139
  simp only [rr_192_2]
set_option maxHeartbeats 2000000 in
theorem e_X6_takeJoin_118 (F P : Nat) (v1 : Int32) (s0 : Int32) (s1 : Int32) (s2 : Nat) (D : xDt) : f_X6_takeJoin_118 F P xS0 192 v1 s0 s1 s2 D = (xgrd (xin s1 (xl xS0 s2)) (xlet (xup D.1 s2 (s1).toNatClampNeg (s0 &&& 1), D.2) fun D2 => if v1 = 61 then (f_X6_takeJoin_139 F P xS0 192 v1 (D2.1 192 9) 198 D2) else (if v1 = 62 then (f_X6_takeJoin_139 F P xS0 192 v1 (D2.1 192 9) 198 D2) else (xgrd (xin (D2.1 192 9) 16) (f_X6_takeJoin_158 F P xS0 192 v1 (D2.1 198 (D2.1 192 9).toNatClampNeg) (D2.1 192 9) 198 D2))))) := by
  unfold f_X6_takeJoin_118
  simp only [ll_198, rr_192_5]
set_option maxHeartbeats 2000000 in
theorem e_X6_takeJoin_113 (F P : Nat) (v1 : Int32) (s0 : Int32) (s1 : Nat) (D : xDt) : f_X6_takeJoin_113 F P xS0 192 v1 s0 s1 D = (f_X6_takeJoin_118 F P xS0 192 v1 1 s0 s1 D) := by
  unfold f_X6_takeJoin_113
  rfl
set_option maxHeartbeats 2000000 in
theorem e_X6_takeJoin_72 (F P : Nat) (v1 : Int32) (s0 : Int32) (D : xDt) : f_X6_takeJoin_72 F P xS0 192 v1 s0 D = ((f_X2_insert F P xS0 194 s0 v1 D).bind fun q1 => if q1.1 = 0 then (some (0, q1.2)) else (xgrd (xin (q1.2.1 192 9) 16) (if (q1.2.1 201 (q1.2.1 192 9).toNatClampNeg) = 0 then (if v1 = 61 then (f_X6_takeJoin_113 F P xS0 192 v1 (q1.2.1 192 9) 201 q1.2) else (f_X6_takeJoin_118 F P xS0 192 v1 0 (q1.2.1 192 9) 201 q1.2)) else (f_X6_takeJoin_113 F P xS0 192 v1 (q1.2.1 192 9) 201 q1.2)))) := by
  unfold f_X6_takeJoin_72
  simp only [ll_201, rr_192_2, rr_192_8]
set_option maxHeartbeats 2000000 in
theorem e_X6_takeJoin_27 (F P : Nat) (v1 : Int32) (D : xDt) : f_X6_takeJoin_27 F P xS0 192 v1 D = (if v1 = 61 then (xgrd (xin (D.1 192 9) 16) (f_X6_takeJoin_72 F P xS0 192 v1 (D.1 197 (D.1 192 9).toNatClampNeg) D)) else (if v1 = 38 then (xgrd (xin (D.1 192 9) 16) (f_X6_takeJoin_72 F P xS0 192 v1 (D.1 199 (D.1 192 9).toNatClampNeg) D)) else (xgrd (xin (D.1 192 9) 16) (f_X6_takeJoin_72 F P xS0 192 v1 (D.1 198 (D.1 192 9).toNatClampNeg) D)))) := by
  unfold f_X6_takeJoin_27
  simp only [ll_197, ll_198, ll_199, rr_192_4, rr_192_5, rr_192_6]
set_option maxHeartbeats 2000000 in
theorem e_X6_takeJoin (F P : Nat) (v1 : Int32) (D : xDt) : f_X6_takeJoin F P xS0 192 v1 D = ((f_X11_isJoin F P xS0 v1 D).bind fun q1 => if q1.1 = 0 then (some (0, q1.2)) else (if v1 = 61 then (xgrd (xin (q1.2.1 192 9) 16) (if (q1.2.1 201 (q1.2.1 192 9).toNatClampNeg) = 0 then (f_X6_takeJoin_27 F P xS0 192 v1 q1.2) else (some (0, q1.2)))) else (f_X6_takeJoin_27 F P xS0 192 v1 q1.2))) := by
  unfold f_X6_takeJoin
  simp only [ll_201, rr_192_8]
set_option maxHeartbeats 2000000 in
theorem e_X6_takeBehindOne_26 (F P : Nat) (s0 : Int32) (D : xDt) : f_X6_takeBehindOne_26 F P xS0 192 s0 D = (if s0 = 0 then (xgrd (xb s0) (some (s0, D))) else ((f_X6_toSign F P xS0 192 ((D.1 192 12) + 1) D).bind fun q2 => xgrd (xb s0) (some (s0, q2)))) := by
  unfold f_X6_takeBehindOne_26
  rfl
set_option maxHeartbeats 2000000 in
theorem e_X6_takeBehindOne (F P : Nat) (v1 : Int32) (D : xDt) : f_X6_takeBehindOne F P xS0 192 v1 D = (xgrd (xin (D.1 192 9) 16) (if v1 = (D.1 196 (D.1 192 9).toNatClampNeg) then ((f_X6_leave F P xS0 192 v1 D).bind fun q3 => f_X6_takeBehindOne_26 F P xS0 192 q3.1 q3.2) else ((f_X6_takeJoin F P xS0 192 v1 D).bind fun q2 => f_X6_takeBehindOne_26 F P xS0 192 q2.1 q2.2))) := by
  unfold f_X6_takeBehindOne
  simp only [ll_196, rr_192_3]
set_option maxHeartbeats 2000000 in
theorem e_X6_takeAll_50 (F P : Nat) (rec_2 : Nat → Int32 → xDt → Option (Int32 × xDt)) (v1 : Int32) (s0 : Int32) (D : xDt) : f_X6_takeAll_50 F P xS0 rec_2 192 v1 s0 D = (if s0 = 0 then (some (0, D)) else (xlet (v1 + 1) fun v1_1 => rec_2 192 v1_1 D)) := by
  unfold f_X6_takeAll_50
  rfl
set_option maxHeartbeats 2000000 in
theorem e_X6_takeAll_63 (F P : Nat) (D : xDt) : f_X6_takeAll_63 F P xS0 192 D = (if (D.1 192 12) < (D.1 192 1) then (f_X6_takeAll_92 F P xS0 D) else (if (D.1 192 9) = 0 then (if (D.1 192 11) = 0 then (some (1, D)) else (f_X6_takeAll_92 F P xS0 D)) else (f_X6_takeAll_92 F P xS0 D))) := by
  unfold f_X6_takeAll_63
  rfl
set_option maxHeartbeats 2000000 in
theorem e_X6_takeAll_2s (F P : Nat) (rec_2 : Nat → Int32 → xDt → Option (Int32 × xDt)) (v1 : Int32) (D : xDt) : f_X6_takeAll_2s F P xS0 rec_2 192 v1 D = (if 200 ≤ v1 then (f_X6_takeAll_63 F P xS0 192 D) else (if (D.1 192 1) ≤ (D.1 192 12) then (f_X6_takeAll_63 F P xS0 192 D) else (xgrd (xin (D.1 192 12) 200) (xlet (D.1 193 (D.1 192 12).toNatClampNeg) fun v2_2 => if (D.1 192 11) = 0 then ((f_X6_takeBehindOne F P xS0 192 v2_2 D).bind fun q3 => f_X6_takeAll_50 F P xS0 rec_2 192 v1 q3.1 q3.2) else ((f_X6_takeOne F P xS0 192 v2_2 D).bind fun q4 => f_X6_takeAll_50 F P xS0 rec_2 192 v1 q4.1 q4.2))))) := by
  unfold f_X6_takeAll_2s
  simp only [ll_193, rr_192_0]
theorem e_X6_takeAll_2 (F P n : Nat) (v1 : Int32) (D : xDt) : f_X6_takeAll_2 F P xS0 (n + 1) 192 v1 D = (if 200 ≤ v1 then (f_X6_takeAll_63 F P xS0 192 D) else (if (D.1 192 1) ≤ (D.1 192 12) then (f_X6_takeAll_63 F P xS0 192 D) else (xgrd (xin (D.1 192 12) 200) (xlet (D.1 193 (D.1 192 12).toNatClampNeg) fun v2_2 => if (D.1 192 11) = 0 then ((f_X6_takeBehindOne F P xS0 192 v2_2 D).bind fun q3 => f_X6_takeAll_50 F P xS0 (f_X6_takeAll_2 F P xS0 n) 192 v1 q3.1 q3.2) else ((f_X6_takeOne F P xS0 192 v2_2 D).bind fun q4 => f_X6_takeAll_50 F P xS0 (f_X6_takeAll_2 F P xS0 n) 192 v1 q4.1 q4.2))))) := e_X6_takeAll_2s F P (f_X6_takeAll_2 F P xS0 n) v1 D
set_option maxHeartbeats 2000000 in
theorem e_X6_takeAll (F P : Nat) (D : xDt) : f_X6_takeAll F P xS0 192 D = (f_X6_takeAll_2 F P xS0 F 192 0 D) := by
  unfold f_X6_takeAll
  rfl
set_option maxHeartbeats 2000000 in
theorem e_X6_read (F P : Nat) (v1 : Nat) (D : xDt) : f_X6_read F P xS0 192 v1 D = (xlet (xup D.1 194 1 0, D.2) fun D1 => xlet (xup D1.1 192 9 (-1), D1.2) fun D2 => (f_X6_enter F P xS0 192 0 D2).bind fun q3 => (f_X6_toSign F P xS0 192 0 q3).bind fun q4 => (f_X6_takeAll F P xS0 192 q4).bind fun q5 => xlet (xup q5.2.1 192 1 0, q5.2.2) fun D6 => if q5.1 = 0 then (some ((-10) - (D6.1 192 12), D6)) else ((f_X2_copy F P xS0 v1 194 D6).bind fun q7 => some (q7.1 v1 1, q7))) := by
  unfold f_X6_read
  simp only [rr_192_2]
set_option maxHeartbeats 2000000 in
theorem e_X9_put (F P : Nat) (v1 : Int32) (D : xDt) : f_X9_put F P xS0 204 v1 D = (if 4000 ≤ (D.1 204 1) then (some D) else (xlet (xup D.1 204 1 ((D.1 204 1) + 1), D.2) fun D1 => xgrd (xin (D.1 204 1) 4000) (xlet (xup D1.1 205 (D.1 204 1).toNatClampNeg (ji2c (ji2c v1)), D1.2) fun D3 => some D3))) := by
  unfold f_X9_put
  simp only [ll_205, rr_204_0]
set_option maxHeartbeats 2000000 in
theorem e_X9_finish_61 (F P : Nat) (v1 : Int32) (v2 : Int32) (s0 : Int32) (s1 : Nat) (D : xDt) : f_X9_finish_61 F P xS0 204 v1 v2 s0 s1 D = ((f_X9_put F P xS0 s1 s0 D).bind fun q1 => xgrd (xin v1 2000) (xlet (xup q1.1 206 (v1).toNatClampNeg (v2 ||| 65536), q1.2) fun D3 => xlet (xup D3.1 204 3 (v1 + 1), D3.2) fun D4 => some D4)) := by
  unfold f_X9_finish_61
  simp only [ll_206, rr_204_2]
set_option maxHeartbeats 2000000 in
theorem e_X9_finish_95 (F P : Nat) (rec_7 : Nat → Int32 → xDt → Option (xDt)) (v1 : Int32) (D : xDt) : f_X9_finish_95 F P xS0 rec_7 204 v1 D = (xlet (v1 + (-1)) fun v1_1 => rec_7 204 v1_1 D) := by
  unfold f_X9_finish_95
  rfl
set_option maxHeartbeats 2000000 in
theorem e_X9_finish_82 (F P : Nat) (rec_7 : Nat → Int32 → xDt → Option (xDt)) (v1 : Int32) (v2 : Int32) (D : xDt) : f_X9_finish_82 F P xS0 rec_7 204 v1 v2 D = (if (v2 &&& 131072) = 0 then (f_X9_finish_95 F P xS0 rec_7 204 v1 D) else ((f_X9_put F P xS0 204 41 D).bind fun q1 => f_X9_finish_95 F P xS0 rec_7 204 v1 q1)) := by
  unfold f_X9_finish_82
  rfl
set_option maxHeartbeats 2000000 in
theorem e_X9_finish_7s (F P : Nat) (rec_7 : Nat → Int32 → xDt → Option (xDt)) (v1 : Int32) (D : xDt) : f_X9_finish_7s F P xS0 rec_7 204 v1 D = (if v1 < 0 then (xlet (xup D.1 204 3 0, D.2) fun D1 => some D1) else (xgrd (xin v1 2000) (xlet (D.1 206 (v1).toNatClampNeg) fun v2_3 => (f_X11_signOf F P xS0 v2_3 D).bind fun q4 => (f_X11_hasTwoParts F P xS0 q4.1 q4.2).bind fun q5 => if q5.1 = 0 then (f_X9_finish_82 F P xS0 rec_7 204 v1 v2_3 q5.2) else (if (v2_3 &&& 65536) = 0 then (if q4.1 = 91 then (f_X9_finish_61 F P xS0 204 v1 v2_3 93 204 q5.2) else (if q4.1 = 123 then (f_X9_finish_61 F P xS0 204 v1 v2_3 125 204 q5.2) else (f_X9_finish_61 F P xS0 204 v1 v2_3 q4.1 204 q5.2))) else (f_X9_finish_82 F P xS0 rec_7 204 v1 v2_3 q5.2))))) := by
  unfold f_X9_finish_7s
  simp only [ll_206, rr_204_2]
theorem e_X9_finish_7 (F P n : Nat) (v1 : Int32) (D : xDt) : f_X9_finish_7 F P xS0 (n + 1) 204 v1 D = (if v1 < 0 then (xlet (xup D.1 204 3 0, D.2) fun D1 => some D1) else (xgrd (xin v1 2000) (xlet (D.1 206 (v1).toNatClampNeg) fun v2_3 => (f_X11_signOf F P xS0 v2_3 D).bind fun q4 => (f_X11_hasTwoParts F P xS0 q4.1 q4.2).bind fun q5 => if q5.1 = 0 then (f_X9_finish_82 F P xS0 (f_X9_finish_7 F P xS0 n) 204 v1 v2_3 q5.2) else (if (v2_3 &&& 65536) = 0 then (if q4.1 = 91 then (f_X9_finish_61 F P xS0 204 v1 v2_3 93 204 q5.2) else (if q4.1 = 123 then (f_X9_finish_61 F P xS0 204 v1 v2_3 125 204 q5.2) else (f_X9_finish_61 F P xS0 204 v1 v2_3 q4.1 204 q5.2))) else (f_X9_finish_82 F P xS0 (f_X9_finish_7 F P xS0 n) 204 v1 v2_3 q5.2))))) := e_X9_finish_7s F P (f_X9_finish_7 F P xS0 n) v1 D
set_option maxHeartbeats 2000000 in
theorem e_X9_finish (F P : Nat) (D : xDt) : f_X9_finish F P xS0 204 D = (xlet ((D.1 204 3) - 1) fun v1_1 => f_X9_finish_7 F P xS0 F 204 v1_1 D) := by
  unfold f_X9_finish
  rfl
set_option maxHeartbeats 2000000 in
theorem e_X9_putAgents_23 (F P : Nat) (rec_2 : Nat → Int32 → Int32 → xDt → Option (xDt)) (v1 : Int32) (v2 : Int32) (D : xDt) : f_X9_putAgents_23 F P xS0 rec_2 204 v1 v2 D = (xlet (v2 + 1) fun v2_1 => rec_2 204 v1 v2_1 D) := by
  unfold f_X9_putAgents_23
  rfl
set_option maxHeartbeats 2000000 in
theorem e_X9_putAgents_2s (F P : Nat) (rec_2 : Nat → Int32 → Int32 → xDt → Option (xDt)) (v1 : Int32) (v2 : Int32) (D : xDt) : f_X9_putAgents_2s F P xS0 rec_2 204 v1 v2 D = (if 4 ≤ v2 then (some D) else ((f_X11_hasAgent F P xS0 v1 v2 D).bind fun q1 => if q1.1 = 0 then (f_X9_putAgents_23 F P xS0 rec_2 204 v1 v2 q1.2) else ((f_X9_put F P xS0 204 (49 + v2) q1.2).bind fun q2 => f_X9_putAgents_23 F P xS0 rec_2 204 v1 v2 q2))) := by
  unfold f_X9_putAgents_2s
  rfl
theorem e_X9_putAgents_2 (F P n : Nat) (v1 : Int32) (v2 : Int32) (D : xDt) : f_X9_putAgents_2 F P xS0 (n + 1) 204 v1 v2 D = (if 4 ≤ v2 then (some D) else ((f_X11_hasAgent F P xS0 v1 v2 D).bind fun q1 => if q1.1 = 0 then (f_X9_putAgents_23 F P xS0 (f_X9_putAgents_2 F P xS0 n) 204 v1 v2 q1.2) else ((f_X9_put F P xS0 204 (49 + v2) q1.2).bind fun q2 => f_X9_putAgents_23 F P xS0 (f_X9_putAgents_2 F P xS0 n) 204 v1 v2 q2))) := e_X9_putAgents_2s F P (f_X9_putAgents_2 F P xS0 n) v1 v2 D
set_option maxHeartbeats 2000000 in
theorem e_X9_putAgents (F P : Nat) (v1 : Int32) (D : xDt) : f_X9_putAgents F P xS0 204 v1 D = (f_X9_putAgents_2 F P xS0 F 204 v1 0 D) := by
  unfold f_X9_putAgents
  rfl
set_option maxHeartbeats 2000000 in
theorem e_X9_isWhole (F P : Nat) (D : xDt) : f_X9_isWhole F P xS0 204 D = (if (D.1 204 3) = 0 then (some (1, D)) else (xgrd (xin ((D.1 204 3) - 1) 2000) (xlet (D.1 206 ((D.1 204 3) - 1).toNatClampNeg) fun v1_2 => (f_X11_signOf F P xS0 v1_2 D).bind fun q3 => (f_X11_isSaying F P xS0 q3.1 q3.2).bind fun q4 => if q4.1 = 0 then (f_X9_isWhole_42 F P xS0 q4.2) else (if (v1_2 &&& 65536) = 0 then (some (1, q4.2)) else (f_X9_isWhole_42 F P xS0 q4.2))))) := by
  unfold f_X9_isWhole
  simp only [ll_206, rr_204_2]
set_option maxHeartbeats 2000000 in
theorem e_X9_start_45 (F P : Nat) (v3 : Int32) (D : xDt) : f_X9_start_45 F P xS0 204 v3 D = (if (Int32.ofNat 2000) ≤ (D.1 204 3) then (some D) else (xlet (xup D.1 204 3 ((D.1 204 3) + 1), D.2) fun D1 => xgrd (xin (D.1 204 3) 2000) (xlet (xup D1.1 206 (D.1 204 3).toNatClampNeg v3, D1.2) fun D3 => some D3))) := by
  unfold f_X9_start_45
  simp only [ll_206, rr_204_2]
set_option maxHeartbeats 2000000 in
theorem e_X9_start (F P : Nat) (v1 : Int32) (D : xDt) : f_X9_start F P xS0 204 v1 D = ((f_X11_signOf F P xS0 v1 D).bind fun q1 => (f_X11_isJoin F P xS0 q1.1 q1.2).bind fun q2 => if q2.1 = 0 then ((f_X9_put F P xS0 204 q1.1 q2.2).bind fun q6 => (f_X9_putAgents F P xS0 204 v1 q6).bind fun q7 => f_X9_start_45 F P xS0 204 v1 q7) else ((f_X9_isWhole F P xS0 204 q2.2).bind fun q3 => if q3.1 = 0 then ((f_X9_put F P xS0 204 40 q3.2).bind fun q4 => xlet (v1 ||| 131072) fun v3_5 => f_X9_start_45 F P xS0 204 v3_5 q4) else (f_X9_start_45 F P xS0 204 v1 q3.2))) := by
  unfold f_X9_start
  rfl
set_option maxHeartbeats 2000000 in
theorem e_X9_write_57 (F P : Nat) (rec_12 : Nat → Nat → Int32 → xDt → Option (Int32 × xDt)) (v1 : Nat) (v2 : Int32) (D : xDt) : f_X9_write_57 F P xS0 rec_12 204 v1 v2 D = (xlet (v2 + 1) fun v2_1 => rec_12 204 v1 v2_1 D) := by
  unfold f_X9_write_57
  rfl
set_option maxHeartbeats 2000000 in
theorem e_X9_write_12s (F P : Nat) (rec_12 : Nat → Nat → Int32 → xDt → Option (Int32 × xDt)) (v1 : Nat) (v2 : Int32) (D : xDt) : f_X9_write_12s F P xS0 rec_12 204 v1 v2 D = (if (D.1 v1 1) ≤ v2 then (some (D.1 204 1, D)) else (xgrd (xin v2 (xl xS0 (xr xS0 v1 0))) (xlet (D.1 (xr xS0 v1 0) (v2).toNatClampNeg) fun v3_2 => (f_X11_signOf F P xS0 v3_2 D).bind fun q3 => (f_X11_isLeaf F P xS0 q3.1 q3.2).bind fun q4 => if q4.1 = 0 then ((f_X9_start F P xS0 204 v3_2 q4.2).bind fun q5 => f_X9_write_57 F P xS0 rec_12 204 v1 v2 q5) else ((f_X11_signOf F P xS0 v3_2 q4.2).bind fun q6 => (f_X9_put F P xS0 204 q6.1 q6.2).bind fun q7 => (f_X9_finish F P xS0 204 q7).bind fun q8 => f_X9_write_57 F P xS0 rec_12 204 v1 v2 q8)))) := by
  unfold f_X9_write_12s
  rfl
theorem e_X9_write_12 (F P n : Nat) (v1 : Nat) (v2 : Int32) (D : xDt) : f_X9_write_12 F P xS0 (n + 1) 204 v1 v2 D = (if (D.1 v1 1) ≤ v2 then (some (D.1 204 1, D)) else (xgrd (xin v2 (xl xS0 (xr xS0 v1 0))) (xlet (D.1 (xr xS0 v1 0) (v2).toNatClampNeg) fun v3_2 => (f_X11_signOf F P xS0 v3_2 D).bind fun q3 => (f_X11_isLeaf F P xS0 q3.1 q3.2).bind fun q4 => if q4.1 = 0 then ((f_X9_start F P xS0 204 v3_2 q4.2).bind fun q5 => f_X9_write_57 F P xS0 (f_X9_write_12 F P xS0 n) 204 v1 v2 q5) else ((f_X11_signOf F P xS0 v3_2 q4.2).bind fun q6 => (f_X9_put F P xS0 204 q6.1 q6.2).bind fun q7 => (f_X9_finish F P xS0 204 q7).bind fun q8 => f_X9_write_57 F P xS0 (f_X9_write_12 F P xS0 n) 204 v1 v2 q8)))) := e_X9_write_12s F P (f_X9_write_12 F P xS0 n) v1 v2 D
set_option maxHeartbeats 2000000 in
theorem e_X9_write (F P : Nat) (v1 : Nat) (D : xDt) : f_X9_write F P xS0 204 v1 D = (xlet (xup D.1 204 1 0, D.2) fun D1 => xlet (xup D1.1 204 3 0, D1.2) fun D2 => f_X9_write_12 F P xS0 F 204 v1 0 D2) := by
  unfold f_X9_write
  rfl
