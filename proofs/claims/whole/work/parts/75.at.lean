/-! the plain functions at their cells -/
set_option maxHeartbeats 2000000 in
theorem e_X3_leaf (F P : Nat) (v1 : Int32) (v2 : Nat) (D : xDt) : f_X3_leaf F P xS0 207 v1 v2 D = (if v1 = 48 then (some (0, D)) else (if v1 = 49 then (some (D.2 207 5, D)) else (xgrd (xin (v1 - 97) (xl xS0 (xr xS0 v2 1))) (some ((D.2 207 5) &&& (D.2 (xr xS0 v2 1) (v1 - 97).toNatClampNeg), D))))) := by
  unfold f_X3_leaf
  rfl
set_option maxHeartbeats 2000000 in
theorem e_X3_joined (F P : Nat) (v1 : Int32) (v2 : Int64) (v4 : Int64) (D : xDt) : f_X3_joined F P xS0 207 v1 v2 v4 D = (if v1 = 38 then (some (v2 &&& v4, D)) else (if v1 = 61 then (some ((D.2 207 5) &&& ((v2 ^^^ v4) ^^^ (-1)), D)) else (if v1 = 123 then (some (v2 &&& v4, D)) else (if v1 = 124 then (some (v2 ||| v4, D)) else (some (((D.2 207 5) &&& (v2 ^^^ (-1))) ||| v4, D)))))) := by
  unfold f_X3_joined
  rfl
set_option maxHeartbeats 2000000 in
theorem e_X3_known_43 (F P : Nat) (rec_6 : Nat → Int32 → Int64 → Nat → Int64 → Int32 → xDt → Option (Int64 × xDt)) (v1 : Int32) (v2 : Int64) (v4 : Nat) (v5 : Int64) (v7 : Int32) (D : xDt) : f_X3_known_43 F P xS0 rec_6 207 v1 v2 v4 v5 v7 D = (xlet (v7 + 1) fun v7_1 => rec_6 207 v1 v2 v4 v5 v7_1 D) := by
  unfold f_X3_known_43
  rfl
set_option maxHeartbeats 2000000 in
theorem e_X3_known_6s (F P : Nat) (rec_6 : Nat → Int32 → Int64 → Nat → Int64 → Int32 → xDt → Option (Int64 × xDt)) (v1 : Int32) (v2 : Int64) (v4 : Nat) (v5 : Int64) (v7 : Int32) (D : xDt) : f_X3_known_6s F P xS0 rec_6 207 v1 v2 v4 v5 v7 D = (if 4 ≤ v7 then (some ((D.2 207 5) &&& (v5 ^^^ (-1)), D)) else ((f_X11_hasAgent F P xS0 v1 v7 D).bind fun q1 => if q1.1 = 0 then (f_X3_known_43 F P xS0 rec_6 207 v1 v2 v4 v5 v7 q1.2) else ((f_X10_near F P xS0 v4 v7 ((q1.2.2 207 5) &&& (v2 ^^^ (-1))) q1.2).bind fun q2 => xlet (v5 ||| q2.1) fun v5_3 => f_X3_known_43 F P xS0 rec_6 207 v1 v2 v4 v5_3 v7 q2.2))) := by
  unfold f_X3_known_6s
  rfl
theorem e_X3_known_6 (F P n : Nat) (v1 : Int32) (v2 : Int64) (v4 : Nat) (v5 : Int64) (v7 : Int32) (D : xDt) : f_X3_known_6 F P xS0 (n + 1) 207 v1 v2 v4 v5 v7 D = (if 4 ≤ v7 then (some ((D.2 207 5) &&& (v5 ^^^ (-1)), D)) else ((f_X11_hasAgent F P xS0 v1 v7 D).bind fun q1 => if q1.1 = 0 then (f_X3_known_43 F P xS0 (f_X3_known_6 F P xS0 n) 207 v1 v2 v4 v5 v7 q1.2) else ((f_X10_near F P xS0 v4 v7 ((q1.2.2 207 5) &&& (v2 ^^^ (-1))) q1.2).bind fun q2 => xlet (v5 ||| q2.1) fun v5_3 => f_X3_known_43 F P xS0 (f_X3_known_6 F P xS0 n) 207 v1 v2 v4 v5_3 v7 q2.2))) := e_X3_known_6s F P (f_X3_known_6 F P xS0 n) v1 v2 v4 v5 v7 D
set_option maxHeartbeats 2000000 in
theorem e_X3_known (F P : Nat) (v1 : Int32) (v2 : Int64) (v4 : Nat) (D : xDt) : f_X3_known F P xS0 207 v1 v2 v4 D = (f_X3_known_6 F P xS0 F 207 v1 v2 v4 0 0 D) := by
  unfold f_X3_known
  rfl
set_option maxHeartbeats 2000000 in
theorem e_X3_common_63 (F P : Nat) (rec_15 : Nat → Int32 → Nat → Int64 → Int32 → xDt → Option (Int64 × xDt)) (rec_29 : Nat → Int32 → Nat → Int64 → Int32 → Int64 → Int32 → xDt → Option (Int64 × xDt)) (v1 : Int32) (v4 : Nat) (v5 : Int64) (v7 : Int32) (v8 : Int64) (v10 : Int32) (D : xDt) : f_X3_common_63 F P xS0 rec_15 rec_29 207 v1 v4 v5 v7 v8 v10 D = (xlet (v10 + 1) fun v10_1 => rec_29 207 v1 v4 v5 v7 v8 v10_1 D) := by
  unfold f_X3_common_63
  rfl
set_option maxHeartbeats 2000000 in
theorem e_X3_common_90 (F P : Nat) (v5 : Int64) (D : xDt) : f_X3_common_90 F P xS0 207 v5 D = (some ((D.2 207 5) &&& (v5 ^^^ (-1)), D)) := by
  unfold f_X3_common_90
  rfl
set_option maxHeartbeats 2000000 in
theorem e_X3_common_29s (F P : Nat) (rec_15 : Nat → Int32 → Nat → Int64 → Int32 → xDt → Option (Int64 × xDt)) (rec_29 : Nat → Int32 → Nat → Int64 → Int32 → Int64 → Int32 → xDt → Option (Int64 × xDt)) (v1 : Int32) (v4 : Nat) (v5 : Int64) (v7 : Int32) (v8 : Int64) (v10 : Int32) (D : xDt) : f_X3_common_29s F P xS0 rec_15 rec_29 207 v1 v4 v5 v7 v8 v10 D = (if 4 ≤ v10 then (if (lg_cmp v8 v5) = 0 then (f_X3_common_90 F P xS0 207 v5 D) else (xlet (v7 + 1) fun v7_1 => rec_15 207 v1 v4 v8 v7_1 D)) else ((f_X11_hasAgent F P xS0 v1 v10 D).bind fun q2 => if q2.1 = 0 then (f_X3_common_63 F P xS0 rec_15 rec_29 207 v1 v4 v5 v7 v8 v10 q2.2) else ((f_X10_near F P xS0 v4 v10 v8 q2.2).bind fun q3 => xlet (v8 ||| ((q2.2.2 207 5) &&& q3.1)) fun v8_4 => f_X3_common_63 F P xS0 rec_15 rec_29 207 v1 v4 v5 v7 v8_4 v10 q3.2))) := by
  unfold f_X3_common_29s
  rfl
theorem e_X3_common_29 (F P n : Nat) (rec_15 : Nat → Int32 → Nat → Int64 → Int32 → xDt → Option (Int64 × xDt)) (v1 : Int32) (v4 : Nat) (v5 : Int64) (v7 : Int32) (v8 : Int64) (v10 : Int32) (D : xDt) : f_X3_common_29 F P xS0 rec_15 (n + 1) 207 v1 v4 v5 v7 v8 v10 D = (if 4 ≤ v10 then (if (lg_cmp v8 v5) = 0 then (f_X3_common_90 F P xS0 207 v5 D) else (xlet (v7 + 1) fun v7_1 => rec_15 207 v1 v4 v8 v7_1 D)) else ((f_X11_hasAgent F P xS0 v1 v10 D).bind fun q2 => if q2.1 = 0 then (f_X3_common_63 F P xS0 rec_15 (f_X3_common_29 F P xS0 rec_15 n) 207 v1 v4 v5 v7 v8 v10 q2.2) else ((f_X10_near F P xS0 v4 v10 v8 q2.2).bind fun q3 => xlet (v8 ||| ((q2.2.2 207 5) &&& q3.1)) fun v8_4 => f_X3_common_63 F P xS0 rec_15 (f_X3_common_29 F P xS0 rec_15 n) 207 v1 v4 v5 v7 v8_4 v10 q3.2))) := e_X3_common_29s F P rec_15 (f_X3_common_29 F P xS0 rec_15 n) v1 v4 v5 v7 v8 v10 D
set_option maxHeartbeats 2000000 in
theorem e_X3_common_15s (F P : Nat) (rec_15 : Nat → Int32 → Nat → Int64 → Int32 → xDt → Option (Int64 × xDt)) (v1 : Int32) (v4 : Nat) (v5 : Int64) (v7 : Int32) (D : xDt) : f_X3_common_15s F P xS0 rec_15 207 v1 v4 v5 v7 D = (if 64 ≤ v7 then (f_X3_common_90 F P xS0 207 v5 D) else (f_X3_common_29 F P xS0 rec_15 F 207 v1 v4 v5 v7 v5 0 D)) := by
  unfold f_X3_common_15s
  rfl
theorem e_X3_common_15 (F P n : Nat) (v1 : Int32) (v4 : Nat) (v5 : Int64) (v7 : Int32) (D : xDt) : f_X3_common_15 F P xS0 (n + 1) 207 v1 v4 v5 v7 D = (if 64 ≤ v7 then (f_X3_common_90 F P xS0 207 v5 D) else (f_X3_common_29 F P xS0 (f_X3_common_15 F P xS0 n) F 207 v1 v4 v5 v7 v5 0 D)) := e_X3_common_15s F P (f_X3_common_15 F P xS0 n) v1 v4 v5 v7 D
set_option maxHeartbeats 2000000 in
theorem e_X3_common (F P : Nat) (v1 : Int32) (v2 : Int64) (v4 : Nat) (D : xDt) : f_X3_common F P xS0 207 v1 v2 v4 D = (xlet ((D.2 207 5) &&& (v2 ^^^ (-1))) fun v5_1 => f_X3_common_15 F P xS0 F 207 v1 v4 v5_1 0 D) := by
  unfold f_X3_common
  rfl
set_option maxHeartbeats 2000000 in
theorem e_X3_pooled_60 (F P : Nat) (rec_6 : Nat → Int32 → Int64 → Nat → Int64 → Int32 → xDt → Option (Int64 × xDt)) (rec_31 : Nat → Int32 → Int64 → Nat → Int64 → Int32 → Int64 → Int32 → xDt → Option (Int64 × xDt)) (v1 : Int32) (v2 : Int64) (v4 : Nat) (v5 : Int64) (v7 : Int32) (v8 : Int64) (v10 : Int32) (D : xDt) : f_X3_pooled_60 F P xS0 rec_6 rec_31 207 v1 v2 v4 v5 v7 v8 v10 D = (xlet (v10 + 1) fun v10_1 => rec_31 207 v1 v2 v4 v5 v7 v8 v10_1 D) := by
  unfold f_X3_pooled_60
  rfl
set_option maxHeartbeats 2000000 in
theorem e_X3_pooled_83 (F P : Nat) (rec_6 : Nat → Int32 → Int64 → Nat → Int64 → Int32 → xDt → Option (Int64 × xDt)) (v1 : Int32) (v2 : Int64) (v4 : Nat) (v7 : Int32) (s0 : Int64) (s1 : Int64) (D : xDt) : f_X3_pooled_83 F P xS0 rec_6 207 v1 v2 v4 v7 s0 s1 D = (xlet (s1 ||| s0) fun v5_1 => xlet (v7 + 1) fun v7_2 => rec_6 207 v1 v2 v4 v5_1 v7_2 D) := by
  unfold f_X3_pooled_83
  rfl
set_option maxHeartbeats 2000000 in
theorem e_X3_pooled_31s (F P : Nat) (rec_6 : Nat → Int32 → Int64 → Nat → Int64 → Int32 → xDt → Option (Int64 × xDt)) (rec_31 : Nat → Int32 → Int64 → Nat → Int64 → Int32 → Int64 → Int32 → xDt → Option (Int64 × xDt)) (v1 : Int32) (v2 : Int64) (v4 : Nat) (v5 : Int64) (v7 : Int32) (v8 : Int64) (v10 : Int32) (D : xDt) : f_X3_pooled_31s F P xS0 rec_6 rec_31 207 v1 v2 v4 v5 v7 v8 v10 D = (if 4 ≤ v10 then (if (lg_cmp v8 0) = 0 then (f_X3_pooled_83 F P xS0 rec_6 207 v1 v2 v4 v7 (jlshl 1 v7) v5 D) else (f_X3_pooled_83 F P xS0 rec_6 207 v1 v2 v4 v7 0 v5 D)) else ((f_X11_hasAgent F P xS0 v1 v10 D).bind fun q1 => if q1.1 = 0 then (f_X3_pooled_60 F P xS0 rec_6 rec_31 207 v1 v2 v4 v5 v7 v8 v10 q1.2) else ((f_X10_cell F P xS0 v4 v10 v7 q1.2).bind fun q2 => xlet (v8 &&& q2.1) fun v8_3 => f_X3_pooled_60 F P xS0 rec_6 rec_31 207 v1 v2 v4 v5 v7 v8_3 v10 q2.2))) := by
  unfold f_X3_pooled_31s
  rfl
theorem e_X3_pooled_31 (F P n : Nat) (rec_6 : Nat → Int32 → Int64 → Nat → Int64 → Int32 → xDt → Option (Int64 × xDt)) (v1 : Int32) (v2 : Int64) (v4 : Nat) (v5 : Int64) (v7 : Int32) (v8 : Int64) (v10 : Int32) (D : xDt) : f_X3_pooled_31 F P xS0 rec_6 (n + 1) 207 v1 v2 v4 v5 v7 v8 v10 D = (if 4 ≤ v10 then (if (lg_cmp v8 0) = 0 then (f_X3_pooled_83 F P xS0 rec_6 207 v1 v2 v4 v7 (jlshl 1 v7) v5 D) else (f_X3_pooled_83 F P xS0 rec_6 207 v1 v2 v4 v7 0 v5 D)) else ((f_X11_hasAgent F P xS0 v1 v10 D).bind fun q1 => if q1.1 = 0 then (f_X3_pooled_60 F P xS0 rec_6 (f_X3_pooled_31 F P xS0 rec_6 n) 207 v1 v2 v4 v5 v7 v8 v10 q1.2) else ((f_X10_cell F P xS0 v4 v10 v7 q1.2).bind fun q2 => xlet (v8 &&& q2.1) fun v8_3 => f_X3_pooled_60 F P xS0 rec_6 (f_X3_pooled_31 F P xS0 rec_6 n) 207 v1 v2 v4 v5 v7 v8_3 v10 q2.2))) := e_X3_pooled_31s F P rec_6 (f_X3_pooled_31 F P xS0 rec_6 n) v1 v2 v4 v5 v7 v8 v10 D
set_option maxHeartbeats 2000000 in
theorem e_X3_pooled_6s (F P : Nat) (rec_6 : Nat → Int32 → Int64 → Nat → Int64 → Int32 → xDt → Option (Int64 × xDt)) (v1 : Int32) (v2 : Int64) (v4 : Nat) (v5 : Int64) (v7 : Int32) (D : xDt) : f_X3_pooled_6s F P xS0 rec_6 207 v1 v2 v4 v5 v7 D = (if (D.1 v4 0) ≤ v7 then (some ((D.2 207 5) &&& v5, D)) else (xlet ((D.2 207 5) &&& (v2 ^^^ (-1))) fun v8_1 => f_X3_pooled_31 F P xS0 rec_6 F 207 v1 v2 v4 v5 v7 v8_1 0 D)) := by
  unfold f_X3_pooled_6s
  rfl
theorem e_X3_pooled_6 (F P n : Nat) (v1 : Int32) (v2 : Int64) (v4 : Nat) (v5 : Int64) (v7 : Int32) (D : xDt) : f_X3_pooled_6 F P xS0 (n + 1) 207 v1 v2 v4 v5 v7 D = (if (D.1 v4 0) ≤ v7 then (some ((D.2 207 5) &&& v5, D)) else (xlet ((D.2 207 5) &&& (v2 ^^^ (-1))) fun v8_1 => f_X3_pooled_31 F P xS0 (f_X3_pooled_6 F P xS0 n) F 207 v1 v2 v4 v5 v7 v8_1 0 D)) := e_X3_pooled_6s F P (f_X3_pooled_6 F P xS0 n) v1 v2 v4 v5 v7 D
set_option maxHeartbeats 2000000 in
theorem e_X3_pooled (F P : Nat) (v1 : Int32) (v2 : Int64) (v4 : Nat) (D : xDt) : f_X3_pooled F P xS0 207 v1 v2 v4 D = (f_X3_pooled_6 F P xS0 F 207 v1 v2 v4 0 0 D) := by
  unfold f_X3_pooled
  rfl
set_option maxHeartbeats 2000000 in
theorem e_X3_single (F P : Nat) (v1 : Int32) (v2 : Int64) (v4 : Nat) (D : xDt) : f_X3_single F P xS0 207 v1 v2 v4 D = ((f_X11_signOf F P xS0 v1 D).bind fun q1 => if q1.1 = 67 then ((f_X3_common F P xS0 207 v1 v2 v4 q1.2).bind fun q2 => some (q2.1, q2.2)) else (if q1.1 = 68 then ((f_X3_pooled F P xS0 207 v1 v2 v4 q1.2).bind fun q3 => some (q3.1, q3.2)) else (if q1.1 = 80 then ((f_X3_known F P xS0 207 v1 ((q1.2.2 207 5) &&& (v2 ^^^ (-1))) v4 q1.2).bind fun q4 => some ((q1.2.2 207 5) &&& (q4.1 ^^^ (-1)), q4.2)) else (if q1.1 = 126 then (some ((q1.2.2 207 5) &&& (v2 ^^^ (-1)), q1.2)) else ((f_X3_known F P xS0 207 v1 v2 v4 q1.2).bind fun q5 => some (q5.1, q5.2)))))) := by
  unfold f_X3_single
  rfl
set_option maxHeartbeats 2000000 in
theorem e_X3_finish_92 (F P : Nat) (v4 : Int64) (v6 : Int32) (s0 : Int64) (s1 : Nat) (D : xDt) : f_X3_finish_92 F P xS0 207 v4 v6 s0 s1 D = (xlet (D.1, xup D.2 s1 5 s0) fun D1 => xlet (xup D1.1 207 4 (v6 + 1), D1.2) fun D2 => some (v4, D2)) := by
  unfold f_X3_finish_92
  rfl
set_option maxHeartbeats 2000000 in
theorem e_X3_finish_161 (F P : Nat) (rec_11 : Nat → Nat → Int64 → Int32 → xDt → Option (Int64 × xDt)) (v3 : Nat) (v4 : Int64) (v6 : Int32) (D : xDt) : f_X3_finish_161 F P xS0 rec_11 207 v3 v4 v6 D = (xlet (v6 + (-1)) fun v6_1 => rec_11 207 v3 v4 v6_1 D) := by
  unfold f_X3_finish_161
  rfl
set_option maxHeartbeats 2000000 in
theorem e_X3_finish_106 (F P : Nat) (rec_11 : Nat → Nat → Int64 → Int32 → xDt → Option (Int64 × xDt)) (v3 : Nat) (v4 : Int64) (v6 : Int32) (v7 : Int32) (D : xDt) : f_X3_finish_106 F P xS0 rec_11 207 v3 v4 v6 v7 D = ((f_X11_hasTwoParts F P xS0 v7 D).bind fun q1 => if q1.1 = 0 then (xgrd (xin v6 2000) ((f_X3_single F P xS0 207 (q1.2.1 208 (v6).toNatClampNeg) v4 v3 q1.2).bind fun q3 => f_X3_finish_161 F P xS0 rec_11 207 v3 q3.1 v6 q3.2)) else (xgrd (xin v6 2000) (xlet (q1.2.1, xup q1.2.2 207 5 (q1.2.2 211 (v6).toNatClampNeg)) fun D5 => xgrd (xin v6 2000) ((f_X3_joined F P xS0 207 v7 (D5.2 210 (v6).toNatClampNeg) v4 D5).bind fun q7 => f_X3_finish_161 F P xS0 rec_11 207 v3 q7.1 v6 q7.2)))) := by
  unfold f_X3_finish_106
  simp only [ll_208, ll_210, ll_211, rr_207_0, rr_207_2, rr_207_3]
set_option maxHeartbeats 2000000 in
theorem e_X3_finish_11s (F P : Nat) (rec_11 : Nat → Nat → Int64 → Int32 → xDt → Option (Int64 × xDt)) (v3 : Nat) (v4 : Int64) (v6 : Int32) (D : xDt) : f_X3_finish_11s F P xS0 rec_11 207 v3 v4 v6 D = (if v6 < 0 then (xlet (xup D.1 207 4 0, D.2) fun D1 => some (v4, D1)) else (xgrd (xin v6 2000) ((f_X11_signOf F P xS0 (D.1 208 (v6).toNatClampNeg) D).bind fun q3 => (f_X11_hasTwoParts F P xS0 q3.1 q3.2).bind fun q4 => if q4.1 = 0 then (f_X3_finish_106 F P xS0 rec_11 207 v3 v4 v6 q3.1 q4.2) else (xgrd (xin v6 2000) (if (q4.2.1 209 (v6).toNatClampNeg) = 0 then (xgrd (xin v6 2000) (xlet (xup q4.2.1 209 (v6).toNatClampNeg (1 &&& 1), q4.2.2) fun D7 => xgrd (xin v6 2000) (xlet (D7.1, xup D7.2 210 (v6).toNatClampNeg v4) fun D9 => xgrd (xin v6 2000) (xlet (D9.1, xup D9.2 211 (v6).toNatClampNeg (D9.2 207 5)) fun D11 => (f_X11_isSaying F P xS0 q3.1 D11).bind fun q12 => if q12.1 = 0 then (f_X3_finish_92 F P xS0 207 v4 v6 (q12.2.2 207 5) 207 q12.2) else (f_X3_finish_92 F P xS0 207 v4 v6 v4 207 q12.2))))) else (f_X3_finish_106 F P xS0 rec_11 207 v3 v4 v6 q3.1 q4.2)))))) := by
  unfold f_X3_finish_11s
  simp only [ll_208, ll_209, ll_210, ll_211, rr_207_0, rr_207_1, rr_207_2, rr_207_3]
theorem e_X3_finish_11 (F P n : Nat) (v3 : Nat) (v4 : Int64) (v6 : Int32) (D : xDt) : f_X3_finish_11 F P xS0 (n + 1) 207 v3 v4 v6 D = (if v6 < 0 then (xlet (xup D.1 207 4 0, D.2) fun D1 => some (v4, D1)) else (xgrd (xin v6 2000) ((f_X11_signOf F P xS0 (D.1 208 (v6).toNatClampNeg) D).bind fun q3 => (f_X11_hasTwoParts F P xS0 q3.1 q3.2).bind fun q4 => if q4.1 = 0 then (f_X3_finish_106 F P xS0 (f_X3_finish_11 F P xS0 n) 207 v3 v4 v6 q3.1 q4.2) else (xgrd (xin v6 2000) (if (q4.2.1 209 (v6).toNatClampNeg) = 0 then (xgrd (xin v6 2000) (xlet (xup q4.2.1 209 (v6).toNatClampNeg (1 &&& 1), q4.2.2) fun D7 => xgrd (xin v6 2000) (xlet (D7.1, xup D7.2 210 (v6).toNatClampNeg v4) fun D9 => xgrd (xin v6 2000) (xlet (D9.1, xup D9.2 211 (v6).toNatClampNeg (D9.2 207 5)) fun D11 => (f_X11_isSaying F P xS0 q3.1 D11).bind fun q12 => if q12.1 = 0 then (f_X3_finish_92 F P xS0 207 v4 v6 (q12.2.2 207 5) 207 q12.2) else (f_X3_finish_92 F P xS0 207 v4 v6 v4 207 q12.2))))) else (f_X3_finish_106 F P xS0 (f_X3_finish_11 F P xS0 n) 207 v3 v4 v6 q3.1 q4.2)))))) := e_X3_finish_11s F P (f_X3_finish_11 F P xS0 n) v3 v4 v6 D
set_option maxHeartbeats 2000000 in
theorem e_X3_finish (F P : Nat) (v1 : Int64) (v3 : Nat) (D : xDt) : f_X3_finish F P xS0 207 v1 v3 D = (xlet ((D.1 207 4) - 1) fun v6_1 => f_X3_finish_11 F P xS0 F 207 v3 v1 v6_1 D) := by
  unfold f_X3_finish
  rfl
set_option maxHeartbeats 2000000 in
theorem e_X3_where_109 (F P : Nat) (rec_18 : Nat → Nat → Nat → Int64 → Int32 → xDt → Option (Int64 × xDt)) (v1 : Nat) (v2 : Nat) (v3 : Int64) (v5 : Int32) (D : xDt) : f_X3_where_109 F P xS0 rec_18 207 v1 v2 v3 v5 D = (xlet (v5 + 1) fun v5_1 => rec_18 207 v1 v2 v3 v5_1 D) := by
  unfold f_X3_where_109
  rfl
set_option maxHeartbeats 2000000 in
theorem e_X3_where_18s (F P : Nat) (rec_18 : Nat → Nat → Nat → Int64 → Int32 → xDt → Option (Int64 × xDt)) (v1 : Nat) (v2 : Nat) (v3 : Int64) (v5 : Int32) (D : xDt) : f_X3_where_18s F P xS0 rec_18 207 v1 v2 v3 v5 D = (if (D.1 v1 1) ≤ v5 then (some (v3, D)) else (xgrd (xin v5 (xl xS0 (xr xS0 v1 0))) (xlet (D.1 (xr xS0 v1 0) (v5).toNatClampNeg) fun v6_2 => (f_X11_signOf F P xS0 v6_2 D).bind fun q3 => (f_X11_isLeaf F P xS0 q3.1 q3.2).bind fun q4 => if q4.1 = 0 then (if (Int32.ofNat 2000) ≤ (q4.2.1 207 4) then (f_X3_where_109 F P xS0 rec_18 207 v1 v2 v3 v5 q4.2) else (xgrd (xin (q4.2.1 207 4) 2000) (xlet (xup q4.2.1 208 (q4.2.1 207 4).toNatClampNeg v6_2, q4.2.2) fun D6 => xgrd (xin (D6.1 207 4) 2000) (xlet (xup D6.1 209 (D6.1 207 4).toNatClampNeg (0 &&& 1), D6.2) fun D8 => xlet (xup D8.1 207 4 ((D8.1 207 4) + 1), D8.2) fun D9 => f_X3_where_109 F P xS0 rec_18 207 v1 v2 v3 v5 D9)))) else ((f_X11_signOf F P xS0 v6_2 q4.2).bind fun q10 => (f_X3_leaf F P xS0 207 q10.1 v2 q10.2).bind fun q11 => (f_X3_finish F P xS0 207 q11.1 v2 q11.2).bind fun q12 => f_X3_where_109 F P xS0 rec_18 207 v1 v2 q12.1 v5 q12.2)))) := by
  unfold f_X3_where_18s
  simp only [ll_208, ll_209, rr_207_0, rr_207_1]
theorem e_X3_where_18 (F P n : Nat) (v1 : Nat) (v2 : Nat) (v3 : Int64) (v5 : Int32) (D : xDt) : f_X3_where_18 F P xS0 (n + 1) 207 v1 v2 v3 v5 D = (if (D.1 v1 1) ≤ v5 then (some (v3, D)) else (xgrd (xin v5 (xl xS0 (xr xS0 v1 0))) (xlet (D.1 (xr xS0 v1 0) (v5).toNatClampNeg) fun v6_2 => (f_X11_signOf F P xS0 v6_2 D).bind fun q3 => (f_X11_isLeaf F P xS0 q3.1 q3.2).bind fun q4 => if q4.1 = 0 then (if (Int32.ofNat 2000) ≤ (q4.2.1 207 4) then (f_X3_where_109 F P xS0 (f_X3_where_18 F P xS0 n) 207 v1 v2 v3 v5 q4.2) else (xgrd (xin (q4.2.1 207 4) 2000) (xlet (xup q4.2.1 208 (q4.2.1 207 4).toNatClampNeg v6_2, q4.2.2) fun D6 => xgrd (xin (D6.1 207 4) 2000) (xlet (xup D6.1 209 (D6.1 207 4).toNatClampNeg (0 &&& 1), D6.2) fun D8 => xlet (xup D8.1 207 4 ((D8.1 207 4) + 1), D8.2) fun D9 => f_X3_where_109 F P xS0 (f_X3_where_18 F P xS0 n) 207 v1 v2 v3 v5 D9)))) else ((f_X11_signOf F P xS0 v6_2 q4.2).bind fun q10 => (f_X3_leaf F P xS0 207 q10.1 v2 q10.2).bind fun q11 => (f_X3_finish F P xS0 207 q11.1 v2 q11.2).bind fun q12 => f_X3_where_109 F P xS0 (f_X3_where_18 F P xS0 n) 207 v1 v2 q12.1 v5 q12.2)))) := e_X3_where_18s F P (f_X3_where_18 F P xS0 n) v1 v2 v3 v5 D
set_option maxHeartbeats 2000000 in
theorem e_X3_where (F P : Nat) (v1 : Nat) (v2 : Nat) (D : xDt) : f_X3_where F P xS0 207 v1 v2 D = ((f_X10_all F P xS0 v2 D).bind fun q1 => xlet (q1.2.1, xup q1.2.2 207 5 q1.1) fun D2 => xlet (xup D2.1 207 4 0, D2.2) fun D3 => f_X3_where_18 F P xS0 F 207 v1 v2 0 0 D3) := by
  unfold f_X3_where
  rfl
set_option maxHeartbeats 2000000 in
theorem e_X4_start_66 (F P : Nat) (rec_2 : Nat → Nat → Int32 → xDt → Option (xDt)) (v1 : Nat) (v2 : Int32) (D : xDt) : f_X4_start_66 F P xS0 rec_2 212 v1 v2 D = (xlet (v2 + 1) fun v2_1 => rec_2 212 v1 v2_1 D) := by
  unfold f_X4_start_66
  rfl
set_option maxHeartbeats 2000000 in
theorem e_X4_start_30s (F P : Nat) (rec_2 : Nat → Nat → Int32 → xDt → Option (xDt)) (rec_30 : Nat → Nat → Int32 → Int32 → xDt → Option (xDt)) (v1 : Nat) (v2 : Int32) (v3 : Int32) (D : xDt) : f_X4_start_30s F P xS0 rec_2 rec_30 212 v1 v2 v3 D = (if v2 ≤ v3 then (f_X4_start_66 F P xS0 rec_2 212 v1 v2 D) else (xgrd (xin v3 64) (xgrd (xin v2 64) (if (D.1 216 (v3).toNatClampNeg) = (D.1 216 (v2).toNatClampNeg) then (xgrd (xin v2 64) (xlet (xup D.1 213 (v2).toNatClampNeg v3, D.2) fun D5 => f_X4_start_66 F P xS0 rec_2 212 v1 v2 D5)) else (xlet (v3 + 1) fun v3_3 => rec_30 212 v1 v2 v3_3 D))))) := by
  unfold f_X4_start_30s
  simp only [ll_213, ll_216, rr_212_0, rr_212_3]
theorem e_X4_start_30 (F P n : Nat) (rec_2 : Nat → Nat → Int32 → xDt → Option (xDt)) (v1 : Nat) (v2 : Int32) (v3 : Int32) (D : xDt) : f_X4_start_30 F P xS0 rec_2 (n + 1) 212 v1 v2 v3 D = (if v2 ≤ v3 then (f_X4_start_66 F P xS0 rec_2 212 v1 v2 D) else (xgrd (xin v3 64) (xgrd (xin v2 64) (if (D.1 216 (v3).toNatClampNeg) = (D.1 216 (v2).toNatClampNeg) then (xgrd (xin v2 64) (xlet (xup D.1 213 (v2).toNatClampNeg v3, D.2) fun D5 => f_X4_start_66 F P xS0 rec_2 212 v1 v2 D5)) else (xlet (v3 + 1) fun v3_3 => (f_X4_start_30 F P xS0 rec_2 n) 212 v1 v2 v3_3 D))))) := e_X4_start_30s F P rec_2 (f_X4_start_30 F P xS0 rec_2 n) v1 v2 v3 D
set_option maxHeartbeats 2000000 in
theorem e_X4_start_2s (F P : Nat) (rec_2 : Nat → Nat → Int32 → xDt → Option (xDt)) (v1 : Nat) (v2 : Int32) (D : xDt) : f_X4_start_2s F P xS0 rec_2 212 v1 v2 D = (if (D.1 v1 0) ≤ v2 then (some D) else ((f_X10_atomsOf F P xS0 v1 v2 D).bind fun q1 => xgrd (xin v2 64) (xlet (xup q1.2.1 216 (v2).toNatClampNeg q1.1, q1.2.2) fun D3 => xgrd (xin v2 64) (xlet (xup D3.1 213 (v2).toNatClampNeg v2, D3.2) fun D5 => f_X4_start_30 F P xS0 rec_2 F 212 v1 v2 0 D5)))) := by
  unfold f_X4_start_2s
  simp only [ll_213, ll_216, rr_212_0, rr_212_3]
theorem e_X4_start_2 (F P n : Nat) (v1 : Nat) (v2 : Int32) (D : xDt) : f_X4_start_2 F P xS0 (n + 1) 212 v1 v2 D = (if (D.1 v1 0) ≤ v2 then (some D) else ((f_X10_atomsOf F P xS0 v1 v2 D).bind fun q1 => xgrd (xin v2 64) (xlet (xup q1.2.1 216 (v2).toNatClampNeg q1.1, q1.2.2) fun D3 => xgrd (xin v2 64) (xlet (xup D3.1 213 (v2).toNatClampNeg v2, D3.2) fun D5 => f_X4_start_30 F P xS0 (f_X4_start_2 F P xS0 n) F 212 v1 v2 0 D5)))) := e_X4_start_2s F P (f_X4_start_2 F P xS0 n) v1 v2 D
set_option maxHeartbeats 2000000 in
theorem e_X4_start (F P : Nat) (v1 : Nat) (D : xDt) : f_X4_start F P xS0 212 v1 D = (f_X4_start_2 F P xS0 F 212 v1 0 D) := by
  unfold f_X4_start
  rfl
set_option maxHeartbeats 2000000 in
theorem e_X4_firstsIn_6s (F P : Nat) (rec_6 : Nat → Int64 → Int32 → Int64 → Int32 → xDt → Option (Int64 × xDt)) (v1 : Int64) (v3 : Int32) (v4 : Int64) (v6 : Int32) (D : xDt) : f_X4_firstsIn_6s F P xS0 rec_6 212 v1 v3 v4 v6 D = (if v3 ≤ v6 then (some (v4, D)) else (xgrd (xin v6 64) (xlet (v4 ||| (jlshl ((jlushr v1 v6) &&& 1) (D.1 213 (v6).toNatClampNeg))) fun v4_2 => xlet (v6 + 1) fun v6_3 => rec_6 212 v1 v3 v4_2 v6_3 D))) := by
  unfold f_X4_firstsIn_6s
  simp only [ll_213, rr_212_0]
theorem e_X4_firstsIn_6 (F P n : Nat) (v1 : Int64) (v3 : Int32) (v4 : Int64) (v6 : Int32) (D : xDt) : f_X4_firstsIn_6 F P xS0 (n + 1) 212 v1 v3 v4 v6 D = (if v3 ≤ v6 then (some (v4, D)) else (xgrd (xin v6 64) (xlet (v4 ||| (jlshl ((jlushr v1 v6) &&& 1) (D.1 213 (v6).toNatClampNeg))) fun v4_2 => xlet (v6 + 1) fun v6_3 => (f_X4_firstsIn_6 F P xS0 n) 212 v1 v3 v4_2 v6_3 D))) := e_X4_firstsIn_6s F P (f_X4_firstsIn_6 F P xS0 n) v1 v3 v4 v6 D
set_option maxHeartbeats 2000000 in
theorem e_X4_firstsIn (F P : Nat) (v1 : Int64) (v3 : Int32) (D : xDt) : f_X4_firstsIn F P xS0 212 v1 v3 D = (f_X4_firstsIn_6 F P xS0 F 212 v1 v3 0 0 D) := by
  unfold f_X4_firstsIn
  rfl
set_option maxHeartbeats 2000000 in
theorem e_X4_look_75 (F P : Nat) (rec_2 : Nat → Nat → Int32 → xDt → Option (xDt)) (rec_9 : Nat → Nat → Int32 → Int32 → xDt → Option (xDt)) (v1 : Nat) (v2 : Int32) (v3 : Int32) (s0 : Int64) (s1 : Int32) (s2 : Nat) (D : xDt) : f_X4_look_75 F P xS0 rec_2 rec_9 212 v1 v2 v3 s0 s1 s2 D = (xgrd (xin s1 (xl xS0 s2)) (xlet (D.1, xup D.2 s2 (s1).toNatClampNeg s0) fun D2 => xlet (v3 + 1) fun v3_3 => rec_9 212 v1 v2 v3_3 D2)) := by
  unfold f_X4_look_75
  rfl
set_option maxHeartbeats 2000000 in
theorem e_X4_look_9s (F P : Nat) (rec_2 : Nat → Nat → Int32 → xDt → Option (xDt)) (rec_9 : Nat → Nat → Int32 → Int32 → xDt → Option (xDt)) (v1 : Nat) (v2 : Int32) (v3 : Int32) (D : xDt) : f_X4_look_9s F P xS0 rec_2 rec_9 212 v1 v2 v3 D = (if (D.1 v1 0) ≤ v3 then (xlet (v2 + 1) fun v2_1 => rec_2 212 v1 v2_1 D) else ((f_X10_cell F P xS0 v1 v2 v3 D).bind fun q2 => (f_X11_lowest F P xS0 q2.1 q2.2).bind fun q3 => xlet (v2 * 64) fun v7_4 => if v3 ≤ q3.1 then ((f_X4_firstsIn F P xS0 212 q2.1 (q3.2.1 v1 0) q3.2).bind fun q5 => f_X4_look_75 F P xS0 rec_2 rec_9 212 v1 v2 v3 q5.1 (v7_4 + v3) 214 q5.2) else (xgrd (xin (v7_4 + q3.1) 256) (f_X4_look_75 F P xS0 rec_2 rec_9 212 v1 v2 v3 (q3.2.2 214 (v7_4 + q3.1).toNatClampNeg) (v7_4 + v3) 214 q3.2)))) := by
  unfold f_X4_look_9s
  simp only [ll_214, rr_212_1]
theorem e_X4_look_9 (F P n : Nat) (rec_2 : Nat → Nat → Int32 → xDt → Option (xDt)) (v1 : Nat) (v2 : Int32) (v3 : Int32) (D : xDt) : f_X4_look_9 F P xS0 rec_2 (n + 1) 212 v1 v2 v3 D = (if (D.1 v1 0) ≤ v3 then (xlet (v2 + 1) fun v2_1 => rec_2 212 v1 v2_1 D) else ((f_X10_cell F P xS0 v1 v2 v3 D).bind fun q2 => (f_X11_lowest F P xS0 q2.1 q2.2).bind fun q3 => xlet (v2 * 64) fun v7_4 => if v3 ≤ q3.1 then ((f_X4_firstsIn F P xS0 212 q2.1 (q3.2.1 v1 0) q3.2).bind fun q5 => f_X4_look_75 F P xS0 rec_2 (f_X4_look_9 F P xS0 rec_2 n) 212 v1 v2 v3 q5.1 (v7_4 + v3) 214 q5.2) else (xgrd (xin (v7_4 + q3.1) 256) (f_X4_look_75 F P xS0 rec_2 (f_X4_look_9 F P xS0 rec_2 n) 212 v1 v2 v3 (q3.2.2 214 (v7_4 + q3.1).toNatClampNeg) (v7_4 + v3) 214 q3.2)))) := e_X4_look_9s F P rec_2 (f_X4_look_9 F P xS0 rec_2 n) v1 v2 v3 D
set_option maxHeartbeats 2000000 in
theorem e_X4_look_2s (F P : Nat) (rec_2 : Nat → Nat → Int32 → xDt → Option (xDt)) (v1 : Nat) (v2 : Int32) (D : xDt) : f_X4_look_2s F P xS0 rec_2 212 v1 v2 D = (if 4 ≤ v2 then (some D) else (f_X4_look_9 F P xS0 rec_2 F 212 v1 v2 0 D)) := by
  unfold f_X4_look_2s
  rfl
theorem e_X4_look_2 (F P n : Nat) (v1 : Nat) (v2 : Int32) (D : xDt) : f_X4_look_2 F P xS0 (n + 1) 212 v1 v2 D = (if 4 ≤ v2 then (some D) else (f_X4_look_9 F P xS0 (f_X4_look_2 F P xS0 n) F 212 v1 v2 0 D)) := e_X4_look_2s F P (f_X4_look_2 F P xS0 n) v1 v2 D
set_option maxHeartbeats 2000000 in
theorem e_X4_look (F P : Nat) (v1 : Nat) (D : xDt) : f_X4_look F P xS0 212 v1 D = (f_X4_look_2 F P xS0 F 212 v1 0 D) := by
  unfold f_X4_look
  rfl
set_option maxHeartbeats 2000000 in
theorem e_X4_seeSame_2s (F P : Nat) (rec_2 : Nat → Int32 → Int32 → Int32 → xDt → Option (Int32 × xDt)) (v1 : Int32) (v2 : Int32) (v3 : Int32) (D : xDt) : f_X4_seeSame_2s F P xS0 rec_2 212 v1 v2 v3 D = (if 4 ≤ v3 then (some (1, D)) else (xgrd (xin ((v3 * 64) + v1) 256) (xgrd (xin ((v3 * 64) + v2) 256) (if (lg_cmp (D.2 214 ((v3 * 64) + v1).toNatClampNeg) (D.2 214 ((v3 * 64) + v2).toNatClampNeg)) = 0 then (xlet (v3 + 1) fun v3_3 => rec_2 212 v1 v2 v3_3 D) else (some (0, D)))))) := by
  unfold f_X4_seeSame_2s
  simp only [ll_214, rr_212_1]
theorem e_X4_seeSame_2 (F P n : Nat) (v1 : Int32) (v2 : Int32) (v3 : Int32) (D : xDt) : f_X4_seeSame_2 F P xS0 (n + 1) 212 v1 v2 v3 D = (if 4 ≤ v3 then (some (1, D)) else (xgrd (xin ((v3 * 64) + v1) 256) (xgrd (xin ((v3 * 64) + v2) 256) (if (lg_cmp (D.2 214 ((v3 * 64) + v1).toNatClampNeg) (D.2 214 ((v3 * 64) + v2).toNatClampNeg)) = 0 then (xlet (v3 + 1) fun v3_3 => (f_X4_seeSame_2 F P xS0 n) 212 v1 v2 v3_3 D) else (some (0, D)))))) := e_X4_seeSame_2s F P (f_X4_seeSame_2 F P xS0 n) v1 v2 v3 D
set_option maxHeartbeats 2000000 in
theorem e_X4_seeSame (F P : Nat) (v1 : Int32) (v2 : Int32) (D : xDt) : f_X4_seeSame F P xS0 212 v1 v2 D = (f_X4_seeSame_2 F P xS0 F 212 v1 v2 0 D) := by
  unfold f_X4_seeSame
  rfl
set_option maxHeartbeats 2000000 in
theorem e_X4_refine_75 (F P : Nat) (rec_9 : Nat → Nat → Int32 → Int32 → xDt → Option (Int32 × xDt)) (rec_32 : Nat → Nat → Int32 → Int32 → Int32 → xDt → Option (Int32 × xDt)) (v1 : Nat) (v2 : Int32) (v3 : Int32) (v4 : Int32) (D : xDt) : f_X4_refine_75 F P xS0 rec_9 rec_32 212 v1 v2 v3 v4 D = (xlet (v4 + 1) fun v4_1 => rec_32 212 v1 v2 v3 v4_1 D) := by
  unfold f_X4_refine_75
  rfl
set_option maxHeartbeats 2000000 in
theorem e_X4_refine_105 (F P : Nat) (rec_9 : Nat → Nat → Int32 → Int32 → xDt → Option (Int32 × xDt)) (v1 : Nat) (v3 : Int32) (s0 : Int32) (D : xDt) : f_X4_refine_105 F P xS0 rec_9 212 v1 v3 s0 D = (xlet (v3 + 1) fun v3_1 => rec_9 212 v1 s0 v3_1 D) := by
  unfold f_X4_refine_105
  rfl
set_option maxHeartbeats 2000000 in
theorem e_X4_refine_100 (F P : Nat) (rec_9 : Nat → Nat → Int32 → Int32 → xDt → Option (Int32 × xDt)) (v1 : Nat) (v3 : Int32) (D : xDt) : f_X4_refine_100 F P xS0 rec_9 212 v1 v3 D = (f_X4_refine_105 F P xS0 rec_9 212 v1 v3 1 D) := by
  unfold f_X4_refine_100
  rfl
set_option maxHeartbeats 2000000 in
theorem e_X4_refine_81 (F P : Nat) (rec_9 : Nat → Nat → Int32 → Int32 → xDt → Option (Int32 × xDt)) (v1 : Nat) (v2 : Int32) (v3 : Int32) (D : xDt) : f_X4_refine_81 F P xS0 rec_9 212 v1 v2 v3 D = (if v2 = 0 then (xgrd (xin v3 64) (xgrd (xin v3 64) (if (D.1 215 (v3).toNatClampNeg) = (D.1 213 (v3).toNatClampNeg) then (f_X4_refine_105 F P xS0 rec_9 212 v1 v3 0 D) else (f_X4_refine_100 F P xS0 rec_9 212 v1 v3 D)))) else (f_X4_refine_100 F P xS0 rec_9 212 v1 v3 D)) := by
  unfold f_X4_refine_81
  simp only [ll_213, ll_215, rr_212_0, rr_212_2]
set_option maxHeartbeats 2000000 in
theorem e_X4_refine_32s (F P : Nat) (rec_9 : Nat → Nat → Int32 → Int32 → xDt → Option (Int32 × xDt)) (rec_32 : Nat → Nat → Int32 → Int32 → Int32 → xDt → Option (Int32 × xDt)) (v1 : Nat) (v2 : Int32) (v3 : Int32) (v4 : Int32) (D : xDt) : f_X4_refine_32s F P xS0 rec_9 rec_32 212 v1 v2 v3 v4 D = (if v3 ≤ v4 then (f_X4_refine_81 F P xS0 rec_9 212 v1 v2 v3 D) else (xgrd (xin v4 64) (xgrd (xin v3 64) (if (D.1 213 (v4).toNatClampNeg) = (D.1 213 (v3).toNatClampNeg) then ((f_X4_seeSame F P xS0 212 v4 v3 D).bind fun q3 => if q3.1 = 0 then (f_X4_refine_75 F P xS0 rec_9 rec_32 212 v1 v2 v3 v4 q3.2) else (xgrd (xin v3 64) (xlet (xup q3.2.1 215 (v3).toNatClampNeg v4, q3.2.2) fun D5 => f_X4_refine_81 F P xS0 rec_9 212 v1 v2 v3 D5))) else (f_X4_refine_75 F P xS0 rec_9 rec_32 212 v1 v2 v3 v4 D))))) := by
  unfold f_X4_refine_32s
  simp only [ll_213, ll_215, rr_212_0, rr_212_2]
theorem e_X4_refine_32 (F P n : Nat) (rec_9 : Nat → Nat → Int32 → Int32 → xDt → Option (Int32 × xDt)) (v1 : Nat) (v2 : Int32) (v3 : Int32) (v4 : Int32) (D : xDt) : f_X4_refine_32 F P xS0 rec_9 (n + 1) 212 v1 v2 v3 v4 D = (if v3 ≤ v4 then (f_X4_refine_81 F P xS0 rec_9 212 v1 v2 v3 D) else (xgrd (xin v4 64) (xgrd (xin v3 64) (if (D.1 213 (v4).toNatClampNeg) = (D.1 213 (v3).toNatClampNeg) then ((f_X4_seeSame F P xS0 212 v4 v3 D).bind fun q3 => if q3.1 = 0 then (f_X4_refine_75 F P xS0 rec_9 (f_X4_refine_32 F P xS0 rec_9 n) 212 v1 v2 v3 v4 q3.2) else (xgrd (xin v3 64) (xlet (xup q3.2.1 215 (v3).toNatClampNeg v4, q3.2.2) fun D5 => f_X4_refine_81 F P xS0 rec_9 212 v1 v2 v3 D5))) else (f_X4_refine_75 F P xS0 rec_9 (f_X4_refine_32 F P xS0 rec_9 n) 212 v1 v2 v3 v4 D))))) := e_X4_refine_32s F P rec_9 (f_X4_refine_32 F P xS0 rec_9 n) v1 v2 v3 v4 D
set_option maxHeartbeats 2000000 in
theorem e_X4_refine_9s (F P : Nat) (rec_9 : Nat → Nat → Int32 → Int32 → xDt → Option (Int32 × xDt)) (v1 : Nat) (v2 : Int32) (v3 : Int32) (D : xDt) : f_X4_refine_9s F P xS0 rec_9 212 v1 v2 v3 D = (if (D.1 v1 0) ≤ v3 then (xgrd (xcpin 0 0 64 64 64) (xlet (xcp D.1 215 213 (0 : Int32).toNatClampNeg (0 : Int32).toNatClampNeg (64 : Int32).toNatClampNeg, D.2) fun D2 => xgrd (xb v2) (some (v2, D2)))) else (xgrd (xin v3 64) (xlet (xup D.1 215 (v3).toNatClampNeg v3, D.2) fun D5 => xgrd (xin v3 64) (xlet (D5.1 213 (v3).toNatClampNeg) fun v4_7 => f_X4_refine_32 F P xS0 rec_9 F 212 v1 v2 v3 v4_7 D5)))) := by
  unfold f_X4_refine_9s
  simp only [ll_213, ll_215, rr_212_0, rr_212_2]
theorem e_X4_refine_9 (F P n : Nat) (v1 : Nat) (v2 : Int32) (v3 : Int32) (D : xDt) : f_X4_refine_9 F P xS0 (n + 1) 212 v1 v2 v3 D = (if (D.1 v1 0) ≤ v3 then (xgrd (xcpin 0 0 64 64 64) (xlet (xcp D.1 215 213 (0 : Int32).toNatClampNeg (0 : Int32).toNatClampNeg (64 : Int32).toNatClampNeg, D.2) fun D2 => xgrd (xb v2) (some (v2, D2)))) else (xgrd (xin v3 64) (xlet (xup D.1 215 (v3).toNatClampNeg v3, D.2) fun D5 => xgrd (xin v3 64) (xlet (D5.1 213 (v3).toNatClampNeg) fun v4_7 => f_X4_refine_32 F P xS0 (f_X4_refine_9 F P xS0 n) F 212 v1 v2 v3 v4_7 D5)))) := e_X4_refine_9s F P (f_X4_refine_9 F P xS0 n) v1 v2 v3 D
set_option maxHeartbeats 2000000 in
theorem e_X4_refine (F P : Nat) (v1 : Nat) (D : xDt) : f_X4_refine F P xS0 212 v1 D = ((f_X4_look F P xS0 212 v1 D).bind fun q1 => f_X4_refine_9 F P xS0 F 212 v1 0 0 q1) := by
  unfold f_X4_refine
  rfl
set_option maxHeartbeats 2000000 in
theorem e_X4_difference_8s (F P : Nat) (rec_8 : Nat → Nat → Int32 → Int32 → Int32 → xDt → Option (Int32 × xDt)) (v1 : Nat) (v2 : Int32) (v3 : Int32) (v4 : Int32) (D : xDt) : f_X4_difference_8s F P xS0 rec_8 212 v1 v2 v3 v4 D = (if 64 < v4 then (some ((-2), D)) else (xgrd (xin v2 64) (xgrd (xin v3 64) (if (D.1 213 (v2).toNatClampNeg) = (D.1 213 (v3).toNatClampNeg) then ((f_X4_refine F P xS0 212 v1 D).bind fun q3 => if q3.1 = 0 then (some ((-2), q3.2)) else (xlet (v4 + 1) fun v4_4 => rec_8 212 v1 v2 v3 v4_4 q3.2)) else (some (v4, D)))))) := by
  unfold f_X4_difference_8s
  simp only [ll_213, rr_212_0]
theorem e_X4_difference_8 (F P n : Nat) (v1 : Nat) (v2 : Int32) (v3 : Int32) (v4 : Int32) (D : xDt) : f_X4_difference_8 F P xS0 (n + 1) 212 v1 v2 v3 v4 D = (if 64 < v4 then (some ((-2), D)) else (xgrd (xin v2 64) (xgrd (xin v3 64) (if (D.1 213 (v2).toNatClampNeg) = (D.1 213 (v3).toNatClampNeg) then ((f_X4_refine F P xS0 212 v1 D).bind fun q3 => if q3.1 = 0 then (some ((-2), q3.2)) else (xlet (v4 + 1) fun v4_4 => (f_X4_difference_8 F P xS0 n) 212 v1 v2 v3 v4_4 q3.2)) else (some (v4, D)))))) := e_X4_difference_8s F P (f_X4_difference_8 F P xS0 n) v1 v2 v3 v4 D
set_option maxHeartbeats 2000000 in
theorem e_X4_difference (F P : Nat) (v1 : Nat) (v2 : Int32) (v3 : Int32) (D : xDt) : f_X4_difference F P xS0 212 v1 v2 v3 D = ((f_X4_start F P xS0 212 v1 D).bind fun q1 => f_X4_difference_8 F P xS0 F 212 v1 v2 v3 0 q1) := by
  unfold f_X4_difference
  rfl
set_option maxHeartbeats 2000000 in
theorem e_X4_settle_7s (F P : Nat) (rec_7 : Nat → Nat → Int32 → xDt → Option (xDt)) (v1 : Nat) (v2 : Int32) (D : xDt) : f_X4_settle_7s F P xS0 rec_7 212 v1 v2 D = (if 64 < v2 then (some D) else ((f_X4_refine F P xS0 212 v1 D).bind fun q1 => if q1.1 = 0 then (some q1.2) else (xlet (v2 + 1) fun v2_2 => rec_7 212 v1 v2_2 q1.2))) := by
  unfold f_X4_settle_7s
  rfl
theorem e_X4_settle_7 (F P n : Nat) (v1 : Nat) (v2 : Int32) (D : xDt) : f_X4_settle_7 F P xS0 (n + 1) 212 v1 v2 D = (if 64 < v2 then (some D) else ((f_X4_refine F P xS0 212 v1 D).bind fun q1 => if q1.1 = 0 then (some q1.2) else (xlet (v2 + 1) fun v2_2 => (f_X4_settle_7 F P xS0 n) 212 v1 v2_2 q1.2))) := e_X4_settle_7s F P (f_X4_settle_7 F P xS0 n) v1 v2 D
set_option maxHeartbeats 2000000 in
theorem e_X4_settle (F P : Nat) (v1 : Nat) (D : xDt) : f_X4_settle F P xS0 212 v1 D = ((f_X4_start F P xS0 212 v1 D).bind fun q1 => f_X4_settle_7 F P xS0 F 212 v1 0 q1) := by
  unfold f_X4_settle
  rfl
set_option maxHeartbeats 2000000 in
theorem e_X4_firsts_5s (F P : Nat) (rec_5 : Nat → Nat → Int64 → Int32 → xDt → Option (Int64 × xDt)) (v1 : Nat) (v2 : Int64) (v4 : Int32) (D : xDt) : f_X4_firsts_5s F P xS0 rec_5 212 v1 v2 v4 D = (if (D.1 v1 0) ≤ v4 then (some (v2, D)) else (xgrd (xin v4 64) (xlet (v2 ||| (jlshl 1 (D.1 213 (v4).toNatClampNeg))) fun v2_2 => xlet (v4 + 1) fun v4_3 => rec_5 212 v1 v2_2 v4_3 D))) := by
  unfold f_X4_firsts_5s
  simp only [ll_213, rr_212_0]
theorem e_X4_firsts_5 (F P n : Nat) (v1 : Nat) (v2 : Int64) (v4 : Int32) (D : xDt) : f_X4_firsts_5 F P xS0 (n + 1) 212 v1 v2 v4 D = (if (D.1 v1 0) ≤ v4 then (some (v2, D)) else (xgrd (xin v4 64) (xlet (v2 ||| (jlshl 1 (D.1 213 (v4).toNatClampNeg))) fun v2_2 => xlet (v4 + 1) fun v4_3 => (f_X4_firsts_5 F P xS0 n) 212 v1 v2_2 v4_3 D))) := e_X4_firsts_5s F P (f_X4_firsts_5 F P xS0 n) v1 v2 v4 D
set_option maxHeartbeats 2000000 in
theorem e_X4_firsts (F P : Nat) (v1 : Nat) (D : xDt) : f_X4_firsts F P xS0 212 v1 D = (f_X4_firsts_5 F P xS0 F 212 v1 0 0 D) := by
  unfold f_X4_firsts
  rfl
set_option maxHeartbeats 2000000 in
theorem e_X7_push_68 (F P : Nat) (v2 : Int32) (v3 : Int32) (s0 : Int32) (D : xDt) : f_X7_push_68 F P xS0 217 v2 v3 s0 D = (if v3 = 80 then (if s0 = 0 then (f_X7_push_119 F P xS0 D) else ((f_X2_add F P xS0 220 38 D).bind fun q1 => if q1.1 = 0 then (f_X7_push_119 F P xS0 q1.2) else ((f_X2_addAll F P xS0 220 218 (q1.2.1 217 3) v2 q1.2).bind fun q2 => if q2.1 = 0 then (f_X7_push_119 F P xS0 q2.2) else (some (1, q2.2))))) else (xgrd (xb s0) (some (s0, D)))) := by
  unfold f_X7_push_68
  simp only [rr_217_0, rr_217_2]
set_option maxHeartbeats 2000000 in
theorem e_X7_push_67 (F P : Nat) (v2 : Int32) (v3 : Int32) (D : xDt) : f_X7_push_67 F P xS0 217 v2 v3 D = (f_X7_push_68 F P xS0 217 v2 v3 0 D) := by
  unfold f_X7_push_67
  rfl
set_option maxHeartbeats 2000000 in
theorem e_X7_push (F P : Nat) (v1 : Int32) (v2 : Int32) (D : xDt) : f_X7_push F P xS0 217 v1 v2 D = ((f_X11_signOf F P xS0 v1 D).bind fun q1 => (f_X11_isJoin F P xS0 q1.1 q1.2).bind fun q2 => if q2.1 = 0 then ((f_X2_add F P xS0 220 62 q2.2).bind fun q3 => if q3.1 = 0 then (f_X7_push_67 F P xS0 217 v2 q1.1 q3.2) else ((f_X2_addAll F P xS0 220 218 (q3.2.1 217 3) v2 q3.2).bind fun q4 => if q4.1 = 0 then (f_X7_push_67 F P xS0 217 v2 q1.1 q4.2) else ((f_X2_add F P xS0 220 v1 q4.2).bind fun q5 => if q5.1 = 0 then (f_X7_push_67 F P xS0 217 v2 q1.1 q5.2) else (f_X7_push_68 F P xS0 217 v2 q1.1 1 q5.2)))) else ((f_X2_add F P xS0 220 v1 q2.2).bind fun q6 => xgrd (xb q6.1) (some (q6.1, q6.2)))) := by
  unfold f_X7_push
  simp only [rr_217_0, rr_217_2]
set_option maxHeartbeats 2000000 in
theorem e_X7_unsay_121 (F P : Nat) (v3 : Int32) (v4 : Int32) (D : xDt) : f_X7_unsay_121 F P xS0 217 v3 v4 D = (if v4 = 0 then (some (0, D)) else (if (D.1 220 1) ≤ v3 then (xlet (xup D.1 217 3 (v3 - (D.1 220 1)), D.2) fun D1 => xgrd (xcpin 0 (D1.1 217 3) (D1.1 220 1) 2000 2000) (xlet (xcp D1.1 221 218 (0 : Int32).toNatClampNeg (D1.1 217 3).toNatClampNeg (D1.1 220 1).toNatClampNeg, D1.2) fun D3 => some (1, D3))) else (some (0, D)))) := by
  unfold f_X7_unsay_121
  simp only [ll_218, ll_221, rr_217_0, rr_217_2, rr_220_0]
set_option maxHeartbeats 2000000 in
theorem e_X7_unsay_90s (F P : Nat) (rec_90 : Nat → Int32 → Int32 → Int32 → Int32 → xDt → Option (Int32 × xDt)) (v2 : Int32) (v3 : Int32) (v4 : Int32) (v5 : Int32) (D : xDt) : f_X7_unsay_90s F P xS0 rec_90 217 v2 v3 v4 v5 D = (if v4 = 0 then (f_X7_unsay_121 F P xS0 217 v3 v4 D) else (if v3 ≤ v5 then (f_X7_unsay_121 F P xS0 217 v3 v4 D) else (xgrd (xin v5 2000) ((f_X7_push F P xS0 217 (D.1 218 (v5).toNatClampNeg) v2 D).bind fun q2 => xlet (v5 + 1) fun v5_3 => rec_90 217 v2 v3 q2.1 v5_3 q2.2)))) := by
  unfold f_X7_unsay_90s
  simp only [ll_218, rr_217_0]
theorem e_X7_unsay_90 (F P n : Nat) (v2 : Int32) (v3 : Int32) (v4 : Int32) (v5 : Int32) (D : xDt) : f_X7_unsay_90 F P xS0 (n + 1) 217 v2 v3 v4 v5 D = (if v4 = 0 then (f_X7_unsay_121 F P xS0 217 v3 v4 D) else (if v3 ≤ v5 then (f_X7_unsay_121 F P xS0 217 v3 v4 D) else (xgrd (xin v5 2000) ((f_X7_push F P xS0 217 (D.1 218 (v5).toNatClampNeg) v2 D).bind fun q2 => xlet (v5 + 1) fun v5_3 => (f_X7_unsay_90 F P xS0 n) 217 v2 v3 q2.1 v5_3 q2.2)))) := e_X7_unsay_90s F P (f_X7_unsay_90 F P xS0 n) v2 v3 v4 v5 D
set_option maxHeartbeats 2000000 in
theorem e_X7_unsay_85 (F P : Nat) (v2 : Int32) (v3 : Int32) (s0 : Int32) (D : xDt) : f_X7_unsay_85 F P xS0 217 v2 v3 s0 D = (f_X7_unsay_90 F P xS0 F 217 v2 v3 s0 v2 D) := by
  unfold f_X7_unsay_85
  rfl
set_option maxHeartbeats 2000000 in
theorem e_X7_unsay_80 (F P : Nat) (v2 : Int32) (v3 : Int32) (D : xDt) : f_X7_unsay_80 F P xS0 217 v2 v3 D = (f_X7_unsay_85 F P xS0 217 v2 v3 1 D) := by
  unfold f_X7_unsay_80
  rfl
set_option maxHeartbeats 2000000 in
theorem e_X7_unsay_84 (F P : Nat) (v2 : Int32) (v3 : Int32) (D : xDt) : f_X7_unsay_84 F P xS0 217 v2 v3 D = (f_X7_unsay_85 F P xS0 217 v2 v3 0 D) := by
  unfold f_X7_unsay_84
  rfl
set_option maxHeartbeats 2000000 in
theorem e_X7_unsay (F P : Nat) (v1 : Int32) (D : xDt) : f_X7_unsay F P xS0 217 v1 D = (if 2 ≤ (D.1 217 4) then (xgrd (xin ((D.1 217 4) - 1) 150) (xlet (D.1 219 ((D.1 217 4) - 1).toNatClampNeg) fun v2_2 => xgrd (xin ((D.1 217 4) - 2) 150) (xlet (D.1 219 ((D.1 217 4) - 2).toNatClampNeg) fun v3_4 => xlet (xup D.1 217 4 ((D.1 217 4) - 1), D.2) fun D5 => xlet (xup D5.1 220 1 0, D5.2) fun D6 => if v1 = 91 then (f_X7_unsay_80 F P xS0 217 v2_2 v3_4 D6) else ((f_X2_add F P xS0 220 126 D6).bind fun q7 => if q7.1 = 0 then (f_X7_unsay_84 F P xS0 217 v2_2 v3_4 q7.2) else ((f_X7_push F P xS0 217 126 v2_2 q7.2).bind fun q8 => if q8.1 = 0 then (f_X7_unsay_84 F P xS0 217 v2_2 v3_4 q8.2) else (f_X7_unsay_80 F P xS0 217 v2_2 v3_4 q8.2)))))) else (some (0, D))) := by
  unfold f_X7_unsay
  simp only [ll_219, rr_217_1, rr_217_2]
set_option maxHeartbeats 2000000 in
theorem e_X7_place_94 (F P : Nat) (v1 : Int32) (D : xDt) : f_X7_place_94 F P xS0 217 v1 D = (xlet (xup D.1 217 3 ((D.1 217 3) - 1), D.2) fun D1 => xgrd (xin ((D.1 217 3) - 1) 2000) (xlet (xup D1.1 218 ((D.1 217 3) - 1).toNatClampNeg v1, D1.2) fun D3 => some (1, D3))) := by
  unfold f_X7_place_94
  simp only [ll_218, rr_217_0]
set_option maxHeartbeats 2000000 in
theorem e_X7_place_69 (F P : Nat) (v1 : Int32) (v2 : Int32) (D : xDt) : f_X7_place_69 F P xS0 217 v1 v2 D = ((f_X11_isJoin F P xS0 v2 D).bind fun q1 => if q1.1 = 0 then (f_X7_place_94 F P xS0 217 v1 q1.2) else (if (q1.2.1 217 4) < 2 then (f_X7_place_94 F P xS0 217 v1 q1.2) else (xlet (xup q1.2.1 217 4 ((q1.2.1 217 4) - 1), q1.2.2) fun D2 => f_X7_place_94 F P xS0 217 v1 D2))) := by
  unfold f_X7_place_69
  rfl
set_option maxHeartbeats 2000000 in
theorem e_X7_place (F P : Nat) (v1 : Int32) (D : xDt) : f_X7_place F P xS0 217 v1 D = ((f_X11_signOf F P xS0 v1 D).bind fun q1 => (f_X11_isSaying F P xS0 q1.1 q1.2).bind fun q2 => if q2.1 = 0 then (if 0 < (q2.2.1 217 3) then ((f_X11_isLeaf F P xS0 q1.1 q2.2).bind fun q3 => if q3.1 = 0 then (f_X7_place_69 F P xS0 217 v1 q1.1 q3.2) else (if (Int32.ofNat 150) ≤ (q3.2.1 217 4) then (f_X7_place_69 F P xS0 217 v1 q1.1 q3.2) else (xlet (xup q3.2.1 217 4 ((q3.2.1 217 4) + 1), q3.2.2) fun D4 => xgrd (xin (q3.2.1 217 4) 150) (xlet (xup D4.1 219 (q3.2.1 217 4).toNatClampNeg (D4.1 217 3), D4.2) fun D6 => f_X7_place_94 F P xS0 217 v1 D6)))) else (some (0, q2.2))) else ((f_X7_unsay F P xS0 217 q1.1 q2.2).bind fun q7 => xgrd (xb q7.1) (some (q7.1, q7.2)))) := by
  unfold f_X7_place
  simp only [ll_219, rr_217_1]
set_option maxHeartbeats 2000000 in
theorem e_X7_apply_44s (F P : Nat) (rec_44 : Nat → Nat → Int32 → xDt → Option (Int32 × xDt)) (v1 : Nat) (v2 : Int32) (D : xDt) : f_X7_apply_44s F P xS0 rec_44 217 v1 v2 D = (if v2 < 0 then (xlet (xup D.1 v1 1 0, D.2) fun D1 => (f_X2_addAll F P xS0 v1 218 (D1.1 217 3) 2000 D1).bind fun q2 => some (q2.2.1 v1 1, q2.2)) else (xgrd (xin v2 (xl xS0 (xr xS0 v1 0))) ((f_X7_place F P xS0 217 (D.1 (xr xS0 v1 0) (v2).toNatClampNeg) D).bind fun q4 => if q4.1 = 0 then (some ((-3), q4.2)) else (xlet (v2 + (-1)) fun v2_5 => rec_44 217 v1 v2_5 q4.2)))) := by
  unfold f_X7_apply_44s
  simp only [rr_217_0]
theorem e_X7_apply_44 (F P n : Nat) (v1 : Nat) (v2 : Int32) (D : xDt) : f_X7_apply_44 F P xS0 (n + 1) 217 v1 v2 D = (if v2 < 0 then (xlet (xup D.1 v1 1 0, D.2) fun D1 => (f_X2_addAll F P xS0 v1 218 (D1.1 217 3) 2000 D1).bind fun q2 => some (q2.2.1 v1 1, q2.2)) else (xgrd (xin v2 (xl xS0 (xr xS0 v1 0))) ((f_X7_place F P xS0 217 (D.1 (xr xS0 v1 0) (v2).toNatClampNeg) D).bind fun q4 => if q4.1 = 0 then (some ((-3), q4.2)) else (xlet (v2 + (-1)) fun v2_5 => (f_X7_apply_44 F P xS0 n) 217 v1 v2_5 q4.2)))) := e_X7_apply_44s F P (f_X7_apply_44 F P xS0 n) v1 v2 D
set_option maxHeartbeats 2000000 in
theorem e_X7_apply (F P : Nat) (v1 : Nat) (D : xDt) : f_X7_apply F P xS0 217 v1 D = ((f_X2_hasAny F P xS0 v1 0 D).bind fun q1 => if q1.1 = 0 then ((f_X2_hasAny F P xS0 v1 1 q1.2).bind fun q2 => if q2.1 = 0 then (some (q2.2.1 v1 1, q2.2)) else (xlet (xup q2.2.1 217 3 2000, q2.2.2) fun D3 => xlet (xup D3.1 217 4 0, D3.2) fun D4 => xlet ((D4.1 v1 1) - 1) fun v2_5 => f_X7_apply_44 F P xS0 F 217 v1 v2_5 D4)) else (some ((-1), q1.2))) := by
  unfold f_X7_apply
  rfl
set_option maxHeartbeats 2000000 in
theorem e_X0_tokenAt (F P : Nat) (v1 : Int32) (D : xDt) : f_X0_tokenAt F P xS0 222 v1 D = (xgrd (xin v1 13) (xgrd (xin (D.1 229 (v1).toNatClampNeg) 2400) (some (D.1 225 (D.1 229 (v1).toNatClampNeg).toNatClampNeg, D)))) := by
  unfold f_X0_tokenAt
  simp only [ll_225, ll_229, rr_222_1, rr_224_0, rr_224_4]
set_option maxHeartbeats 2000000 in
theorem e_X0_findKnownBits_55 (F P : Nat) (rec_2 : Nat → Int32 → xDt → Option (xDt)) (rec_16 : Nat → Int32 → Int32 → xDt → Option (xDt)) (v1 : Int32) (v2 : Int32) (D : xDt) : f_X0_findKnownBits_55 F P xS0 rec_2 rec_16 222 v1 v2 D = (xlet (v2 + 1) fun v2_1 => rec_16 222 v1 v2_1 D) := by
  unfold f_X0_findKnownBits_55
  rfl
set_option maxHeartbeats 2000000 in
theorem e_X0_findKnownBits_16s (F P : Nat) (rec_2 : Nat → Int32 → xDt → Option (xDt)) (rec_16 : Nat → Int32 → Int32 → xDt → Option (xDt)) (v1 : Int32) (v2 : Int32) (D : xDt) : f_X0_findKnownBits_16s F P xS0 rec_2 rec_16 222 v1 v2 D = (if (D.1 224 8) ≤ v2 then (xlet (v1 + 1) fun v1_1 => rec_2 222 v1_1 D) else ((f_X0_tokenAt F P xS0 222 v2 D).bind fun q2 => (f_X11_withAgents F P xS0 75 (jishl 1 v1) q2.2).bind fun q3 => if q2.1 = q3.1 then (xgrd (xin v1 4) (xgrd (xin v1 4) (xlet (xup q3.2.1 238 (v1).toNatClampNeg ((q3.2.1 238 (v1).toNatClampNeg) ||| (jishl 1 v2)), q3.2.2) fun D6 => f_X0_findKnownBits_55 F P xS0 rec_2 rec_16 222 v1 v2 D6))) else (f_X0_findKnownBits_55 F P xS0 rec_2 rec_16 222 v1 v2 q3.2))) := by
  unfold f_X0_findKnownBits_16s
  simp only [ll_238, rr_222_1, rr_222_8]
theorem e_X0_findKnownBits_16 (F P n : Nat) (rec_2 : Nat → Int32 → xDt → Option (xDt)) (v1 : Int32) (v2 : Int32) (D : xDt) : f_X0_findKnownBits_16 F P xS0 rec_2 (n + 1) 222 v1 v2 D = (if (D.1 224 8) ≤ v2 then (xlet (v1 + 1) fun v1_1 => rec_2 222 v1_1 D) else ((f_X0_tokenAt F P xS0 222 v2 D).bind fun q2 => (f_X11_withAgents F P xS0 75 (jishl 1 v1) q2.2).bind fun q3 => if q2.1 = q3.1 then (xgrd (xin v1 4) (xgrd (xin v1 4) (xlet (xup q3.2.1 238 (v1).toNatClampNeg ((q3.2.1 238 (v1).toNatClampNeg) ||| (jishl 1 v2)), q3.2.2) fun D6 => f_X0_findKnownBits_55 F P xS0 rec_2 (f_X0_findKnownBits_16 F P xS0 rec_2 n) 222 v1 v2 D6))) else (f_X0_findKnownBits_55 F P xS0 rec_2 (f_X0_findKnownBits_16 F P xS0 rec_2 n) 222 v1 v2 q3.2))) := e_X0_findKnownBits_16s F P rec_2 (f_X0_findKnownBits_16 F P xS0 rec_2 n) v1 v2 D
set_option maxHeartbeats 2000000 in
theorem e_X0_findKnownBits_2s (F P : Nat) (rec_2 : Nat → Int32 → xDt → Option (xDt)) (v1 : Int32) (D : xDt) : f_X0_findKnownBits_2s F P xS0 rec_2 222 v1 D = (if 4 ≤ v1 then (some D) else (xgrd (xin v1 4) (xlet (xup D.1 238 (v1).toNatClampNeg 0, D.2) fun D2 => f_X0_findKnownBits_16 F P xS0 rec_2 F 222 v1 0 D2))) := by
  unfold f_X0_findKnownBits_2s
  simp only [ll_238, rr_222_8]
theorem e_X0_findKnownBits_2 (F P n : Nat) (v1 : Int32) (D : xDt) : f_X0_findKnownBits_2 F P xS0 (n + 1) 222 v1 D = (if 4 ≤ v1 then (some D) else (xgrd (xin v1 4) (xlet (xup D.1 238 (v1).toNatClampNeg 0, D.2) fun D2 => f_X0_findKnownBits_16 F P xS0 (f_X0_findKnownBits_2 F P xS0 n) F 222 v1 0 D2))) := e_X0_findKnownBits_2s F P (f_X0_findKnownBits_2 F P xS0 n) v1 D
set_option maxHeartbeats 2000000 in
theorem e_X0_findKnownBits (F P : Nat) (D : xDt) : f_X0_findKnownBits F P xS0 222 D = (f_X0_findKnownBits_2 F P xS0 F 222 0 D) := by
  unfold f_X0_findKnownBits
  rfl
set_option maxHeartbeats 2000000 in
theorem e_X0_telling (F P : Nat) (v1 : Int32) (v2 : Int32) (D : xDt) : f_X0_telling F P xS0 222 v1 v2 D = (if 6 ≤ v1 then (if ((jishr v2 (v1 - 6)) &&& 1) = 0 then (some (0, D)) else (some ((-1), D))) else (xgrd (xin v1 6) (some (xSETv (v1).toNatClampNeg, D)))) := by
  unfold f_X0_telling
  rfl
set_option maxHeartbeats 2000000 in
theorem e_X0_valueOf (F P : Nat) (v1 : Int32) (v2 : Int32) (D : xDt) : f_X0_valueOf F P xS0 222 v1 v2 D = (xgrd (xin v1 2400) (if (D.1 228 (v1).toNatClampNeg) < 0 then (xgrd (xin v1 2400) (xgrd (xin (D.1 226 (v1).toNatClampNeg) 2400) (xlet (D.2 232 (D.1 226 (v1).toNatClampNeg).toNatClampNeg) fun v3_4 => xgrd (xin v1 2400) (xgrd (xin (D.1 227 (v1).toNatClampNeg) 2400) (xlet (D.2 232 (D.1 227 (v1).toNatClampNeg).toNatClampNeg) fun v5_7 => xgrd (xin v1 2400) ((f_X11_signOf F P xS0 (D.1 225 (v1).toNatClampNeg) D).bind fun q9 => if q9.1 = 38 then (some (v3_4 &&& v5_7, q9.2)) else (if q9.1 = 49 then (some ((-1), q9.2)) else (if q9.1 = 61 then (some ((v3_4 ^^^ v5_7) ^^^ (-1), q9.2)) else (if q9.1 = 62 then (some ((v3_4 ^^^ (-1)) ||| v5_7, q9.2)) else (if q9.1 = 124 then (some (v3_4 ||| v5_7, q9.2)) else (if q9.1 = 126 then (some (v3_4 ^^^ (-1), q9.2)) else (some (0, q9.2))))))))))))) else (xgrd (xin v1 2400) ((f_X0_telling F P xS0 222 (D.1 228 (v1).toNatClampNeg) v2 D).bind fun q11 => some (q11.1, q11.2))))) := by
  unfold f_X0_valueOf
  simp only [ll_225, ll_226, ll_227, ll_228, ll_232, rr_222_1, rr_222_2, rr_224_0, rr_224_1, rr_224_2, rr_224_3]
set_option maxHeartbeats 2000000 in
theorem e_X0_isKnownCommon (F P : Nat) (v1 : Int32) (v2 : Int32) (D : xDt) : f_X0_isKnownCommon F P xS0 222 v1 v2 D = ((f_X0_tokenAt F P xS0 222 v1 D).bind fun q1 => (f_X11_signOf F P xS0 q1.1 q1.2).bind fun q2 => if q2.1 = 75 then (xgrd (xin v1 13) (xgrd (xin (q2.2.1 229 (v1).toNatClampNeg) 2400) (xgrd (xin v2 13) (if (q2.2.1 226 (q2.2.1 229 (v1).toNatClampNeg).toNatClampNeg) = (q2.2.1 229 (v2).toNatClampNeg) then ((f_X0_tokenAt F P xS0 222 v1 q2.2).bind fun q6 => (f_X11_agentsOf F P xS0 q6.1 q6.2).bind fun q7 => (f_X0_tokenAt F P xS0 222 v2 q7.2).bind fun q8 => (f_X11_agentsOf F P xS0 q8.1 q8.2).bind fun q9 => if (q7.1 &&& q9.1) = 0 then (f_X0_isKnownCommon_66 F P xS0 q9.2) else (some (1, q9.2))) else (f_X0_isKnownCommon_66 F P xS0 q2.2))))) else (f_X0_isKnownCommon_66 F P xS0 q2.2)) := by
  unfold f_X0_isKnownCommon
  simp only [ll_226, ll_229, rr_222_1, rr_224_1, rr_224_4]
set_option maxHeartbeats 2000000 in
theorem e_X0_lawful_82 (F P : Nat) (rec_42 : Nat → Int32 → Int32 → Int32 → Int64 → Int32 → xDt → Option (Int64 × xDt)) (v1 : Int32) (v2 : Int32) (v3 : Int32) (v4 : Int64) (v6 : Int32) (D : xDt) : f_X0_lawful_82 F P xS0 rec_42 222 v1 v2 v3 v4 v6 D = (xlet (v6 + 1) fun v6_1 => rec_42 222 v1 v2 v3 v4 v6_1 D) := by
  unfold f_X0_lawful_82
  rfl
set_option maxHeartbeats 2000000 in
theorem e_X0_lawful_42s (F P : Nat) (rec_42 : Nat → Int32 → Int32 → Int32 → Int64 → Int32 → xDt → Option (Int64 × xDt)) (v1 : Int32) (v2 : Int32) (v3 : Int32) (v4 : Int64) (v6 : Int32) (D : xDt) : f_X0_lawful_42s F P xS0 rec_42 222 v1 v2 v3 v4 v6 D = (if (D.1 224 8) ≤ v6 then (some (v4, D)) else (if v3 = 67 then ((f_X0_isKnownCommon F P xS0 222 v6 v1 D).bind fun q1 => if q1.1 = 0 then (f_X0_lawful_82 F P xS0 rec_42 222 v1 v2 v3 v4 v6 q1.2) else ((f_X0_telling F P xS0 222 v6 v2 q1.2).bind fun q2 => xlet (v4 &&& q2.1) fun v4_3 => f_X0_lawful_82 F P xS0 rec_42 222 v1 v2 v3 v4_3 v6 q2.2)) else (some (v4, D)))) := by
  unfold f_X0_lawful_42s
  simp only [rr_222_1]
theorem e_X0_lawful_42 (F P n : Nat) (v1 : Int32) (v2 : Int32) (v3 : Int32) (v4 : Int64) (v6 : Int32) (D : xDt) : f_X0_lawful_42 F P xS0 (n + 1) 222 v1 v2 v3 v4 v6 D = (if (D.1 224 8) ≤ v6 then (some (v4, D)) else (if v3 = 67 then ((f_X0_isKnownCommon F P xS0 222 v6 v1 D).bind fun q1 => if q1.1 = 0 then (f_X0_lawful_82 F P xS0 (f_X0_lawful_42 F P xS0 n) 222 v1 v2 v3 v4 v6 q1.2) else ((f_X0_telling F P xS0 222 v6 v2 q1.2).bind fun q2 => xlet (v4 &&& q2.1) fun v4_3 => f_X0_lawful_82 F P xS0 (f_X0_lawful_42 F P xS0 n) 222 v1 v2 v3 v4_3 v6 q2.2)) else (some (v4, D)))) := e_X0_lawful_42s F P (f_X0_lawful_42 F P xS0 n) v1 v2 v3 v4 v6 D
set_option maxHeartbeats 2000000 in
theorem e_X0_lawful_25 (F P : Nat) (v1 : Int32) (v2 : Int32) (v3 : Int32) (D : xDt) : f_X0_lawful_25 F P xS0 222 v1 v2 v3 D = (xgrd (xin ((v1 * 128) + v2) 1664) (xlet (D.2 233 ((v1 * 128) + v2).toNatClampNeg) fun v4_2 => f_X0_lawful_42 F P xS0 F 222 v1 v2 v3 v4_2 0 D)) := by
  unfold f_X0_lawful_25
  simp only [ll_233, rr_222_3]
set_option maxHeartbeats 2000000 in
theorem e_X0_lawful (F P : Nat) (v1 : Int32) (v2 : Int32) (D : xDt) : f_X0_lawful F P xS0 222 v1 v2 D = ((f_X0_tokenAt F P xS0 222 v1 D).bind fun q1 => (f_X11_signOf F P xS0 q1.1 q1.2).bind fun q2 => if q2.1 = 75 then (f_X0_lawful_25 F P xS0 222 v1 v2 q2.1 q2.2) else (if q2.1 = 67 then (f_X0_lawful_25 F P xS0 222 v1 v2 q2.1 q2.2) else (some ((-1), q2.2)))) := by
  unfold f_X0_lawful
  rfl
set_option maxHeartbeats 2000000 in
theorem e_X0_makeTypes_120s (F P : Nat) (rec_51 : Nat → Int32 → Int32 → Int64 → Int32 → xDt → Option (xDt)) (rec_120 : Nat → Int32 → Int32 → Int64 → Int32 → Int32 → xDt → Option (xDt)) (v1 : Int32) (v2 : Int32) (v3 : Int64) (v5 : Int32) (v6 : Int32) (D : xDt) : f_X0_makeTypes_120s F P xS0 rec_51 rec_120 222 v1 v2 v3 v5 v6 D = (if v2 ≤ v6 then (xlet (v5 + 1) fun v5_1 => rec_51 222 v1 v2 v3 v5_1 D) else (xgrd (xin v6 13) (xgrd (xin (D.1 229 (v6).toNatClampNeg) 2400) (xgrd (xin (D.1 226 (D.1 229 (v6).toNatClampNeg).toNatClampNeg) 2400) (xgrd (xin ((v6 * 128) + v5) 1664) (xlet (D.1, xup D.2 233 ((v6 * 128) + v5).toNatClampNeg (D.2 232 (D.1 226 (D.1 229 (v6).toNatClampNeg).toNatClampNeg).toNatClampNeg)) fun D6 => xgrd (xin v5 128) ((f_X0_telling F P xS0 222 v6 v5 D6).bind fun q8 => (f_X0_lawful F P xS0 222 v6 v5 q8.2).bind fun q9 => xgrd (xin v5 128) (xlet (q9.2.1, xup q9.2.2 235 (v5).toNatClampNeg ((D6.2 235 (v5).toNatClampNeg) &&& ((q8.1 ^^^ (-1)) ||| q9.1))) fun D11 => xlet (v6 + 1) fun v6_12 => rec_120 222 v1 v2 v3 v5 v6_12 D11)))))))) := by
  unfold f_X0_makeTypes_120s
  simp only [ll_226, ll_229, ll_232, ll_233, ll_235, rr_222_1, rr_222_2, rr_222_3, rr_222_5, rr_224_1, rr_224_4]
theorem e_X0_makeTypes_120 (F P n : Nat) (rec_51 : Nat → Int32 → Int32 → Int64 → Int32 → xDt → Option (xDt)) (v1 : Int32) (v2 : Int32) (v3 : Int64) (v5 : Int32) (v6 : Int32) (D : xDt) : f_X0_makeTypes_120 F P xS0 rec_51 (n + 1) 222 v1 v2 v3 v5 v6 D = (if v2 ≤ v6 then (xlet (v5 + 1) fun v5_1 => rec_51 222 v1 v2 v3 v5_1 D) else (xgrd (xin v6 13) (xgrd (xin (D.1 229 (v6).toNatClampNeg) 2400) (xgrd (xin (D.1 226 (D.1 229 (v6).toNatClampNeg).toNatClampNeg) 2400) (xgrd (xin ((v6 * 128) + v5) 1664) (xlet (D.1, xup D.2 233 ((v6 * 128) + v5).toNatClampNeg (D.2 232 (D.1 226 (D.1 229 (v6).toNatClampNeg).toNatClampNeg).toNatClampNeg)) fun D6 => xgrd (xin v5 128) ((f_X0_telling F P xS0 222 v6 v5 D6).bind fun q8 => (f_X0_lawful F P xS0 222 v6 v5 q8.2).bind fun q9 => xgrd (xin v5 128) (xlet (q9.2.1, xup q9.2.2 235 (v5).toNatClampNeg ((D6.2 235 (v5).toNatClampNeg) &&& ((q8.1 ^^^ (-1)) ||| q9.1))) fun D11 => xlet (v6 + 1) fun v6_12 => (f_X0_makeTypes_120 F P xS0 rec_51 n) 222 v1 v2 v3 v5 v6_12 D11)))))))) := e_X0_makeTypes_120s F P rec_51 (f_X0_makeTypes_120 F P xS0 rec_51 n) v1 v2 v3 v5 v6 D
set_option maxHeartbeats 2000000 in
theorem e_X0_makeTypes_63s (F P : Nat) (rec_51 : Nat → Int32 → Int32 → Int64 → Int32 → xDt → Option (xDt)) (rec_63 : Nat → Int32 → Int32 → Int64 → Int32 → Int32 → xDt → Option (xDt)) (v1 : Int32) (v2 : Int32) (v3 : Int64) (v5 : Int32) (v6 : Int32) (D : xDt) : f_X0_makeTypes_63s F P xS0 rec_51 rec_63 222 v1 v2 v3 v5 v6 D = (if (D.1 224 7) ≤ v6 then (xgrd (xin v1 2400) (xgrd (xin v5 128) (xlet (D.1, xup D.2 234 (v5).toNatClampNeg (D.2 232 (v1).toNatClampNeg)) fun D3 => xgrd (xin v5 128) (xlet (D3.1, xup D3.2 235 (v5).toNatClampNeg v3) fun D5 => f_X0_makeTypes_120 F P xS0 rec_51 F 222 v1 v2 v3 v5 0 D5)))) else ((f_X0_valueOf F P xS0 222 v6 v5 D).bind fun q6 => xgrd (xin v6 2400) (xlet (q6.2.1, xup q6.2.2 232 (v6).toNatClampNeg q6.1) fun D8 => xlet (v6 + 1) fun v6_9 => rec_63 222 v1 v2 v3 v5 v6_9 D8))) := by
  unfold f_X0_makeTypes_63s
  simp only [ll_232, ll_234, ll_235, rr_222_1, rr_222_2, rr_222_4, rr_222_5]
theorem e_X0_makeTypes_63 (F P n : Nat) (rec_51 : Nat → Int32 → Int32 → Int64 → Int32 → xDt → Option (xDt)) (v1 : Int32) (v2 : Int32) (v3 : Int64) (v5 : Int32) (v6 : Int32) (D : xDt) : f_X0_makeTypes_63 F P xS0 rec_51 (n + 1) 222 v1 v2 v3 v5 v6 D = (if (D.1 224 7) ≤ v6 then (xgrd (xin v1 2400) (xgrd (xin v5 128) (xlet (D.1, xup D.2 234 (v5).toNatClampNeg (D.2 232 (v1).toNatClampNeg)) fun D3 => xgrd (xin v5 128) (xlet (D3.1, xup D3.2 235 (v5).toNatClampNeg v3) fun D5 => f_X0_makeTypes_120 F P xS0 rec_51 F 222 v1 v2 v3 v5 0 D5)))) else ((f_X0_valueOf F P xS0 222 v6 v5 D).bind fun q6 => xgrd (xin v6 2400) (xlet (q6.2.1, xup q6.2.2 232 (v6).toNatClampNeg q6.1) fun D8 => xlet (v6 + 1) fun v6_9 => (f_X0_makeTypes_63 F P xS0 rec_51 n) 222 v1 v2 v3 v5 v6_9 D8))) := e_X0_makeTypes_63s F P rec_51 (f_X0_makeTypes_63 F P xS0 rec_51 n) v1 v2 v3 v5 v6 D
set_option maxHeartbeats 2000000 in
theorem e_X0_makeTypes_51s (F P : Nat) (rec_51 : Nat → Int32 → Int32 → Int64 → Int32 → xDt → Option (xDt)) (v1 : Int32) (v2 : Int32) (v3 : Int64) (v5 : Int32) (D : xDt) : f_X0_makeTypes_51s F P xS0 rec_51 222 v1 v2 v3 v5 D = (if (D.1 222 9) ≤ v5 then (some D) else (f_X0_makeTypes_63 F P xS0 rec_51 F 222 v1 v2 v3 v5 0 D)) := by
  unfold f_X0_makeTypes_51s
  rfl
theorem e_X0_makeTypes_51 (F P n : Nat) (v1 : Int32) (v2 : Int32) (v3 : Int64) (v5 : Int32) (D : xDt) : f_X0_makeTypes_51 F P xS0 (n + 1) 222 v1 v2 v3 v5 D = (if (D.1 222 9) ≤ v5 then (some D) else (f_X0_makeTypes_63 F P xS0 (f_X0_makeTypes_51 F P xS0 n) F 222 v1 v2 v3 v5 0 D)) := e_X0_makeTypes_51s F P (f_X0_makeTypes_51 F P xS0 n) v1 v2 v3 v5 D
set_option maxHeartbeats 2000000 in
theorem e_X0_makeTypes_47 (F P : Nat) (v1 : Int32) (v2 : Int32) (s0 : Int64) (D : xDt) : f_X0_makeTypes_47 F P xS0 222 v1 v2 s0 D = (f_X0_makeTypes_51 F P xS0 F 222 v1 v2 s0 0 D) := by
  unfold f_X0_makeTypes_47
  rfl
set_option maxHeartbeats 2000000 in
theorem e_X0_makeTypes_25 (F P : Nat) (v1 : Int32) (v2 : Int32) (s0 : Int32) (s1 : Nat) (D : xDt) : f_X0_makeTypes_25 F P xS0 222 v1 v2 s0 s1 D = (xlet (xup D.1 s1 9 s0, D.2) fun D1 => if v2 < 6 then (f_X0_makeTypes_47 F P xS0 222 v1 v2 ((jlshl 1 (jishl 1 v2)) - 1) D1) else (f_X0_makeTypes_47 F P xS0 222 v1 v2 (-1) D1)) := by
  unfold f_X0_makeTypes_25
  rfl
set_option maxHeartbeats 2000000 in
theorem e_X0_makeTypes (F P : Nat) (v1 : Int32) (D : xDt) : f_X0_makeTypes F P xS0 222 v1 D = (xlet (D.1 224 8) fun v2_1 => if v2_1 ≤ 6 then (f_X0_makeTypes_25 F P xS0 222 v1 v2_1 1 222 D) else (f_X0_makeTypes_25 F P xS0 222 v1 v2_1 (jishl 1 (v2_1 - 6)) 222 D)) := by
  unfold f_X0_makeTypes
  simp only [rr_222_1]
set_option maxHeartbeats 2000000 in
theorem e_X0_sizeOf_35 (F P : Nat) (rec_4 : Nat → Int32 → Int32 → Int32 → xDt → Option (Int32 × xDt)) (v1 : Int32) (v3 : Int32) (s0 : Int64) (s1 : Int64) (s2 : Int32) (D : xDt) : f_X0_sizeOf_35 F P xS0 rec_4 222 v1 v3 s0 s1 s2 D = ((f_J13_bitCount_95d88 F P xS0 (s1 &&& s0) D).bind fun q1 => xlet (s2 + q1.1) fun v2_2 => xlet (v3 + 1) fun v3_3 => rec_4 222 v1 v2_2 v3_3 q1.2) := by
  unfold f_X0_sizeOf_35
  rfl
set_option maxHeartbeats 2000000 in
theorem e_X0_sizeOf_4s (F P : Nat) (rec_4 : Nat → Int32 → Int32 → Int32 → xDt → Option (Int32 × xDt)) (v1 : Int32) (v2 : Int32) (v3 : Int32) (D : xDt) : f_X0_sizeOf_4s F P xS0 rec_4 222 v1 v2 v3 D = (if (D.1 222 9) ≤ v3 then (some (v2, D)) else (xgrd (xin v3 128) (if v1 = 0 then (f_X0_sizeOf_35 F P xS0 rec_4 222 v1 v3 (-1) (D.2 235 (v3).toNatClampNeg) v2 D) else (xgrd (xin v3 128) (f_X0_sizeOf_35 F P xS0 rec_4 222 v1 v3 (D.2 234 (v3).toNatClampNeg) (D.2 235 (v3).toNatClampNeg) v2 D))))) := by
  unfold f_X0_sizeOf_4s
  simp only [ll_234, ll_235, rr_222_4, rr_222_5]
theorem e_X0_sizeOf_4 (F P n : Nat) (v1 : Int32) (v2 : Int32) (v3 : Int32) (D : xDt) : f_X0_sizeOf_4 F P xS0 (n + 1) 222 v1 v2 v3 D = (if (D.1 222 9) ≤ v3 then (some (v2, D)) else (xgrd (xin v3 128) (if v1 = 0 then (f_X0_sizeOf_35 F P xS0 (f_X0_sizeOf_4 F P xS0 n) 222 v1 v3 (-1) (D.2 235 (v3).toNatClampNeg) v2 D) else (xgrd (xin v3 128) (f_X0_sizeOf_35 F P xS0 (f_X0_sizeOf_4 F P xS0 n) 222 v1 v3 (D.2 234 (v3).toNatClampNeg) (D.2 235 (v3).toNatClampNeg) v2 D))))) := e_X0_sizeOf_4s F P (f_X0_sizeOf_4 F P xS0 n) v1 v2 v3 D
set_option maxHeartbeats 2000000 in
theorem e_X0_sizeOf (F P : Nat) (v1 : Int32) (D : xDt) : f_X0_sizeOf F P xS0 222 v1 D = (f_X0_sizeOf_4 F P xS0 F 222 v1 0 0 D) := by
  unfold f_X0_sizeOf
  rfl
set_option maxHeartbeats 2000000 in
theorem e_X0_startDoubt_2s (F P : Nat) (rec_2 : Nat → Int32 → Int32 → xDt → Option (xDt)) (v1 : Int32) (v2 : Int32) (D : xDt) : f_X0_startDoubt_2s F P xS0 rec_2 222 v1 v2 D = (if (D.1 222 9) ≤ v2 then (some D) else (xgrd (xin v2 128) (xgrd (xin ((v1 * 128) + v2) 1664) (xgrd (xin v2 128) (xlet (D.1, xup D.2 237 (v2).toNatClampNeg ((D.2 235 (v2).toNatClampNeg) &&& ((D.2 233 ((v1 * 128) + v2).toNatClampNeg) ^^^ (-1)))) fun D4 => xlet (v2 + 1) fun v2_5 => rec_2 222 v1 v2_5 D4))))) := by
  unfold f_X0_startDoubt_2s
  simp only [ll_233, ll_235, ll_237, rr_222_3, rr_222_5, rr_222_7]
theorem e_X0_startDoubt_2 (F P n : Nat) (v1 : Int32) (v2 : Int32) (D : xDt) : f_X0_startDoubt_2 F P xS0 (n + 1) 222 v1 v2 D = (if (D.1 222 9) ≤ v2 then (some D) else (xgrd (xin v2 128) (xgrd (xin ((v1 * 128) + v2) 1664) (xgrd (xin v2 128) (xlet (D.1, xup D.2 237 (v2).toNatClampNeg ((D.2 235 (v2).toNatClampNeg) &&& ((D.2 233 ((v1 * 128) + v2).toNatClampNeg) ^^^ (-1)))) fun D4 => xlet (v2 + 1) fun v2_5 => (f_X0_startDoubt_2 F P xS0 n) 222 v1 v2_5 D4))))) := e_X0_startDoubt_2s F P (f_X0_startDoubt_2 F P xS0 n) v1 v2 D
set_option maxHeartbeats 2000000 in
theorem e_X0_startDoubt (F P : Nat) (v1 : Int32) (D : xDt) : f_X0_startDoubt F P xS0 222 v1 D = (f_X0_startDoubt_2 F P xS0 F 222 v1 0 D) := by
  unfold f_X0_startDoubt
  rfl
set_option maxHeartbeats 2000000 in
theorem e_X0_leaveOpen_12s (F P : Nat) (rec_12 : Nat → Int32 → Int32 → Int32 → xDt → Option (xDt)) (v1 : Int32) (v2 : Int32) (v3 : Int32) (D : xDt) : f_X0_leaveOpen_12s F P xS0 rec_12 222 v1 v2 v3 D = (if (D.1 222 9) ≤ v3 then (some D) else (xgrd (xin v3 128) (xlet (D.2 236 (v3).toNatClampNeg) fun v4_2 => xgrd (xin v1 6) (xgrd (xin v1 6) (xgrd (xin v3 128) (xlet (D.1, xup D.2 236 (v3).toNatClampNeg ((v4_2 ||| (jlushr (v4_2 &&& (xSETv (v1).toNatClampNeg)) v2)) ||| ((jlshl v4_2 v2) &&& (xSETv (v1).toNatClampNeg)))) fun D6 => xlet (v3 + 1) fun v3_7 => rec_12 222 v1 v2 v3_7 D6)))))) := by
  unfold f_X0_leaveOpen_12s
  simp only [ll_236, rr_222_6]
theorem e_X0_leaveOpen_12 (F P n : Nat) (v1 : Int32) (v2 : Int32) (v3 : Int32) (D : xDt) : f_X0_leaveOpen_12 F P xS0 (n + 1) 222 v1 v2 v3 D = (if (D.1 222 9) ≤ v3 then (some D) else (xgrd (xin v3 128) (xlet (D.2 236 (v3).toNatClampNeg) fun v4_2 => xgrd (xin v1 6) (xgrd (xin v1 6) (xgrd (xin v3 128) (xlet (D.1, xup D.2 236 (v3).toNatClampNeg ((v4_2 ||| (jlushr (v4_2 &&& (xSETv (v1).toNatClampNeg)) v2)) ||| ((jlshl v4_2 v2) &&& (xSETv (v1).toNatClampNeg)))) fun D6 => xlet (v3 + 1) fun v3_7 => (f_X0_leaveOpen_12 F P xS0 n) 222 v1 v2 v3_7 D6)))))) := e_X0_leaveOpen_12s F P (f_X0_leaveOpen_12 F P xS0 n) v1 v2 v3 D
set_option maxHeartbeats 2000000 in
theorem e_X0_leaveOpen_125 (F P : Nat) (rec_74 : Nat → Int32 → Int32 → xDt → Option (xDt)) (v2 : Int32) (v3 : Int32) (D : xDt) : f_X0_leaveOpen_125 F P xS0 rec_74 222 v2 v3 D = (xlet (v3 + 1) fun v3_1 => rec_74 222 v2 v3_1 D) := by
  unfold f_X0_leaveOpen_125
  rfl
set_option maxHeartbeats 2000000 in
theorem e_X0_leaveOpen_74s (F P : Nat) (rec_74 : Nat → Int32 → Int32 → xDt → Option (xDt)) (v2 : Int32) (v3 : Int32) (D : xDt) : f_X0_leaveOpen_74s F P xS0 rec_74 222 v2 v3 D = (if (D.1 222 9) ≤ (v3 + v2) then (some D) else (if (v3 &&& v2) = 0 then (xgrd (xin v3 128) (xgrd (xin (v3 + v2) 128) (xlet ((D.2 236 (v3).toNatClampNeg) ||| (D.2 236 (v3 + v2).toNatClampNeg)) fun v4_3 => xgrd (xin v3 128) (xlet (D.1, xup D.2 236 (v3).toNatClampNeg v4_3) fun D5 => xgrd (xin (v3 + v2) 128) (xlet (D5.1, xup D5.2 236 (v3 + v2).toNatClampNeg v4_3) fun D7 => f_X0_leaveOpen_125 F P xS0 rec_74 222 v2 v3 D7))))) else (f_X0_leaveOpen_125 F P xS0 rec_74 222 v2 v3 D))) := by
  unfold f_X0_leaveOpen_74s
  simp only [ll_236, rr_222_6]
theorem e_X0_leaveOpen_74 (F P n : Nat) (v2 : Int32) (v3 : Int32) (D : xDt) : f_X0_leaveOpen_74 F P xS0 (n + 1) 222 v2 v3 D = (if (D.1 222 9) ≤ (v3 + v2) then (some D) else (if (v3 &&& v2) = 0 then (xgrd (xin v3 128) (xgrd (xin (v3 + v2) 128) (xlet ((D.2 236 (v3).toNatClampNeg) ||| (D.2 236 (v3 + v2).toNatClampNeg)) fun v4_3 => xgrd (xin v3 128) (xlet (D.1, xup D.2 236 (v3).toNatClampNeg v4_3) fun D5 => xgrd (xin (v3 + v2) 128) (xlet (D5.1, xup D5.2 236 (v3 + v2).toNatClampNeg v4_3) fun D7 => f_X0_leaveOpen_125 F P xS0 (f_X0_leaveOpen_74 F P xS0 n) 222 v2 v3 D7))))) else (f_X0_leaveOpen_125 F P xS0 (f_X0_leaveOpen_74 F P xS0 n) 222 v2 v3 D))) := e_X0_leaveOpen_74s F P (f_X0_leaveOpen_74 F P xS0 n) v2 v3 D
set_option maxHeartbeats 2000000 in
theorem e_X0_leaveOpen (F P : Nat) (v1 : Int32) (D : xDt) : f_X0_leaveOpen F P xS0 222 v1 D = (if 6 ≤ v1 then (xlet (jishl 1 (v1 - 6)) fun v2_1 => f_X0_leaveOpen_74 F P xS0 F 222 v2_1 0 D) else (xlet (jishl 1 v1) fun v2_2 => f_X0_leaveOpen_12 F P xS0 F 222 v1 v2_2 0 D)) := by
  unfold f_X0_leaveOpen
  rfl
set_option maxHeartbeats 2000000 in
theorem e_X0_spreadBy_43 (F P : Nat) (rec_19 : Nat → Int32 → Int32 → xDt → Option (Int32 × xDt)) (v1 : Int32) (v2 : Int32) (D : xDt) : f_X0_spreadBy_43 F P xS0 rec_19 222 v1 v2 D = (xlet (v2 + 1) fun v2_1 => rec_19 222 v1 v2_1 D) := by
  unfold f_X0_spreadBy_43
  rfl
set_option maxHeartbeats 2000000 in
theorem e_X0_spreadBy_104 (F P : Nat) (rec_53 : Nat → Int32 → Int32 → xDt → Option (Int32 × xDt)) (v3 : Int32) (v4 : Int64) (s0 : Int32) (D : xDt) : f_X0_spreadBy_104 F P xS0 rec_53 222 v3 v4 s0 D = (xgrd (xin v3 128) (xlet (D.1, xup D.2 237 (v3).toNatClampNeg v4) fun D2 => xlet (v3 + 1) fun v3_3 => rec_53 222 s0 v3_3 D2)) := by
  unfold f_X0_spreadBy_104
  simp only [ll_237, rr_222_7]
set_option maxHeartbeats 2000000 in
theorem e_X0_spreadBy_99 (F P : Nat) (rec_53 : Nat → Int32 → Int32 → xDt → Option (Int32 × xDt)) (v3 : Int32) (v4 : Int64) (D : xDt) : f_X0_spreadBy_99 F P xS0 rec_53 222 v3 v4 D = (f_X0_spreadBy_104 F P xS0 rec_53 222 v3 v4 1 D) := by
  unfold f_X0_spreadBy_99
  rfl
set_option maxHeartbeats 2000000 in
theorem e_X0_spreadBy_53s (F P : Nat) (rec_53 : Nat → Int32 → Int32 → xDt → Option (Int32 × xDt)) (v2 : Int32) (v3 : Int32) (D : xDt) : f_X0_spreadBy_53s F P xS0 rec_53 222 v2 v3 D = (if (D.1 222 9) ≤ v3 then (xgrd (xb v2) (some (v2, D))) else (xgrd (xin v3 128) (xgrd (xin v3 128) (xgrd (xin v3 128) (xlet ((D.2 237 (v3).toNatClampNeg) ||| ((D.2 236 (v3).toNatClampNeg) &&& (D.2 235 (v3).toNatClampNeg))) fun v4_5 => if v2 = 0 then (xgrd (xin v3 128) (if (lg_cmp v4_5 (D.2 237 (v3).toNatClampNeg)) = 0 then (f_X0_spreadBy_104 F P xS0 rec_53 222 v3 v4_5 0 D) else (f_X0_spreadBy_99 F P xS0 rec_53 222 v3 v4_5 D))) else (f_X0_spreadBy_99 F P xS0 rec_53 222 v3 v4_5 D)))))) := by
  unfold f_X0_spreadBy_53s
  simp only [ll_235, ll_236, ll_237, rr_222_5, rr_222_6, rr_222_7]
theorem e_X0_spreadBy_53 (F P n : Nat) (v2 : Int32) (v3 : Int32) (D : xDt) : f_X0_spreadBy_53 F P xS0 (n + 1) 222 v2 v3 D = (if (D.1 222 9) ≤ v3 then (xgrd (xb v2) (some (v2, D))) else (xgrd (xin v3 128) (xgrd (xin v3 128) (xgrd (xin v3 128) (xlet ((D.2 237 (v3).toNatClampNeg) ||| ((D.2 236 (v3).toNatClampNeg) &&& (D.2 235 (v3).toNatClampNeg))) fun v4_5 => if v2 = 0 then (xgrd (xin v3 128) (if (lg_cmp v4_5 (D.2 237 (v3).toNatClampNeg)) = 0 then (f_X0_spreadBy_104 F P xS0 (f_X0_spreadBy_53 F P xS0 n) 222 v3 v4_5 0 D) else (f_X0_spreadBy_99 F P xS0 (f_X0_spreadBy_53 F P xS0 n) 222 v3 v4_5 D))) else (f_X0_spreadBy_99 F P xS0 (f_X0_spreadBy_53 F P xS0 n) 222 v3 v4_5 D)))))) := e_X0_spreadBy_53s F P (f_X0_spreadBy_53 F P xS0 n) v2 v3 D
set_option maxHeartbeats 2000000 in
theorem e_X0_spreadBy_19s (F P : Nat) (rec_19 : Nat → Int32 → Int32 → xDt → Option (Int32 × xDt)) (v1 : Int32) (v2 : Int32) (D : xDt) : f_X0_spreadBy_19s F P xS0 rec_19 222 v1 v2 D = (if (D.1 224 8) ≤ v2 then (f_X0_spreadBy_53 F P xS0 F 222 0 0 D) else (if ((jishr v1 v2) &&& 1) = 0 then ((f_X0_leaveOpen F P xS0 222 v2 D).bind fun q1 => f_X0_spreadBy_43 F P xS0 rec_19 222 v1 v2 q1) else (f_X0_spreadBy_43 F P xS0 rec_19 222 v1 v2 D))) := by
  unfold f_X0_spreadBy_19s
  simp only [rr_222_1]
theorem e_X0_spreadBy_19 (F P n : Nat) (v1 : Int32) (v2 : Int32) (D : xDt) : f_X0_spreadBy_19 F P xS0 (n + 1) 222 v1 v2 D = (if (D.1 224 8) ≤ v2 then (f_X0_spreadBy_53 F P xS0 F 222 0 0 D) else (if ((jishr v1 v2) &&& 1) = 0 then ((f_X0_leaveOpen F P xS0 222 v2 D).bind fun q1 => f_X0_spreadBy_43 F P xS0 (f_X0_spreadBy_19 F P xS0 n) 222 v1 v2 q1) else (f_X0_spreadBy_43 F P xS0 (f_X0_spreadBy_19 F P xS0 n) 222 v1 v2 D))) := e_X0_spreadBy_19s F P (f_X0_spreadBy_19 F P xS0 n) v1 v2 D
set_option maxHeartbeats 2000000 in
theorem e_X0_spreadBy (F P : Nat) (v1 : Int32) (D : xDt) : f_X0_spreadBy F P xS0 222 v1 D = (xgrd (xcpin 0 0 (D.1 222 9) 128 128) (xlet (D.1, xcp D.2 237 236 (0 : Int32).toNatClampNeg (0 : Int32).toNatClampNeg (D.1 222 9).toNatClampNeg) fun D2 => f_X0_spreadBy_19 F P xS0 F 222 v1 0 D2)) := by
  unfold f_X0_spreadBy
  simp only [ll_236, ll_237, rr_222_6, rr_222_7]
set_option maxHeartbeats 2000000 in
theorem e_X0_spread_53 (F P : Nat) (rec_4 : Nat → Int32 → Int32 → Int32 → xDt → Option (xDt)) (rec_20 : Nat → Int32 → Int32 → Int32 → Int32 → xDt → Option (xDt)) (v1 : Int32) (v2 : Int32) (v3 : Int32) (v4 : Int32) (D : xDt) : f_X0_spread_53 F P xS0 rec_4 rec_20 222 v1 v2 v3 v4 D = (xlet (v4 + 1) fun v4_1 => rec_20 222 v1 v2 v3 v4_1 D) := by
  unfold f_X0_spread_53
  rfl
set_option maxHeartbeats 2000000 in
theorem e_X0_spread_81 (F P : Nat) (rec_4 : Nat → Int32 → Int32 → Int32 → xDt → Option (xDt)) (v1 : Int32) (v3 : Int32) (s0 : Int32) (D : xDt) : f_X0_spread_81 F P xS0 rec_4 222 v1 v3 s0 D = (xlet (v3 + 1) fun v3_1 => rec_4 222 v1 s0 v3_1 D) := by
  unfold f_X0_spread_81
  rfl
set_option maxHeartbeats 2000000 in
theorem e_X0_spread_80 (F P : Nat) (rec_4 : Nat → Int32 → Int32 → Int32 → xDt → Option (xDt)) (v1 : Int32) (v3 : Int32) (D : xDt) : f_X0_spread_80 F P xS0 rec_4 222 v1 v3 D = (f_X0_spread_81 F P xS0 rec_4 222 v1 v3 0 D) := by
  unfold f_X0_spread_80
  rfl
set_option maxHeartbeats 2000000 in
theorem e_X0_spread_20s (F P : Nat) (rec_4 : Nat → Int32 → Int32 → Int32 → xDt → Option (xDt)) (rec_20 : Nat → Int32 → Int32 → Int32 → Int32 → xDt → Option (xDt)) (v1 : Int32) (v2 : Int32) (v3 : Int32) (v4 : Int32) (D : xDt) : f_X0_spread_20s F P xS0 rec_4 rec_20 222 v1 v2 v3 v4 D = (if 4 ≤ v4 then (if v2 = 0 then (f_X0_spread_80 F P xS0 rec_4 222 v1 v3 D) else ((f_X0_tokenAt F P xS0 222 v1 D).bind fun q1 => (f_X11_signOf F P xS0 q1.1 q1.2).bind fun q2 => if q2.1 = 67 then (f_X0_spread_81 F P xS0 rec_4 222 v1 v3 1 q2.2) else (f_X0_spread_80 F P xS0 rec_4 222 v1 v3 q2.2))) else ((f_X0_tokenAt F P xS0 222 v1 D).bind fun q3 => (f_X11_hasAgent F P xS0 q3.1 v4 q3.2).bind fun q4 => if q4.1 = 0 then (f_X0_spread_53 F P xS0 rec_4 rec_20 222 v1 v2 v3 v4 q4.2) else (xgrd (xin v4 4) ((f_X0_spreadBy F P xS0 222 (q4.2.1 238 (v4).toNatClampNeg) q4.2).bind fun q6 => xlet (v2 ||| q6.1) fun v2_7 => f_X0_spread_53 F P xS0 rec_4 rec_20 222 v1 v2_7 v3 v4 q6.2)))) := by
  unfold f_X0_spread_20s
  simp only [ll_238, rr_222_8]
theorem e_X0_spread_20 (F P n : Nat) (rec_4 : Nat → Int32 → Int32 → Int32 → xDt → Option (xDt)) (v1 : Int32) (v2 : Int32) (v3 : Int32) (v4 : Int32) (D : xDt) : f_X0_spread_20 F P xS0 rec_4 (n + 1) 222 v1 v2 v3 v4 D = (if 4 ≤ v4 then (if v2 = 0 then (f_X0_spread_80 F P xS0 rec_4 222 v1 v3 D) else ((f_X0_tokenAt F P xS0 222 v1 D).bind fun q1 => (f_X11_signOf F P xS0 q1.1 q1.2).bind fun q2 => if q2.1 = 67 then (f_X0_spread_81 F P xS0 rec_4 222 v1 v3 1 q2.2) else (f_X0_spread_80 F P xS0 rec_4 222 v1 v3 q2.2))) else ((f_X0_tokenAt F P xS0 222 v1 D).bind fun q3 => (f_X11_hasAgent F P xS0 q3.1 v4 q3.2).bind fun q4 => if q4.1 = 0 then (f_X0_spread_53 F P xS0 rec_4 (f_X0_spread_20 F P xS0 rec_4 n) 222 v1 v2 v3 v4 q4.2) else (xgrd (xin v4 4) ((f_X0_spreadBy F P xS0 222 (q4.2.1 238 (v4).toNatClampNeg) q4.2).bind fun q6 => xlet (v2 ||| q6.1) fun v2_7 => f_X0_spread_53 F P xS0 rec_4 (f_X0_spread_20 F P xS0 rec_4 n) 222 v1 v2_7 v3 v4 q6.2)))) := e_X0_spread_20s F P rec_4 (f_X0_spread_20 F P xS0 rec_4 n) v1 v2 v3 v4 D
set_option maxHeartbeats 2000000 in
theorem e_X0_spread_4s (F P : Nat) (rec_4 : Nat → Int32 → Int32 → Int32 → xDt → Option (xDt)) (v1 : Int32) (v2 : Int32) (v3 : Int32) (D : xDt) : f_X0_spread_4s F P xS0 rec_4 222 v1 v2 v3 D = (if 8192 < v3 then (some D) else (if v2 = 0 then (some D) else (f_X0_spread_20 F P xS0 rec_4 F 222 v1 0 v3 0 D))) := by
  unfold f_X0_spread_4s
  rfl
theorem e_X0_spread_4 (F P n : Nat) (v1 : Int32) (v2 : Int32) (v3 : Int32) (D : xDt) : f_X0_spread_4 F P xS0 (n + 1) 222 v1 v2 v3 D = (if 8192 < v3 then (some D) else (if v2 = 0 then (some D) else (f_X0_spread_20 F P xS0 (f_X0_spread_4 F P xS0 n) F 222 v1 0 v3 0 D))) := e_X0_spread_4s F P (f_X0_spread_4 F P xS0 n) v1 v2 v3 D
set_option maxHeartbeats 2000000 in
theorem e_X0_spread (F P : Nat) (v1 : Int32) (D : xDt) : f_X0_spread F P xS0 222 v1 D = (f_X0_spread_4 F P xS0 F 222 v1 1 0 D) := by
  unfold f_X0_spread
  rfl
set_option maxHeartbeats 2000000 in
theorem e_X0_drop_55 (F P : Nat) (rec_4 : Nat → Int32 → Int32 → Int32 → xDt → Option (Int32 × xDt)) (v1 : Int32) (v3 : Int32) (v4 : Int64) (s0 : Int32) (D : xDt) : f_X0_drop_55 F P xS0 rec_4 222 v1 v3 v4 s0 D = (xgrd (xin v3 128) (xlet (D.1, xup D.2 235 (v3).toNatClampNeg v4) fun D2 => xlet (v3 + 1) fun v3_3 => rec_4 222 v1 s0 v3_3 D2)) := by
  unfold f_X0_drop_55
  simp only [ll_235, rr_222_5]
set_option maxHeartbeats 2000000 in
theorem e_X0_drop_50 (F P : Nat) (rec_4 : Nat → Int32 → Int32 → Int32 → xDt → Option (Int32 × xDt)) (v1 : Int32) (v3 : Int32) (v4 : Int64) (D : xDt) : f_X0_drop_50 F P xS0 rec_4 222 v1 v3 v4 D = (f_X0_drop_55 F P xS0 rec_4 222 v1 v3 v4 1 D) := by
  unfold f_X0_drop_50
  rfl
set_option maxHeartbeats 2000000 in
theorem e_X0_drop_4s (F P : Nat) (rec_4 : Nat → Int32 → Int32 → Int32 → xDt → Option (Int32 × xDt)) (v1 : Int32) (v2 : Int32) (v3 : Int32) (D : xDt) : f_X0_drop_4s F P xS0 rec_4 222 v1 v2 v3 D = (if (D.1 222 9) ≤ v3 then (xgrd (xb v2) (some (v2, D))) else (xgrd (xin v3 128) ((f_X0_telling F P xS0 222 v1 v3 D).bind fun q3 => xgrd (xin v3 128) (xlet ((D.2 235 (v3).toNatClampNeg) &&& (q3.1 ||| (q3.2.2 237 (v3).toNatClampNeg))) fun v4_5 => if v2 = 0 then (xgrd (xin v3 128) (if (lg_cmp v4_5 (q3.2.2 235 (v3).toNatClampNeg)) = 0 then (f_X0_drop_55 F P xS0 rec_4 222 v1 v3 v4_5 0 q3.2) else (f_X0_drop_50 F P xS0 rec_4 222 v1 v3 v4_5 q3.2))) else (f_X0_drop_50 F P xS0 rec_4 222 v1 v3 v4_5 q3.2))))) := by
  unfold f_X0_drop_4s
  simp only [ll_235, ll_237, rr_222_5, rr_222_7]
theorem e_X0_drop_4 (F P n : Nat) (v1 : Int32) (v2 : Int32) (v3 : Int32) (D : xDt) : f_X0_drop_4 F P xS0 (n + 1) 222 v1 v2 v3 D = (if (D.1 222 9) ≤ v3 then (xgrd (xb v2) (some (v2, D))) else (xgrd (xin v3 128) ((f_X0_telling F P xS0 222 v1 v3 D).bind fun q3 => xgrd (xin v3 128) (xlet ((D.2 235 (v3).toNatClampNeg) &&& (q3.1 ||| (q3.2.2 237 (v3).toNatClampNeg))) fun v4_5 => if v2 = 0 then (xgrd (xin v3 128) (if (lg_cmp v4_5 (q3.2.2 235 (v3).toNatClampNeg)) = 0 then (f_X0_drop_55 F P xS0 (f_X0_drop_4 F P xS0 n) 222 v1 v3 v4_5 0 q3.2) else (f_X0_drop_50 F P xS0 (f_X0_drop_4 F P xS0 n) 222 v1 v3 v4_5 q3.2))) else (f_X0_drop_50 F P xS0 (f_X0_drop_4 F P xS0 n) 222 v1 v3 v4_5 q3.2))))) := e_X0_drop_4s F P (f_X0_drop_4 F P xS0 n) v1 v2 v3 D
set_option maxHeartbeats 2000000 in
theorem e_X0_drop (F P : Nat) (v1 : Int32) (D : xDt) : f_X0_drop F P xS0 222 v1 D = (f_X0_drop_4 F P xS0 F 222 v1 0 0 D) := by
  unfold f_X0_drop
  rfl
set_option maxHeartbeats 2000000 in
theorem e_X0_sift_72 (F P : Nat) (rec_4 : Nat → Int32 → Int32 → xDt → Option (xDt)) (rec_19 : Nat → Int32 → Int32 → Int32 → xDt → Option (xDt)) (v1 : Int32) (v2 : Int32) (v3 : Int32) (D : xDt) : f_X0_sift_72 F P xS0 rec_4 rec_19 222 v1 v2 v3 D = (xlet (v3 + 1) fun v3_1 => rec_19 222 v1 v2 v3_1 D) := by
  unfold f_X0_sift_72
  rfl
set_option maxHeartbeats 2000000 in
theorem e_X0_sift_54 (F P : Nat) (rec_4 : Nat → Int32 → Int32 → xDt → Option (xDt)) (rec_19 : Nat → Int32 → Int32 → Int32 → xDt → Option (xDt)) (v1 : Int32) (v2 : Int32) (v3 : Int32) (D : xDt) : f_X0_sift_54 F P xS0 rec_4 rec_19 222 v1 v2 v3 D = ((f_X0_startDoubt F P xS0 222 v3 D).bind fun q1 => (f_X0_spread F P xS0 222 v3 q1).bind fun q2 => (f_X0_drop F P xS0 222 v3 q2).bind fun q3 => xlet (v1 ||| q3.1) fun v1_4 => f_X0_sift_72 F P xS0 rec_4 rec_19 222 v1_4 v2 v3 q3.2) := by
  unfold f_X0_sift_54
  rfl
set_option maxHeartbeats 2000000 in
theorem e_X0_sift_19s (F P : Nat) (rec_4 : Nat → Int32 → Int32 → xDt → Option (xDt)) (rec_19 : Nat → Int32 → Int32 → Int32 → xDt → Option (xDt)) (v1 : Int32) (v2 : Int32) (v3 : Int32) (D : xDt) : f_X0_sift_19s F P xS0 rec_4 rec_19 222 v1 v2 v3 D = (if (D.1 224 8) ≤ v3 then (xlet (v2 + 1) fun v2_1 => rec_4 222 v1 v2_1 D) else ((f_X0_tokenAt F P xS0 222 v3 D).bind fun q2 => (f_X11_signOf F P xS0 q2.1 q2.2).bind fun q3 => if q3.1 = 75 then (f_X0_sift_54 F P xS0 rec_4 rec_19 222 v1 v2 v3 q3.2) else (if q3.1 = 67 then (f_X0_sift_54 F P xS0 rec_4 rec_19 222 v1 v2 v3 q3.2) else (f_X0_sift_72 F P xS0 rec_4 rec_19 222 v1 v2 v3 q3.2)))) := by
  unfold f_X0_sift_19s
  simp only [rr_222_1]
theorem e_X0_sift_19 (F P n : Nat) (rec_4 : Nat → Int32 → Int32 → xDt → Option (xDt)) (v1 : Int32) (v2 : Int32) (v3 : Int32) (D : xDt) : f_X0_sift_19 F P xS0 rec_4 (n + 1) 222 v1 v2 v3 D = (if (D.1 224 8) ≤ v3 then (xlet (v2 + 1) fun v2_1 => rec_4 222 v1 v2_1 D) else ((f_X0_tokenAt F P xS0 222 v3 D).bind fun q2 => (f_X11_signOf F P xS0 q2.1 q2.2).bind fun q3 => if q3.1 = 75 then (f_X0_sift_54 F P xS0 rec_4 (f_X0_sift_19 F P xS0 rec_4 n) 222 v1 v2 v3 q3.2) else (if q3.1 = 67 then (f_X0_sift_54 F P xS0 rec_4 (f_X0_sift_19 F P xS0 rec_4 n) 222 v1 v2 v3 q3.2) else (f_X0_sift_72 F P xS0 rec_4 (f_X0_sift_19 F P xS0 rec_4 n) 222 v1 v2 v3 q3.2)))) := e_X0_sift_19s F P rec_4 (f_X0_sift_19 F P xS0 rec_4 n) v1 v2 v3 D
set_option maxHeartbeats 2000000 in
theorem e_X0_sift_4s (F P : Nat) (rec_4 : Nat → Int32 → Int32 → xDt → Option (xDt)) (v1 : Int32) (v2 : Int32) (D : xDt) : f_X0_sift_4s F P xS0 rec_4 222 v1 v2 D = (if 8192 < v2 then (some D) else (if v1 = 0 then (some D) else (f_X0_sift_19 F P xS0 rec_4 F 222 0 v2 0 D))) := by
  unfold f_X0_sift_4s
  rfl
theorem e_X0_sift_4 (F P n : Nat) (v1 : Int32) (v2 : Int32) (D : xDt) : f_X0_sift_4 F P xS0 (n + 1) 222 v1 v2 D = (if 8192 < v2 then (some D) else (if v1 = 0 then (some D) else (f_X0_sift_19 F P xS0 (f_X0_sift_4 F P xS0 n) F 222 0 v2 0 D))) := e_X0_sift_4s F P (f_X0_sift_4 F P xS0 n) v1 v2 D
set_option maxHeartbeats 2000000 in
theorem e_X0_sift (F P : Nat) (D : xDt) : f_X0_sift F P xS0 222 D = (f_X0_sift_4 F P xS0 F 222 1 0 D) := by
  unfold f_X0_sift
  rfl
set_option maxHeartbeats 2000000 in
theorem e_X0_work_125 (F P : Nat) (s0 : Int32) (s1 : Int32) (s2 : Nat) (D : xDt) : f_X0_work_125 F P xS0 222 s0 s1 s2 D = (xgrd (xin s1 (xl xS0 s2)) (xlet (xup D.1 s2 (s1).toNatClampNeg s0, D.2) fun D2 => xgrd (xin 5 6) (xgrd (xin 4 6) (if (D2.1 223 (5 : Int32).toNatClampNeg) = (D2.1 223 (4 : Int32).toNatClampNeg) then (xgrd (xin 1 6) (xlet (xup D2.1 223 (1 : Int32).toNatClampNeg 1, D2.2) fun D8 => some D8)) else (xgrd (xin 1 6) (xlet (xup D2.1 223 (1 : Int32).toNatClampNeg 0, D2.2) fun D6 => some D6)))))) := by
  unfold f_X0_work_125
  simp only [ll_223, rr_222_0]
set_option maxHeartbeats 2000000 in
theorem e_X0_work (F P : Nat) (v1 : Nat) (D : xDt) : f_X0_work F P xS0 222 v1 D = ((f_X2_hasAny F P xS0 v1 2 D).bind fun q1 => if q1.1 = 0 then ((f_X8_build F P xS0 224 v1 q1.2).bind fun q2 => if (q2.2.1 224 9) = 0 then ((f_X0_findKnownBits F P xS0 222 q2.2).bind fun q3 => (f_X0_makeTypes F P xS0 222 q2.1 q3).bind fun q4 => xgrd (xin 2 6) (xlet (xup q4.1 223 (2 : Int32).toNatClampNeg (q4.1 224 8), q4.2) fun D6 => (f_X0_sizeOf F P xS0 222 0 D6).bind fun q7 => xgrd (xin 3 6) (xlet (xup q7.2.1 223 (3 : Int32).toNatClampNeg q7.1, q7.2.2) fun D9 => (f_X0_sift F P xS0 222 D9).bind fun q10 => (f_X0_sizeOf F P xS0 222 0 q10).bind fun q11 => xgrd (xin 4 6) (xlet (xup q11.2.1 223 (4 : Int32).toNatClampNeg q11.1, q11.2.2) fun D13 => (f_X0_sizeOf F P xS0 222 1 D13).bind fun q14 => xgrd (xin 5 6) (xlet (xup q14.2.1 223 (5 : Int32).toNatClampNeg q14.1, q14.2.2) fun D16 => xgrd (xin 5 6) (if (D16.1 223 (5 : Int32).toNatClampNeg) ≤ 0 then (f_X0_work_125 F P xS0 222 0 0 223 D16) else (f_X0_work_125 F P xS0 222 1 0 223 D16))))))) else ((f_J7_fill_53178 F P xS0 223 (-3) q2.2).bind fun q18 => some q18)) else ((f_J7_fill_53178 F P xS0 223 (-1) q1.2).bind fun q19 => some q19)) := by
  unfold f_X0_work
  simp only [ll_223, rr_222_0, rr_222_1]
set_option maxHeartbeats 2000000 in
theorem e_X8_make_89 (F P : Nat) (rec_24 : Nat → Int32 → Int32 → Int32 → Int32 → Int32 → xDt → Option (Int32 × xDt)) (v1 : Int32) (v2 : Int32) (v3 : Int32) (v4 : Int32) (v5 : Int32) (D : xDt) : f_X8_make_89 F P xS0 rec_24 224 v1 v2 v3 v4 v5 D = (xlet ((v4 + 1) &&& 4095) fun v4_1 => xlet (v5 + 1) fun v5_2 => rec_24 224 v1 v2 v3 v4_1 v5_2 D) := by
  unfold f_X8_make_89
  rfl
set_option maxHeartbeats 2000000 in
theorem e_X8_make_243 (F P : Nat) (D : xDt) : f_X8_make_243 F P xS0 224 D = (xlet (xup D.1 224 7 ((D.1 224 7) + 1), D.2) fun D1 => some (D.1 224 7, D1)) := by
  unfold f_X8_make_243
  rfl
set_option maxHeartbeats 2000000 in
theorem e_X8_make_152 (F P : Nat) (v1 : Int32) (v2 : Int32) (v3 : Int32) (v4 : Int32) (v5 : Int32) (D : xDt) : f_X8_make_152 F P xS0 224 v1 v2 v3 v4 v5 D = (xgrd (xin v4 4096) (xlet (xup D.1 230 (v4).toNatClampNeg ((D.1 224 7) + 1), D.2) fun D2 => xgrd (xin (D2.1 224 7) 2400) (xlet (xup D2.1 225 (D2.1 224 7).toNatClampNeg v1, D2.2) fun D4 => xgrd (xin (D4.1 224 7) 2400) (xlet (xup D4.1 226 (D4.1 224 7).toNatClampNeg v2, D4.2) fun D6 => xgrd (xin (D6.1 224 7) 2400) (xlet (xup D6.1 227 (D6.1 224 7).toNatClampNeg v3, D6.2) fun D8 => xgrd (xin (D8.1 224 7) 2400) (xlet (xup D8.1 228 (D8.1 224 7).toNatClampNeg (-1), D8.2) fun D10 => if v5 = 0 then (f_X8_make_243 F P xS0 224 D10) else (xgrd (xin (D10.1 224 7) 2400) (xlet (xup D10.1 228 (D10.1 224 7).toNatClampNeg (D10.1 224 8), D10.2) fun D12 => xlet (xup D12.1 224 8 ((D12.1 224 8) + 1), D12.2) fun D13 => xgrd (xin (D12.1 224 8) 13) (xlet (xup D13.1 229 (D12.1 224 8).toNatClampNeg (D13.1 224 7), D13.2) fun D15 => f_X8_make_243 F P xS0 224 D15))))))))) := by
  unfold f_X8_make_152
  simp only [ll_225, ll_226, ll_227, ll_228, ll_229, ll_230, rr_224_0, rr_224_1, rr_224_2, rr_224_3, rr_224_4, rr_224_5]
set_option maxHeartbeats 2000000 in
theorem e_X8_make_105 (F P : Nat) (v1 : Int32) (v2 : Int32) (v3 : Int32) (v4 : Int32) (D : xDt) : f_X8_make_105 F P xS0 224 v1 v2 v3 v4 D = ((f_X11_signOf F P xS0 v1 D).bind fun q1 => (f_X8_isBase F P xS0 q1.1 q1.2).bind fun q2 => if (q2.2.1 224 9) = 0 then (if 2400 ≤ (q2.2.1 224 7) then (xlet (xup q2.2.1 224 9 1, q2.2.2) fun D4 => some (0, D4)) else (if q2.1 = 0 then (f_X8_make_152 F P xS0 224 v1 v2 v3 v4 q2.1 q2.2) else (if (q2.2.1 224 8) < 13 then (f_X8_make_152 F P xS0 224 v1 v2 v3 v4 q2.1 q2.2) else (xlet (xup q2.2.1 224 9 1, q2.2.2) fun D5 => some (0, D5))))) else (xlet (xup q2.2.1 224 9 1, q2.2.2) fun D3 => some (0, D3))) := by
  unfold f_X8_make_105
  rfl
set_option maxHeartbeats 2000000 in
theorem e_X8_make_24s (F P : Nat) (rec_24 : Nat → Int32 → Int32 → Int32 → Int32 → Int32 → xDt → Option (Int32 × xDt)) (v1 : Int32) (v2 : Int32) (v3 : Int32) (v4 : Int32) (v5 : Int32) (D : xDt) : f_X8_make_24s F P xS0 rec_24 224 v1 v2 v3 v4 v5 D = (if 4096 ≤ v5 then (f_X8_make_105 F P xS0 224 v1 v2 v3 v4 D) else (xgrd (xin v4 4096) (if (D.1 230 (v4).toNatClampNeg) = 0 then (f_X8_make_105 F P xS0 224 v1 v2 v3 v4 D) else (xgrd (xin v4 4096) (xlet ((D.1 230 (v4).toNatClampNeg) - 1) fun v6_3 => xgrd (xin v6_3 2400) (if (D.1 225 (v6_3).toNatClampNeg) = v1 then (xgrd (xin v6_3 2400) (if (D.1 226 (v6_3).toNatClampNeg) = v2 then (xgrd (xin v6_3 2400) (if (D.1 227 (v6_3).toNatClampNeg) = v3 then (some (v6_3, D)) else (f_X8_make_89 F P xS0 rec_24 224 v1 v2 v3 v4 v5 D))) else (f_X8_make_89 F P xS0 rec_24 224 v1 v2 v3 v4 v5 D))) else (f_X8_make_89 F P xS0 rec_24 224 v1 v2 v3 v4 v5 D))))))) := by
  unfold f_X8_make_24s
  simp only [ll_225, ll_226, ll_227, ll_230, rr_224_0, rr_224_1, rr_224_2, rr_224_5]
theorem e_X8_make_24 (F P n : Nat) (v1 : Int32) (v2 : Int32) (v3 : Int32) (v4 : Int32) (v5 : Int32) (D : xDt) : f_X8_make_24 F P xS0 (n + 1) 224 v1 v2 v3 v4 v5 D = (if 4096 ≤ v5 then (f_X8_make_105 F P xS0 224 v1 v2 v3 v4 D) else (xgrd (xin v4 4096) (if (D.1 230 (v4).toNatClampNeg) = 0 then (f_X8_make_105 F P xS0 224 v1 v2 v3 v4 D) else (xgrd (xin v4 4096) (xlet ((D.1 230 (v4).toNatClampNeg) - 1) fun v6_3 => xgrd (xin v6_3 2400) (if (D.1 225 (v6_3).toNatClampNeg) = v1 then (xgrd (xin v6_3 2400) (if (D.1 226 (v6_3).toNatClampNeg) = v2 then (xgrd (xin v6_3 2400) (if (D.1 227 (v6_3).toNatClampNeg) = v3 then (some (v6_3, D)) else (f_X8_make_89 F P xS0 (f_X8_make_24 F P xS0 n) 224 v1 v2 v3 v4 v5 D))) else (f_X8_make_89 F P xS0 (f_X8_make_24 F P xS0 n) 224 v1 v2 v3 v4 v5 D))) else (f_X8_make_89 F P xS0 (f_X8_make_24 F P xS0 n) 224 v1 v2 v3 v4 v5 D))))))) := e_X8_make_24s F P (f_X8_make_24 F P xS0 n) v1 v2 v3 v4 v5 D
set_option maxHeartbeats 2000000 in
theorem e_X8_make (F P : Nat) (v1 : Int32) (v2 : Int32) (v3 : Int32) (D : xDt) : f_X8_make F P xS0 224 v1 v2 v3 D = (xlet (((((v1 * 31) + v2) * 1009) + (v3 * 17)) &&& 4095) fun v4_1 => f_X8_make_24 F P xS0 F 224 v1 v2 v3 v4_1 0 D) := by
  unfold f_X8_make
  rfl
set_option maxHeartbeats 2000000 in
theorem e_X8_everyone_56 (F P : Nat) (rec_5 : Nat → Int32 → Int32 → Int32 → Int32 → xDt → Option (Int32 × xDt)) (v1 : Int32) (v2 : Int32) (v3 : Int32) (v4 : Int32) (D : xDt) : f_X8_everyone_56 F P xS0 rec_5 224 v1 v2 v3 v4 D = (xlet (v4 + 1) fun v4_1 => rec_5 224 v1 v2 v3 v4_1 D) := by
  unfold f_X8_everyone_56
  rfl
set_option maxHeartbeats 2000000 in
theorem e_X8_everyone_55 (F P : Nat) (rec_5 : Nat → Int32 → Int32 → Int32 → Int32 → xDt → Option (Int32 × xDt)) (v1 : Int32) (v2 : Int32) (v4 : Int32) (s0 : Int32) (D : xDt) : f_X8_everyone_55 F P xS0 rec_5 224 v1 v2 v4 s0 D = (f_X8_everyone_56 F P xS0 rec_5 224 v1 v2 s0 v4 D) := by
  unfold f_X8_everyone_55
  rfl
set_option maxHeartbeats 2000000 in
theorem e_X8_everyone_5s (F P : Nat) (rec_5 : Nat → Int32 → Int32 → Int32 → Int32 → xDt → Option (Int32 × xDt)) (v1 : Int32) (v2 : Int32) (v3 : Int32) (v4 : Int32) (D : xDt) : f_X8_everyone_5s F P xS0 rec_5 224 v1 v2 v3 v4 D = (if 4 ≤ v4 then (some (jmax v3 0, D)) else ((f_X11_hasAgent F P xS0 v1 v4 D).bind fun q1 => if q1.1 = 0 then (f_X8_everyone_56 F P xS0 rec_5 224 v1 v2 v3 v4 q1.2) else ((f_X11_withAgents F P xS0 75 (jishl 1 v4) q1.2).bind fun q2 => (f_X8_make F P xS0 224 q2.1 v2 0 q2.2).bind fun q3 => if 0 ≤ v3 then ((f_X8_make F P xS0 224 38 v3 q3.1 q3.2).bind fun q4 => f_X8_everyone_55 F P xS0 rec_5 224 v1 v2 v4 q4.1 q4.2) else (f_X8_everyone_55 F P xS0 rec_5 224 v1 v2 v4 q3.1 q3.2)))) := by
  unfold f_X8_everyone_5s
  rfl
theorem e_X8_everyone_5 (F P n : Nat) (v1 : Int32) (v2 : Int32) (v3 : Int32) (v4 : Int32) (D : xDt) : f_X8_everyone_5 F P xS0 (n + 1) 224 v1 v2 v3 v4 D = (if 4 ≤ v4 then (some (jmax v3 0, D)) else ((f_X11_hasAgent F P xS0 v1 v4 D).bind fun q1 => if q1.1 = 0 then (f_X8_everyone_56 F P xS0 (f_X8_everyone_5 F P xS0 n) 224 v1 v2 v3 v4 q1.2) else ((f_X11_withAgents F P xS0 75 (jishl 1 v4) q1.2).bind fun q2 => (f_X8_make F P xS0 224 q2.1 v2 0 q2.2).bind fun q3 => if 0 ≤ v3 then ((f_X8_make F P xS0 224 38 v3 q3.1 q3.2).bind fun q4 => f_X8_everyone_55 F P xS0 (f_X8_everyone_5 F P xS0 n) 224 v1 v2 v4 q4.1 q4.2) else (f_X8_everyone_55 F P xS0 (f_X8_everyone_5 F P xS0 n) 224 v1 v2 v4 q3.1 q3.2)))) := e_X8_everyone_5s F P (f_X8_everyone_5 F P xS0 n) v1 v2 v3 v4 D
set_option maxHeartbeats 2000000 in
theorem e_X8_everyone (F P : Nat) (v1 : Int32) (v2 : Int32) (D : xDt) : f_X8_everyone F P xS0 224 v1 v2 D = (f_X8_everyone_5 F P xS0 F 224 v1 v2 (-1) 0 D) := by
  unfold f_X8_everyone
  rfl
set_option maxHeartbeats 2000000 in
theorem e_X8_common_42 (F P : Nat) (rec_11 : Nat → Int32 → Int32 → Int32 → xDt → Option (Int32 × xDt)) (v1 : Int32) (v3 : Int32) (v4 : Int32) (D : xDt) : f_X8_common_42 F P xS0 rec_11 224 v1 v3 v4 D = (xlet (v4 + 1) fun v4_1 => rec_11 224 v1 v3 v4_1 D) := by
  unfold f_X8_common_42
  rfl
set_option maxHeartbeats 2000000 in
theorem e_X8_common_11s (F P : Nat) (rec_11 : Nat → Int32 → Int32 → Int32 → xDt → Option (Int32 × xDt)) (v1 : Int32) (v3 : Int32) (v4 : Int32) (D : xDt) : f_X8_common_11s F P xS0 rec_11 224 v1 v3 v4 D = (if 4 ≤ v4 then (some (v3, D)) else ((f_X11_hasAgent F P xS0 v1 v4 D).bind fun q1 => if q1.1 = 0 then (f_X8_common_42 F P xS0 rec_11 224 v1 v3 v4 q1.2) else ((f_X11_withAgents F P xS0 75 (jishl 1 v4) q1.2).bind fun q2 => (f_X8_make F P xS0 224 q2.1 v3 0 q2.2).bind fun q3 => f_X8_common_42 F P xS0 rec_11 224 v1 v3 v4 q3.2))) := by
  unfold f_X8_common_11s
  rfl
theorem e_X8_common_11 (F P n : Nat) (v1 : Int32) (v3 : Int32) (v4 : Int32) (D : xDt) : f_X8_common_11 F P xS0 (n + 1) 224 v1 v3 v4 D = (if 4 ≤ v4 then (some (v3, D)) else ((f_X11_hasAgent F P xS0 v1 v4 D).bind fun q1 => if q1.1 = 0 then (f_X8_common_42 F P xS0 (f_X8_common_11 F P xS0 n) 224 v1 v3 v4 q1.2) else ((f_X11_withAgents F P xS0 75 (jishl 1 v4) q1.2).bind fun q2 => (f_X8_make F P xS0 224 q2.1 v3 0 q2.2).bind fun q3 => f_X8_common_42 F P xS0 (f_X8_common_11 F P xS0 n) 224 v1 v3 v4 q3.2))) := e_X8_common_11s F P (f_X8_common_11 F P xS0 n) v1 v3 v4 D
set_option maxHeartbeats 2000000 in
theorem e_X8_common (F P : Nat) (v1 : Int32) (v2 : Int32) (D : xDt) : f_X8_common F P xS0 224 v1 v2 D = ((f_X8_make F P xS0 224 v1 v2 0 D).bind fun q1 => f_X8_common_11 F P xS0 F 224 v1 q1.1 0 q1.2) := by
  unfold f_X8_common
  rfl
set_option maxHeartbeats 2000000 in
theorem e_X8_single (F P : Nat) (v1 : Int32) (v2 : Int32) (D : xDt) : f_X8_single F P xS0 224 v1 v2 D = ((f_X11_signOf F P xS0 v1 D).bind fun q1 => if q1.1 = 67 then ((f_X8_common F P xS0 224 v1 v2 q1.2).bind fun q2 => some (q2.1, q2.2)) else (if q1.1 = 80 then ((f_X8_make F P xS0 224 126 v2 0 q1.2).bind fun q3 => (f_X8_everyone F P xS0 224 v1 q3.1 q3.2).bind fun q4 => (f_X8_make F P xS0 224 126 q4.1 0 q4.2).bind fun q5 => some (q5.1, q5.2)) else (if q1.1 = 126 then ((f_X8_make F P xS0 224 126 v2 0 q1.2).bind fun q6 => some (q6.1, q6.2)) else ((f_X8_everyone F P xS0 224 v1 v2 q1.2).bind fun q7 => some (q7.1, q7.2))))) := by
  unfold f_X8_single
  rfl
set_option maxHeartbeats 2000000 in
theorem e_X8_build_169 (F P : Nat) (rec_32 : Nat → Nat → Int32 → Int32 → xDt → Option (Int32 × xDt)) (v1 : Nat) (v2 : Int32) (v3 : Int32) (D : xDt) : f_X8_build_169 F P xS0 rec_32 224 v1 v2 v3 D = (xlet (v3 + (-1)) fun v3_1 => rec_32 224 v1 v2 v3_1 D) := by
  unfold f_X8_build_169
  rfl
set_option maxHeartbeats 2000000 in
theorem e_X8_build_142 (F P : Nat) (rec_32 : Nat → Nat → Int32 → Int32 → xDt → Option (Int32 × xDt)) (v1 : Nat) (v2 : Int32) (v3 : Int32) (v4 : Int32) (D : xDt) : f_X8_build_142 F P xS0 rec_32 224 v1 v2 v3 v4 D = (if v2 < 1 then (f_X8_build_169 F P xS0 rec_32 224 v1 v2 v3 D) else (xgrd (xin (v2 - 1) 2000) ((f_X8_single F P xS0 224 v4 (D.1 231 (v2 - 1).toNatClampNeg) D).bind fun q2 => xgrd (xin (v2 - 1) 2000) (xlet (xup q2.2.1 231 (v2 - 1).toNatClampNeg q2.1, q2.2.2) fun D4 => f_X8_build_169 F P xS0 rec_32 224 v1 v2 v3 D4)))) := by
  unfold f_X8_build_142
  simp only [ll_231, rr_224_6]
set_option maxHeartbeats 2000000 in
theorem e_X8_build_95 (F P : Nat) (rec_32 : Nat → Nat → Int32 → Int32 → xDt → Option (Int32 × xDt)) (v1 : Nat) (v2 : Int32) (v3 : Int32) (v4 : Int32) (v5 : Int32) (D : xDt) : f_X8_build_95 F P xS0 rec_32 224 v1 v2 v3 v4 v5 D = ((f_X11_isJoin F P xS0 v5 D).bind fun q1 => if q1.1 = 0 then (f_X8_build_142 F P xS0 rec_32 224 v1 v2 v3 v4 q1.2) else (if v2 < 2 then (f_X8_build_142 F P xS0 rec_32 224 v1 v2 v3 v4 q1.2) else (xlet (v2 + (-1)) fun v2_2 => xgrd (xin v2_2 2000) (xgrd (xin (v2_2 - 1) 2000) ((f_X8_make F P xS0 224 v4 (q1.2.1 231 (v2_2).toNatClampNeg) (q1.2.1 231 (v2_2 - 1).toNatClampNeg) q1.2).bind fun q5 => xgrd (xin (v2_2 - 1) 2000) (xlet (xup q5.2.1 231 (v2_2 - 1).toNatClampNeg q5.1, q5.2.2) fun D7 => f_X8_build_169 F P xS0 rec_32 224 v1 v2_2 v3 D7)))))) := by
  unfold f_X8_build_95
  simp only [ll_231, rr_224_6]
set_option maxHeartbeats 2000000 in
theorem e_X8_build_32s (F P : Nat) (rec_32 : Nat → Nat → Int32 → Int32 → xDt → Option (Int32 × xDt)) (v1 : Nat) (v2 : Int32) (v3 : Int32) (D : xDt) : f_X8_build_32s F P xS0 rec_32 224 v1 v2 v3 D = (if v3 < 0 then (xgrd (xin 0 2000) (some (D.1 231 (0 : Int32).toNatClampNeg, D))) else (if (D.1 224 9) = 0 then (xgrd (xin v3 (xl xS0 (xr xS0 v1 0))) (xlet (D.1 (xr xS0 v1 0) (v3).toNatClampNeg) fun v4_4 => (f_X11_signOf F P xS0 v4_4 D).bind fun q5 => (f_X11_isLeaf F P xS0 q5.1 q5.2).bind fun q6 => if q6.1 = 0 then (f_X8_build_95 F P xS0 rec_32 224 v1 v2 v3 v4_4 q5.1 q6.2) else (if (Int32.ofNat 2000) ≤ v2 then (f_X8_build_95 F P xS0 rec_32 224 v1 v2 v3 v4_4 q5.1 q6.2) else (xlet (v2 + 1) fun v2_7 => (f_X8_make F P xS0 224 v4_4 0 0 q6.2).bind fun q8 => xgrd (xin v2 2000) (xlet (xup q8.2.1 231 (v2).toNatClampNeg q8.1, q8.2.2) fun D10 => f_X8_build_169 F P xS0 rec_32 224 v1 v2_7 v3 D10))))) else (xgrd (xin 0 2000) (some (D.1 231 (0 : Int32).toNatClampNeg, D))))) := by
  unfold f_X8_build_32s
  simp only [ll_231, rr_224_6]
theorem e_X8_build_32 (F P n : Nat) (v1 : Nat) (v2 : Int32) (v3 : Int32) (D : xDt) : f_X8_build_32 F P xS0 (n + 1) 224 v1 v2 v3 D = (if v3 < 0 then (xgrd (xin 0 2000) (some (D.1 231 (0 : Int32).toNatClampNeg, D))) else (if (D.1 224 9) = 0 then (xgrd (xin v3 (xl xS0 (xr xS0 v1 0))) (xlet (D.1 (xr xS0 v1 0) (v3).toNatClampNeg) fun v4_4 => (f_X11_signOf F P xS0 v4_4 D).bind fun q5 => (f_X11_isLeaf F P xS0 q5.1 q5.2).bind fun q6 => if q6.1 = 0 then (f_X8_build_95 F P xS0 (f_X8_build_32 F P xS0 n) 224 v1 v2 v3 v4_4 q5.1 q6.2) else (if (Int32.ofNat 2000) ≤ v2 then (f_X8_build_95 F P xS0 (f_X8_build_32 F P xS0 n) 224 v1 v2 v3 v4_4 q5.1 q6.2) else (xlet (v2 + 1) fun v2_7 => (f_X8_make F P xS0 224 v4_4 0 0 q6.2).bind fun q8 => xgrd (xin v2 2000) (xlet (xup q8.2.1 231 (v2).toNatClampNeg q8.1, q8.2.2) fun D10 => f_X8_build_169 F P xS0 (f_X8_build_32 F P xS0 n) 224 v1 v2_7 v3 D10))))) else (xgrd (xin 0 2000) (some (D.1 231 (0 : Int32).toNatClampNeg, D))))) := e_X8_build_32s F P (f_X8_build_32 F P xS0 n) v1 v2 v3 D
set_option maxHeartbeats 2000000 in
theorem e_X8_build (F P : Nat) (v1 : Nat) (D : xDt) : f_X8_build F P xS0 224 v1 D = (xlet (xup D.1 224 7 0, D.2) fun D1 => xlet (xup D1.1 224 8 0, D1.2) fun D2 => xlet (xup D2.1 224 9 0, D2.2) fun D3 => (f_J7_fill_53178 F P xS0 230 0 D3).bind fun q4 => xlet ((q4.1 v1 1) - 1) fun v3_5 => f_X8_build_32 F P xS0 F 224 v1 0 v3_5 q4) := by
  unfold f_X8_build
  simp only [rr_224_5]
