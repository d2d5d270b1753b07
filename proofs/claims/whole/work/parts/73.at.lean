/-! the plain functions at their cells -/
set_option maxHeartbeats 2000000 in
theorem e_X12_isWorld (F P : Nat) (v1 : Int32) (D : xDt) : f_X12_isWorld F P xS0 241 v1 D = ((f_X12_in F P xS0 v1 0 ((D.1 241 1) - 1) D).bind fun q1 => xgrd (xb q1.1) (some (q1.1, q1.2))) := by
  unfold f_X12_isWorld
  rfl
set_option maxHeartbeats 2000000 in
theorem e_X12_cell (F P : Nat) (v1 : Int32) (v2 : Int32) (D : xDt) : f_X12_cell F P xS0 241 v1 v2 D = (xgrd (xin ((64 * (v1 - 1)) + v2) 256) (some (D.1 243 ((64 * (v1 - 1)) + v2).toNatClampNeg, D))) := by
  unfold f_X12_cell
  simp only [ll_243, rr_241_3]
set_option maxHeartbeats 2000000 in
theorem e_X12_cellOf_39 (F P : Nat) (rec_5 : Nat → Int32 → Int32 → Int64 → Int32 → xDt → Option (Int64 × xDt)) (v1 : Int32) (v2 : Int32) (v5 : Int32) (s0 : Int64) (s1 : Int64) (D : xDt) : f_X12_cellOf_39 F P xS0 rec_5 241 v1 v2 v5 s0 s1 D = (xlet (s1 ||| s0) fun v3_1 => xlet (v5 + 1) fun v5_2 => rec_5 241 v1 v2 v3_1 v5_2 D) := by
  unfold f_X12_cellOf_39
  rfl
set_option maxHeartbeats 2000000 in
theorem e_X12_cellOf_5s (F P : Nat) (rec_5 : Nat → Int32 → Int32 → Int64 → Int32 → xDt → Option (Int64 × xDt)) (v1 : Int32) (v2 : Int32) (v3 : Int64) (v5 : Int32) (D : xDt) : f_X12_cellOf_5s F P xS0 rec_5 241 v1 v2 v3 v5 D = (if (D.1 241 1) ≤ v5 then (some (v3, D)) else ((f_X12_cell F P xS0 241 v1 v5 D).bind fun q1 => (f_X12_cell F P xS0 241 v1 v2 q1.2).bind fun q2 => if q1.1 = q2.1 then (f_X12_cellOf_39 F P xS0 rec_5 241 v1 v2 v5 (jlshl 1 v5) v3 q2.2) else (f_X12_cellOf_39 F P xS0 rec_5 241 v1 v2 v5 0 v3 q2.2))) := by
  unfold f_X12_cellOf_5s
  rfl
theorem e_X12_cellOf_5 (F P n : Nat) (v1 : Int32) (v2 : Int32) (v3 : Int64) (v5 : Int32) (D : xDt) : f_X12_cellOf_5 F P xS0 (n + 1) 241 v1 v2 v3 v5 D = (if (D.1 241 1) ≤ v5 then (some (v3, D)) else ((f_X12_cell F P xS0 241 v1 v5 D).bind fun q1 => (f_X12_cell F P xS0 241 v1 v2 q1.2).bind fun q2 => if q1.1 = q2.1 then (f_X12_cellOf_39 F P xS0 (f_X12_cellOf_5 F P xS0 n) 241 v1 v2 v5 (jlshl 1 v5) v3 q2.2) else (f_X12_cellOf_39 F P xS0 (f_X12_cellOf_5 F P xS0 n) 241 v1 v2 v5 0 v3 q2.2))) := e_X12_cellOf_5s F P (f_X12_cellOf_5 F P xS0 n) v1 v2 v3 v5 D
set_option maxHeartbeats 2000000 in
theorem e_X12_cellOf (F P : Nat) (v1 : Int32) (v2 : Int32) (D : xDt) : f_X12_cellOf F P xS0 241 v1 v2 D = (f_X12_cellOf_5 F P xS0 F 241 v1 v2 0 0 D) := by
  unfold f_X12_cellOf
  rfl
set_option maxHeartbeats 2000000 in
theorem e_X12_gather_45 (F P : Nat) (rec_9 : Nat → Int32 → Int64 → Int32 → Int32 → xDt → Option (xDt)) (v1 : Int32) (v2 : Int64) (v4 : Int32) (v5 : Int32) (D : xDt) : f_X12_gather_45 F P xS0 rec_9 241 v1 v2 v4 v5 D = (xlet (v5 + 1) fun v5_1 => rec_9 241 v1 v2 v4 v5_1 D) := by
  unfold f_X12_gather_45
  rfl
set_option maxHeartbeats 2000000 in
theorem e_X12_gather_9s (F P : Nat) (rec_9 : Nat → Int32 → Int64 → Int32 → Int32 → xDt → Option (xDt)) (v1 : Int32) (v2 : Int64) (v4 : Int32) (v5 : Int32) (D : xDt) : f_X12_gather_9s F P xS0 rec_9 241 v1 v2 v4 v5 D = (if (D.1 241 1) ≤ v5 then (some D) else (if (lg_cmp ((jlushr v2 v5) &&& 1) 1) = 0 then (xgrd (xin ((64 * (v1 - 1)) + v5) 256) (xlet (xup D.1 243 ((64 * (v1 - 1)) + v5).toNatClampNeg v4, D.2) fun D2 => f_X12_gather_45 F P xS0 rec_9 241 v1 v2 v4 v5 D2)) else (f_X12_gather_45 F P xS0 rec_9 241 v1 v2 v4 v5 D))) := by
  unfold f_X12_gather_9s
  simp only [ll_243, rr_241_3]
theorem e_X12_gather_9 (F P n : Nat) (v1 : Int32) (v2 : Int64) (v4 : Int32) (v5 : Int32) (D : xDt) : f_X12_gather_9 F P xS0 (n + 1) 241 v1 v2 v4 v5 D = (if (D.1 241 1) ≤ v5 then (some D) else (if (lg_cmp ((jlushr v2 v5) &&& 1) 1) = 0 then (xgrd (xin ((64 * (v1 - 1)) + v5) 256) (xlet (xup D.1 243 ((64 * (v1 - 1)) + v5).toNatClampNeg v4, D.2) fun D2 => f_X12_gather_45 F P xS0 (f_X12_gather_9 F P xS0 n) 241 v1 v2 v4 v5 D2)) else (f_X12_gather_45 F P xS0 (f_X12_gather_9 F P xS0 n) 241 v1 v2 v4 v5 D))) := e_X12_gather_9s F P (f_X12_gather_9 F P xS0 n) v1 v2 v4 v5 D
set_option maxHeartbeats 2000000 in
theorem e_X12_gather (F P : Nat) (v1 : Int32) (v2 : Int64) (D : xDt) : f_X12_gather F P xS0 241 v1 v2 D = ((f_X12_least F P xS0 v2 D).bind fun q1 => f_X12_gather_9 F P xS0 F 241 v1 v2 q1.1 0 q1.2) := by
  unfold f_X12_gather
  rfl
set_option maxHeartbeats 2000000 in
theorem e_X12_all (F P : Nat) (D : xDt) : f_X12_all F P xS0 241 D = (if (D.1 241 1) = 64 then (some ((-1), D)) else (some ((jlshl 1 (D.1 241 1)) - 1, D))) := by
  unfold f_X12_all
  rfl
set_option maxHeartbeats 2000000 in
theorem e_X12_world_39s (F P : Nat) (rec_39 : Nat → Int32 → xDt → Option (Int32 × xDt)) (v2 : Int32) (D : xDt) : f_X12_world_39s F P xS0 rec_39 241 v2 D = (if 4 ≤ v2 then (xlet (xup D.1 241 1 ((D.1 241 1) + 1), D.2) fun D1 => some ((D1.1 241 1) - 1, D1)) else (xgrd (xin ((64 * v2) + (D.1 241 1)) 256) (xlet (xup D.1 243 ((64 * v2) + (D.1 241 1)).toNatClampNeg (D.1 241 1), D.2) fun D3 => xlet (v2 + 1) fun v2_4 => rec_39 241 v2_4 D3))) := by
  unfold f_X12_world_39s
  simp only [ll_243, rr_241_3]
theorem e_X12_world_39 (F P n : Nat) (v2 : Int32) (D : xDt) : f_X12_world_39 F P xS0 (n + 1) 241 v2 D = (if 4 ≤ v2 then (xlet (xup D.1 241 1 ((D.1 241 1) + 1), D.2) fun D1 => some ((D1.1 241 1) - 1, D1)) else (xgrd (xin ((64 * v2) + (D.1 241 1)) 256) (xlet (xup D.1 243 ((64 * v2) + (D.1 241 1)).toNatClampNeg (D.1 241 1), D.2) fun D3 => xlet (v2 + 1) fun v2_4 => (f_X12_world_39 F P xS0 n) 241 v2_4 D3))) := e_X12_world_39s F P (f_X12_world_39 F P xS0 n) v2 D
set_option maxHeartbeats 2000000 in
theorem e_X12_world (F P : Nat) (v1 : Int32) (D : xDt) : f_X12_world F P xS0 241 v1 D = ((f_X12_in F P xS0 v1 0 255 D).bind fun q1 => if q1.1 = 0 then (some ((-1), q1.2)) else (if (q1.2.1 241 1) = 64 then (some ((-1), q1.2)) else (xlet (xup q1.2.1 241 7 0, q1.2.2) fun D2 => xgrd (xin (D2.1 241 1) 64) (xlet (xup D2.1 242 (D2.1 241 1).toNatClampNeg v1, D2.2) fun D4 => f_X12_world_39 F P xS0 F 241 0 D4)))) := by
  unfold f_X12_world
  simp only [ll_242, rr_241_2]
set_option maxHeartbeats 2000000 in
theorem e_X12_tie (F P : Nat) (v1 : Int32) (v2 : Int32) (v3 : Int32) (D : xDt) : f_X12_tie F P xS0 241 v1 v2 v3 D = ((f_X12_isAgent F P xS0 v1 D).bind fun q1 => if q1.1 = 0 then (some ((-1), q1.2)) else ((f_X12_isWorld F P xS0 241 v2 q1.2).bind fun q2 => if q2.1 = 0 then (some ((-1), q2.2)) else ((f_X12_isWorld F P xS0 241 v3 q2.2).bind fun q3 => if q3.1 = 0 then (some ((-1), q3.2)) else (xlet (xup q3.2.1 241 7 0, q3.2.2) fun D4 => (f_X12_cellOf F P xS0 241 v1 v2 D4).bind fun q5 => (f_X12_cellOf F P xS0 241 v1 v3 q5.2).bind fun q6 => xlet (q5.1 ||| q6.1) fun v4_7 => (f_X12_gather F P xS0 241 v1 v4_7 q6.2).bind fun q8 => (f_X12_size F P xS0 v4_7 q8).bind fun q9 => some (q9.1, q9.2))))) := by
  unfold f_X12_tie
  rfl
set_option maxHeartbeats 2000000 in
theorem e_X12_alone (F P : Nat) (v1 : Int32) (v2 : Int32) (D : xDt) : f_X12_alone F P xS0 241 v1 v2 D = ((f_X12_isAgent F P xS0 v1 D).bind fun q1 => if q1.1 = 0 then (some ((-1), q1.2)) else ((f_X12_isWorld F P xS0 241 v2 q1.2).bind fun q2 => if q2.1 = 0 then (some ((-1), q2.2)) else (xlet (xup q2.2.1 241 7 0, q2.2.2) fun D3 => (f_X12_cellOf F P xS0 241 v1 v2 D3).bind fun q4 => xlet (q4.1 &&& ((jlshl 1 v2) ^^^ (-1))) fun v3_5 => (f_X12_gather F P xS0 241 v1 (jlshl 1 v2) q4.2).bind fun q6 => if (lg_cmp v3_5 0) = 0 then (f_X12_alone_57 F P xS0 v3_5 q6) else ((f_X12_gather F P xS0 241 v1 v3_5 q6).bind fun q7 => f_X12_alone_57 F P xS0 v3_5 q7)))) := by
  unfold f_X12_alone
  rfl
set_option maxHeartbeats 2000000 in
theorem e_X12_atom (F P : Nat) (v1 : Int32) (v2 : Int32) (v3 : Int32) (D : xDt) : f_X12_atom F P xS0 241 v1 v2 v3 D = ((f_X12_isWorld F P xS0 241 v1 D).bind fun q1 => if q1.1 = 0 then (some ((-1), q1.2)) else ((f_X12_in F P xS0 v2 0 7 q1.2).bind fun q2 => if q2.1 = 0 then (some ((-1), q2.2)) else (xlet (xup q2.2.1 241 7 0, q2.2.2) fun D3 => xgrd (xin v1 64) (xlet ((jishr (D3.1 242 (v1).toNatClampNeg) v2) &&& 1) fun v4_5 => xgrd (xin v1 64) (if v3 = 0 then (xgrd (xin v1 64) (xlet (xup D3.1 242 (v1).toNatClampNeg (((D3.1 242 (v1).toNatClampNeg) &&& ((jishl 1 v2) ^^^ (-1))) ||| 0), D3.2) fun D8 => some (v4_5, D8))) else (xgrd (xin v1 64) (xlet (xup D3.1 242 (v1).toNatClampNeg (((D3.1 242 (v1).toNatClampNeg) &&& ((jishl 1 v2) ^^^ (-1))) ||| (jishl 1 v2)), D3.2) fun D10 => some (v4_5, D10)))))))) := by
  unfold f_X12_atom
  simp only [ll_242, rr_241_2]
set_option maxHeartbeats 2000000 in
theorem e_X12_told (F P : Nat) (v1 : Int32) (v2 : Int32) (D : xDt) : f_X12_told F P xS0 241 v1 v2 D = ((f_X12_isWorld F P xS0 241 v1 D).bind fun q1 => if q1.1 = 0 then (f_X12_told_17 F P xS0 q1.2) else ((f_X12_in F P xS0 v2 0 4 q1.2).bind fun q2 => if q2.1 = 0 then (f_X12_told_17 F P xS0 q2.2) else (if v2 = 0 then (xgrd (xin v1 64) (some (q2.2.1 242 (v1).toNatClampNeg, q2.2))) else ((f_X12_cell F P xS0 241 v2 v1 q2.2).bind fun q3 => some (q3.1, q3.2))))) := by
  unfold f_X12_told
  simp only [ll_242, rr_241_2]
set_option maxHeartbeats 2000000 in
theorem e_X12_moveKept_50s (F P : Nat) (rec_50 : Nat → Int32 → Int32 → Int32 → xDt → Option (xDt)) (v1 : Int32) (v2 : Int32) (v3 : Int32) (D : xDt) : f_X12_moveKept_50s F P xS0 rec_50 241 v1 v2 v3 D = (if 256 ≤ v3 then (some D) else (xgrd (xin ((256 * v1) + v3) 3072) (xgrd (xin ((256 * v2) + v3) 3072) (xlet (xup D.1 246 ((256 * v2) + v3).toNatClampNeg (D.1 246 ((256 * v1) + v3).toNatClampNeg), D.2) fun D3 => xlet (v3 + 1) fun v3_4 => rec_50 241 v1 v2 v3_4 D3)))) := by
  unfold f_X12_moveKept_50s
  simp only [ll_246, rr_241_6]
theorem e_X12_moveKept_50 (F P n : Nat) (v1 : Int32) (v2 : Int32) (v3 : Int32) (D : xDt) : f_X12_moveKept_50 F P xS0 (n + 1) 241 v1 v2 v3 D = (if 256 ≤ v3 then (some D) else (xgrd (xin ((256 * v1) + v3) 3072) (xgrd (xin ((256 * v2) + v3) 3072) (xlet (xup D.1 246 ((256 * v2) + v3).toNatClampNeg (D.1 246 ((256 * v1) + v3).toNatClampNeg), D.2) fun D3 => xlet (v3 + 1) fun v3_4 => (f_X12_moveKept_50 F P xS0 n) 241 v1 v2 v3_4 D3)))) := e_X12_moveKept_50s F P (f_X12_moveKept_50 F P xS0 n) v1 v2 v3 D
set_option maxHeartbeats 2000000 in
theorem e_X12_moveKept_14s (F P : Nat) (rec_14 : Nat → Int32 → Int32 → Int32 → xDt → Option (xDt)) (v1 : Int32) (v2 : Int32) (v3 : Int32) (D : xDt) : f_X12_moveKept_14s F P xS0 rec_14 241 v1 v2 v3 D = (if 64 ≤ v3 then (f_X12_moveKept_50 F P xS0 F 241 v1 v2 0 D) else (xgrd (xin ((64 * v1) + v3) 768) (xgrd (xin ((64 * v2) + v3) 768) (xlet (xup D.1 245 ((64 * v2) + v3).toNatClampNeg (D.1 245 ((64 * v1) + v3).toNatClampNeg), D.2) fun D3 => xlet (v3 + 1) fun v3_4 => rec_14 241 v1 v2 v3_4 D3)))) := by
  unfold f_X12_moveKept_14s
  simp only [ll_245, rr_241_5]
theorem e_X12_moveKept_14 (F P n : Nat) (v1 : Int32) (v2 : Int32) (v3 : Int32) (D : xDt) : f_X12_moveKept_14 F P xS0 (n + 1) 241 v1 v2 v3 D = (if 64 ≤ v3 then (f_X12_moveKept_50 F P xS0 F 241 v1 v2 0 D) else (xgrd (xin ((64 * v1) + v3) 768) (xgrd (xin ((64 * v2) + v3) 768) (xlet (xup D.1 245 ((64 * v2) + v3).toNatClampNeg (D.1 245 ((64 * v1) + v3).toNatClampNeg), D.2) fun D3 => xlet (v3 + 1) fun v3_4 => (f_X12_moveKept_14 F P xS0 n) 241 v1 v2 v3_4 D3)))) := e_X12_moveKept_14s F P (f_X12_moveKept_14 F P xS0 n) v1 v2 v3 D
set_option maxHeartbeats 2000000 in
theorem e_X12_moveKept (F P : Nat) (v1 : Int32) (v2 : Int32) (D : xDt) : f_X12_moveKept F P xS0 241 v1 v2 D = (xgrd (xin v1 12) (xgrd (xin v2 12) (xlet (xup D.1 244 (v2).toNatClampNeg (D.1 244 (v1).toNatClampNeg), D.2) fun D3 => f_X12_moveKept_14 F P xS0 F 241 v1 v2 0 D3))) := by
  unfold f_X12_moveKept
  simp only [ll_244, rr_241_4]
set_option maxHeartbeats 2000000 in
theorem e_X12_keep_92s (F P : Nat) (rec_92 : Nat → Int32 → xDt → Option (xDt)) (v1 : Int32) (D : xDt) : f_X12_keep_92s F P xS0 rec_92 241 v1 D = (if 256 ≤ v1 then (xlet (xup D.1 241 7 ((D.1 241 7) + 1), D.2) fun D1 => some D1) else (xgrd (xin v1 256) (xgrd (xin ((256 * (D.1 241 7)) + v1) 3072) (xlet (xup D.1 246 ((256 * (D.1 241 7)) + v1).toNatClampNeg (D.1 243 (v1).toNatClampNeg), D.2) fun D4 => xlet (v1 + 1) fun v1_5 => rec_92 241 v1_5 D4)))) := by
  unfold f_X12_keep_92s
  simp only [ll_243, ll_246, rr_241_3, rr_241_6]
theorem e_X12_keep_92 (F P n : Nat) (v1 : Int32) (D : xDt) : f_X12_keep_92 F P xS0 (n + 1) 241 v1 D = (if 256 ≤ v1 then (xlet (xup D.1 241 7 ((D.1 241 7) + 1), D.2) fun D1 => some D1) else (xgrd (xin v1 256) (xgrd (xin ((256 * (D.1 241 7)) + v1) 3072) (xlet (xup D.1 246 ((256 * (D.1 241 7)) + v1).toNatClampNeg (D.1 243 (v1).toNatClampNeg), D.2) fun D4 => xlet (v1 + 1) fun v1_5 => (f_X12_keep_92 F P xS0 n) 241 v1_5 D4)))) := e_X12_keep_92s F P (f_X12_keep_92 F P xS0 n) v1 D
set_option maxHeartbeats 2000000 in
theorem e_X12_keep_58s (F P : Nat) (rec_58 : Nat → Int32 → xDt → Option (xDt)) (v1 : Int32) (D : xDt) : f_X12_keep_58s F P xS0 rec_58 241 v1 D = (if 64 ≤ v1 then (f_X12_keep_92 F P xS0 F 241 0 D) else (xgrd (xin v1 64) (xgrd (xin ((64 * (D.1 241 7)) + v1) 768) (xlet (xup D.1 245 ((64 * (D.1 241 7)) + v1).toNatClampNeg (D.1 242 (v1).toNatClampNeg), D.2) fun D3 => xlet (v1 + 1) fun v1_4 => rec_58 241 v1_4 D3)))) := by
  unfold f_X12_keep_58s
  simp only [ll_242, ll_245, rr_241_2, rr_241_5]
theorem e_X12_keep_58 (F P n : Nat) (v1 : Int32) (D : xDt) : f_X12_keep_58 F P xS0 (n + 1) 241 v1 D = (if 64 ≤ v1 then (f_X12_keep_92 F P xS0 F 241 0 D) else (xgrd (xin v1 64) (xgrd (xin ((64 * (D.1 241 7)) + v1) 768) (xlet (xup D.1 245 ((64 * (D.1 241 7)) + v1).toNatClampNeg (D.1 242 (v1).toNatClampNeg), D.2) fun D3 => xlet (v1 + 1) fun v1_4 => (f_X12_keep_58 F P xS0 n) 241 v1_4 D3)))) := e_X12_keep_58s F P (f_X12_keep_58 F P xS0 n) v1 D
set_option maxHeartbeats 2000000 in
theorem e_X12_keep_43 (F P : Nat) (D : xDt) : f_X12_keep_43 F P xS0 241 D = (xgrd (xin (D.1 241 7) 12) (xlet (xup D.1 244 (D.1 241 7).toNatClampNeg (D.1 241 1), D.2) fun D2 => f_X12_keep_58 F P xS0 F 241 0 D2)) := by
  unfold f_X12_keep_43
  simp only [ll_244, rr_241_4]
set_option maxHeartbeats 2000000 in
theorem e_X12_keep_11s (F P : Nat) (rec_11 : Nat → Int32 → xDt → Option (xDt)) (v1 : Int32) (D : xDt) : f_X12_keep_11s F P xS0 rec_11 241 v1 D = (if 12 ≤ (v1 + 1) then (xlet (xup D.1 241 7 ((D.1 241 7) - 1), D.2) fun D1 => f_X12_keep_43 F P xS0 241 D1) else ((f_X12_moveKept F P xS0 241 (v1 + 1) v1 D).bind fun q2 => xlet (v1 + 1) fun v1_3 => rec_11 241 v1_3 q2)) := by
  unfold f_X12_keep_11s
  rfl
theorem e_X12_keep_11 (F P n : Nat) (v1 : Int32) (D : xDt) : f_X12_keep_11 F P xS0 (n + 1) 241 v1 D = (if 12 ≤ (v1 + 1) then (xlet (xup D.1 241 7 ((D.1 241 7) - 1), D.2) fun D1 => f_X12_keep_43 F P xS0 241 D1) else ((f_X12_moveKept F P xS0 241 (v1 + 1) v1 D).bind fun q2 => xlet (v1 + 1) fun v1_3 => (f_X12_keep_11 F P xS0 n) 241 v1_3 q2)) := e_X12_keep_11s F P (f_X12_keep_11 F P xS0 n) v1 D
set_option maxHeartbeats 2000000 in
theorem e_X12_keep (F P : Nat) (D : xDt) : f_X12_keep F P xS0 241 D = (if (D.1 241 7) = 12 then (f_X12_keep_11 F P xS0 F 241 0 D) else (f_X12_keep_43 F P xS0 241 D)) := by
  unfold f_X12_keep
  rfl
set_option maxHeartbeats 2000000 in
theorem e_X12_back_68s (F P : Nat) (rec_68 : Nat → Int32 → xDt → Option (Int32 × xDt)) (v1 : Int32) (D : xDt) : f_X12_back_68s F P xS0 rec_68 241 v1 D = (if 256 ≤ v1 then (some (D.1 241 1, D)) else (xgrd (xin ((256 * (D.1 241 7)) + v1) 3072) (xgrd (xin v1 256) (xlet (xup D.1 243 (v1).toNatClampNeg (D.1 246 ((256 * (D.1 241 7)) + v1).toNatClampNeg), D.2) fun D3 => xlet (v1 + 1) fun v1_4 => rec_68 241 v1_4 D3)))) := by
  unfold f_X12_back_68s
  simp only [ll_243, ll_246, rr_241_3, rr_241_6]
theorem e_X12_back_68 (F P n : Nat) (v1 : Int32) (D : xDt) : f_X12_back_68 F P xS0 (n + 1) 241 v1 D = (if 256 ≤ v1 then (some (D.1 241 1, D)) else (xgrd (xin ((256 * (D.1 241 7)) + v1) 3072) (xgrd (xin v1 256) (xlet (xup D.1 243 (v1).toNatClampNeg (D.1 246 ((256 * (D.1 241 7)) + v1).toNatClampNeg), D.2) fun D3 => xlet (v1 + 1) fun v1_4 => (f_X12_back_68 F P xS0 n) 241 v1_4 D3)))) := e_X12_back_68s F P (f_X12_back_68 F P xS0 n) v1 D
set_option maxHeartbeats 2000000 in
theorem e_X12_back_34s (F P : Nat) (rec_34 : Nat → Int32 → xDt → Option (Int32 × xDt)) (v1 : Int32) (D : xDt) : f_X12_back_34s F P xS0 rec_34 241 v1 D = (if 64 ≤ v1 then (f_X12_back_68 F P xS0 F 241 0 D) else (xgrd (xin ((64 * (D.1 241 7)) + v1) 768) (xgrd (xin v1 64) (xlet (xup D.1 242 (v1).toNatClampNeg (D.1 245 ((64 * (D.1 241 7)) + v1).toNatClampNeg), D.2) fun D3 => xlet (v1 + 1) fun v1_4 => rec_34 241 v1_4 D3)))) := by
  unfold f_X12_back_34s
  simp only [ll_242, ll_245, rr_241_2, rr_241_5]
theorem e_X12_back_34 (F P n : Nat) (v1 : Int32) (D : xDt) : f_X12_back_34 F P xS0 (n + 1) 241 v1 D = (if 64 ≤ v1 then (f_X12_back_68 F P xS0 F 241 0 D) else (xgrd (xin ((64 * (D.1 241 7)) + v1) 768) (xgrd (xin v1 64) (xlet (xup D.1 242 (v1).toNatClampNeg (D.1 245 ((64 * (D.1 241 7)) + v1).toNatClampNeg), D.2) fun D3 => xlet (v1 + 1) fun v1_4 => (f_X12_back_34 F P xS0 n) 241 v1_4 D3)))) := e_X12_back_34s F P (f_X12_back_34 F P xS0 n) v1 D
set_option maxHeartbeats 2000000 in
theorem e_X12_back (F P : Nat) (D : xDt) : f_X12_back F P xS0 241 D = (if (D.1 241 7) = 0 then (some ((-1), D)) else (xlet (xup D.1 241 7 ((D.1 241 7) - 1), D.2) fun D1 => xgrd (xin (D1.1 241 7) 12) (xlet (xup D1.1 241 1 (D1.1 244 (D1.1 241 7).toNatClampNeg), D1.2) fun D3 => f_X12_back_34 F P xS0 F 241 0 D3))) := by
  unfold f_X12_back
  simp only [ll_244, rr_241_4]
set_option maxHeartbeats 2000000 in
theorem e_X12_node_96 (F P : Nat) (s0 : Int32) (s1 : Int32) (s2 : Nat) (D : xDt) : f_X12_node_96 F P xS0 241 s0 s1 s2 D = (xgrd (xin s1 (xl xS0 s2)) (xlet (xup D.1 s2 (s1).toNatClampNeg s0, D.2) fun D2 => xlet (xup D2.1 241 13 ((D2.1 241 13) + 1), D2.2) fun D3 => some ((D3.1 241 13) - 1, D3))) := by
  unfold f_X12_node_96
  rfl
set_option maxHeartbeats 2000000 in
theorem e_X12_node_71 (F P : Nat) (s0 : Int32) (s1 : Int32) (D : xDt) : f_X12_node_71 F P xS0 241 s0 s1 D = (xlet (s1 + s0) fun v5_1 => if v5_1 ≤ 1000000 then (f_X12_node_96 F P xS0 241 v5_1 (D.1 241 13) 251 D) else (f_X12_node_96 F P xS0 241 1000000 (D.1 241 13) 251 D)) := by
  unfold f_X12_node_71
  simp only [rr_241_12]
set_option maxHeartbeats 2000000 in
theorem e_X12_node_56 (F P : Nat) (v3 : Int32) (s0 : Int32) (s1 : Int32) (D : xDt) : f_X12_node_56 F P xS0 241 v3 s0 s1 D = (if 0 ≤ v3 then (xgrd (xin v3 92800) (f_X12_node_71 F P xS0 241 (D.1 251 (v3).toNatClampNeg) (s1 + s0) D)) else (f_X12_node_71 F P xS0 241 0 (s1 + s0) D)) := by
  unfold f_X12_node_56
  simp only [ll_251, rr_241_12]
set_option maxHeartbeats 2000000 in
theorem e_X12_node (F P : Nat) (v1 : Int32) (v2 : Int32) (v3 : Int32) (v4 : Int32) (D : xDt) : f_X12_node F P xS0 241 v1 v2 v3 v4 D = (xgrd (xin (D.1 241 13) 92800) (xlet (xup D.1 247 (D.1 241 13).toNatClampNeg v1, D.2) fun D2 => xgrd (xin (D2.1 241 13) 92800) (xlet (xup D2.1 248 (D2.1 241 13).toNatClampNeg v2, D2.2) fun D4 => xgrd (xin (D4.1 241 13) 92800) (xlet (xup D4.1 249 (D4.1 241 13).toNatClampNeg v3, D4.2) fun D6 => xgrd (xin (D6.1 241 13) 92800) (xlet (xup D6.1 250 (D6.1 241 13).toNatClampNeg v4, D6.2) fun D8 => if 0 ≤ v2 then (xgrd (xin v2 92800) (f_X12_node_56 F P xS0 241 v3 (D8.1 251 (v2).toNatClampNeg) 1 D8)) else (f_X12_node_56 F P xS0 241 v3 0 1 D8)))))) := by
  unfold f_X12_node
  simp only [ll_247, ll_248, ll_249, ll_250, ll_251, rr_241_10, rr_241_11, rr_241_12, rr_241_8, rr_241_9]
set_option maxHeartbeats 2000000 in
theorem e_X12_copied_49 (F P : Nat) (self_X12_copied : Nat → Int32 → xDt → Option (Int32 × xDt)) (v1 : Int32) (v2 : Int32) (s0 : Int32) (D : xDt) : f_X12_copied_49 F P xS0 self_X12_copied 241 v1 v2 s0 D = (xgrd (xin v1 92800) (xgrd (xin v1 92800) ((f_X12_node F P xS0 241 (D.1 247 (v1).toNatClampNeg) v2 s0 (D.1 250 (v1).toNatClampNeg) D).bind fun q3 => some (q3.1, q3.2)))) := by
  unfold f_X12_copied_49
  simp only [ll_247, ll_250, rr_241_11, rr_241_8]
set_option maxHeartbeats 2000000 in
theorem e_X12_copied_24 (F P : Nat) (self_X12_copied : Nat → Int32 → xDt → Option (Int32 × xDt)) (v1 : Int32) (s0 : Int32) (D : xDt) : f_X12_copied_24 F P xS0 self_X12_copied 241 v1 s0 D = (xgrd (xin v1 92800) (if 0 ≤ (D.1 249 (v1).toNatClampNeg) then (xgrd (xin v1 92800) ((self_X12_copied 241 (D.1 249 (v1).toNatClampNeg) D).bind fun q3 => f_X12_copied_49 F P xS0 self_X12_copied 241 v1 s0 q3.1 q3.2)) else (f_X12_copied_49 F P xS0 self_X12_copied 241 v1 s0 (-2) D))) := by
  unfold f_X12_copied_24
  simp only [ll_249, rr_241_10]
set_option maxHeartbeats 2000000 in
theorem e_X12_copied_o (F P : Nat) (self_X12_copied : Nat → Int32 → xDt → Option (Int32 × xDt)) (v1 : Int32) (D : xDt) : f_X12_copied_o F P xS0 self_X12_copied 241 v1 D = (xgrd (xin v1 92800) (if 0 ≤ (D.1 248 (v1).toNatClampNeg) then (xgrd (xin v1 92800) ((self_X12_copied 241 (D.1 248 (v1).toNatClampNeg) D).bind fun q3 => f_X12_copied_24 F P xS0 self_X12_copied 241 v1 q3.1 q3.2)) else (f_X12_copied_24 F P xS0 self_X12_copied 241 v1 (-2) D))) := by
  unfold f_X12_copied_o
  simp only [ll_248, rr_241_9]
set_option maxHeartbeats 2000000 in
theorem e_X12_laid_142 (F P : Nat) (rec_26 : Nat → Int32 → Int32 → Int32 → Int32 → xDt → Option (Int32 × xDt)) (v2 : Int32) (v3 : Int32) (v4 : Int32) (v5 : Int32) (s0 : Int32) (s1 : Int32) (s2 : Nat) (D : xDt) : f_X12_laid_142 F P xS0 rec_26 241 v2 v3 v4 v5 s0 s1 s2 D = (xgrd (xin s1 (xl xS0 s2)) (xlet (xup D.1 s2 (s1).toNatClampNeg s0, D.2) fun D2 => xgrd (xin (12800 + v5) 92800) (xgrd (xin (v2 + v5) 92800) (xlet (xup D2.1 250 (v2 + v5).toNatClampNeg (D2.1 250 (12800 + v5).toNatClampNeg), D2.2) fun D5 => xgrd (xin (12800 + v5) 92800) (xgrd (xin (v2 + v5) 92800) (xlet (xup D5.1 251 (v2 + v5).toNatClampNeg (D5.1 251 (12800 + v5).toNatClampNeg), D5.2) fun D8 => xlet (v5 + 1) fun v5_9 => rec_26 241 v2 v3 v4 v5_9 D8)))))) := by
  unfold f_X12_laid_142
  simp only [ll_250, ll_251, rr_241_11, rr_241_12]
set_option maxHeartbeats 2000000 in
theorem e_X12_laid_97 (F P : Nat) (rec_26 : Nat → Int32 → Int32 → Int32 → Int32 → xDt → Option (Int32 × xDt)) (v2 : Int32) (v3 : Int32) (v4 : Int32) (v5 : Int32) (s0 : Int32) (s1 : Int32) (s2 : Nat) (D : xDt) : f_X12_laid_97 F P xS0 rec_26 241 v2 v3 v4 v5 s0 s1 s2 D = (xgrd (xin s1 (xl xS0 s2)) (xlet (xup D.1 s2 (s1).toNatClampNeg s0, D.2) fun D2 => xgrd (xin (12800 + v5) 92800) (if 0 ≤ (D2.1 249 (12800 + v5).toNatClampNeg) then (xgrd (xin (12800 + v5) 92800) (f_X12_laid_142 F P xS0 rec_26 241 v2 v3 v4 v5 (((D2.1 249 (12800 + v5).toNatClampNeg) - 12800) + v2) (v2 + v5) 249 D2)) else (f_X12_laid_142 F P xS0 rec_26 241 v2 v3 v4 v5 (-2) (v2 + v5) 249 D2)))) := by
  unfold f_X12_laid_97
  simp only [ll_249, rr_241_10]
set_option maxHeartbeats 2000000 in
theorem e_X12_laid_26s (F P : Nat) (rec_26 : Nat → Int32 → Int32 → Int32 → Int32 → xDt → Option (Int32 × xDt)) (v2 : Int32) (v3 : Int32) (v4 : Int32) (v5 : Int32) (D : xDt) : f_X12_laid_26s F P xS0 rec_26 241 v2 v3 v4 v5 D = (if v4 ≤ v5 then (some ((v3 - 12800) + v2, D)) else (xgrd (xin (12800 + v5) 92800) (xgrd (xin (v2 + v5) 92800) (xlet (xup D.1 247 (v2 + v5).toNatClampNeg (D.1 247 (12800 + v5).toNatClampNeg), D.2) fun D3 => xgrd (xin (12800 + v5) 92800) (if 0 ≤ (D3.1 248 (12800 + v5).toNatClampNeg) then (xgrd (xin (12800 + v5) 92800) (f_X12_laid_97 F P xS0 rec_26 241 v2 v3 v4 v5 (((D3.1 248 (12800 + v5).toNatClampNeg) - 12800) + v2) (v2 + v5) 248 D3)) else (f_X12_laid_97 F P xS0 rec_26 241 v2 v3 v4 v5 (-2) (v2 + v5) 248 D3)))))) := by
  unfold f_X12_laid_26s
  simp only [ll_247, ll_248, rr_241_8, rr_241_9]
theorem e_X12_laid_26 (F P n : Nat) (v2 : Int32) (v3 : Int32) (v4 : Int32) (v5 : Int32) (D : xDt) : f_X12_laid_26 F P xS0 (n + 1) 241 v2 v3 v4 v5 D = (if v4 ≤ v5 then (some ((v3 - 12800) + v2, D)) else (xgrd (xin (12800 + v5) 92800) (xgrd (xin (v2 + v5) 92800) (xlet (xup D.1 247 (v2 + v5).toNatClampNeg (D.1 247 (12800 + v5).toNatClampNeg), D.2) fun D3 => xgrd (xin (12800 + v5) 92800) (if 0 ≤ (D3.1 248 (12800 + v5).toNatClampNeg) then (xgrd (xin (12800 + v5) 92800) (f_X12_laid_97 F P xS0 (f_X12_laid_26 F P xS0 n) 241 v2 v3 v4 v5 (((D3.1 248 (12800 + v5).toNatClampNeg) - 12800) + v2) (v2 + v5) 248 D3)) else (f_X12_laid_97 F P xS0 (f_X12_laid_26 F P xS0 n) 241 v2 v3 v4 v5 (-2) (v2 + v5) 248 D3)))))) := e_X12_laid_26s F P (f_X12_laid_26 F P xS0 n) v2 v3 v4 v5 D
set_option maxHeartbeats 2000000 in
theorem e_X12_laid (F P : Nat) (v1 : Int32) (v2 : Int32) (D : xDt) : f_X12_laid F P xS0 241 v1 v2 D = (xlet (xup D.1 241 13 12800, D.2) fun D1 => (f_X12_copied F P xS0 P 241 v1 D1).bind fun q2 => xlet ((q2.2.1 241 13) - 12800) fun v4_3 => f_X12_laid_26 F P xS0 F 241 v2 q2.1 v4_3 0 q2.2) := by
  unfold f_X12_laid
  rfl
set_option maxHeartbeats 2000000 in
theorem e_X12_type (F P : Nat) (v1 : Int32) (D : xDt) : f_X12_type F P xS0 241 v1 D = ((f_X12_in F P xS0 v1 32 126 D).bind fun q1 => if q1.1 = 0 then (some ((-1), q1.2)) else (if (q1.2.1 241 16) = 200 then (some ((-1), q1.2)) else (xgrd (xin (q1.2.1 241 16) 200) (xlet (xup q1.2.1 252 (q1.2.1 241 16).toNatClampNeg (ji2b (ji2b v1)), q1.2.2) fun D3 => xlet (xup D3.1 241 16 ((D3.1 241 16) + 1), D3.2) fun D4 => some (D4.1 241 16, D4))))) := by
  unfold f_X12_type
  simp only [ll_252, rr_241_15]
set_option maxHeartbeats 2000000 in
theorem e_X12_four_48 (F P : Nat) (rec_5 : Nat → Int32 → Int32 → Int32 → xDt → Option (Int32 × xDt)) (v1 : Int32) (v3 : Int32) (s0 : Int32) (s1 : Int32) (D : xDt) : f_X12_four_48 F P xS0 rec_5 241 v1 v3 s0 s1 D = (xlet (s1 + s0) fun v2_1 => xlet (v3 + (-8)) fun v3_2 => rec_5 241 v1 v2_1 v3_2 D) := by
  unfold f_X12_four_48
  rfl
set_option maxHeartbeats 2000000 in
theorem e_X12_four_37 (F P : Nat) (rec_5 : Nat → Int32 → Int32 → Int32 → xDt → Option (Int32 × xDt)) (v1 : Int32) (v2 : Int32) (v3 : Int32) (v4 : Int32) (D : xDt) : f_X12_four_37 F P xS0 rec_5 241 v1 v2 v3 v4 D = (if v4 = 0 then (f_X12_four_48 F P xS0 rec_5 241 v1 v3 0 v2 D) else (f_X12_four_48 F P xS0 rec_5 241 v1 v3 1 v2 D)) := by
  unfold f_X12_four_37
  rfl
set_option maxHeartbeats 2000000 in
theorem e_X12_four_110 (F P : Nat) (rec_73 : Nat → Int32 → Int32 → xDt → Option (Int32 × xDt)) (v1 : Int32) (v3 : Int32) (D : xDt) : f_X12_four_110 F P xS0 rec_73 241 v1 v3 D = (xlet (v3 + (-8)) fun v3_1 => rec_73 241 v1 v3_1 D) := by
  unfold f_X12_four_110
  rfl
set_option maxHeartbeats 2000000 in
theorem e_X12_four_73s (F P : Nat) (rec_73 : Nat → Int32 → Int32 → xDt → Option (Int32 × xDt)) (v1 : Int32) (v3 : Int32) (D : xDt) : f_X12_four_73s F P xS0 rec_73 241 v1 v3 D = (if v3 < 0 then (some (D.1 241 16, D)) else (if ((jishr v1 v3) &&& 255) = 0 then (f_X12_four_110 F P xS0 rec_73 241 v1 v3 D) else (xgrd (xin (D.1 241 16) 200) (xlet (xup D.1 252 (D.1 241 16).toNatClampNeg (ji2b (ji2b (jishr v1 v3))), D.2) fun D2 => xlet (xup D2.1 241 16 ((D2.1 241 16) + 1), D2.2) fun D3 => f_X12_four_110 F P xS0 rec_73 241 v1 v3 D3)))) := by
  unfold f_X12_four_73s
  simp only [ll_252, rr_241_15]
theorem e_X12_four_73 (F P n : Nat) (v1 : Int32) (v3 : Int32) (D : xDt) : f_X12_four_73 F P xS0 (n + 1) 241 v1 v3 D = (if v3 < 0 then (some (D.1 241 16, D)) else (if ((jishr v1 v3) &&& 255) = 0 then (f_X12_four_110 F P xS0 (f_X12_four_73 F P xS0 n) 241 v1 v3 D) else (xgrd (xin (D.1 241 16) 200) (xlet (xup D.1 252 (D.1 241 16).toNatClampNeg (ji2b (ji2b (jishr v1 v3))), D.2) fun D2 => xlet (xup D2.1 241 16 ((D2.1 241 16) + 1), D2.2) fun D3 => f_X12_four_110 F P xS0 (f_X12_four_73 F P xS0 n) 241 v1 v3 D3)))) := e_X12_four_73s F P (f_X12_four_73 F P xS0 n) v1 v3 D
set_option maxHeartbeats 2000000 in
theorem e_X12_four_5s (F P : Nat) (rec_5 : Nat → Int32 → Int32 → Int32 → xDt → Option (Int32 × xDt)) (v1 : Int32) (v2 : Int32) (v3 : Int32) (D : xDt) : f_X12_four_5s F P xS0 rec_5 241 v1 v2 v3 D = (if v3 < 0 then (if ((D.1 241 16) + v2) ≤ 200 then (f_X12_four_73 F P xS0 F 241 v1 24 D) else (some ((-1), D))) else (xlet ((jishr v1 v3) &&& 255) fun v4_1 => if v4_1 = 0 then (f_X12_four_37 F P xS0 rec_5 241 v1 v2 v3 v4_1 D) else ((f_X12_in F P xS0 v4_1 32 126 D).bind fun q2 => if q2.1 = 0 then (some ((-1), q2.2)) else (f_X12_four_37 F P xS0 rec_5 241 v1 v2 v3 v4_1 q2.2)))) := by
  unfold f_X12_four_5s
  rfl
theorem e_X12_four_5 (F P n : Nat) (v1 : Int32) (v2 : Int32) (v3 : Int32) (D : xDt) : f_X12_four_5 F P xS0 (n + 1) 241 v1 v2 v3 D = (if v3 < 0 then (if ((D.1 241 16) + v2) ≤ 200 then (f_X12_four_73 F P xS0 F 241 v1 24 D) else (some ((-1), D))) else (xlet ((jishr v1 v3) &&& 255) fun v4_1 => if v4_1 = 0 then (f_X12_four_37 F P xS0 (f_X12_four_5 F P xS0 n) 241 v1 v2 v3 v4_1 D) else ((f_X12_in F P xS0 v4_1 32 126 D).bind fun q2 => if q2.1 = 0 then (some ((-1), q2.2)) else (f_X12_four_37 F P xS0 (f_X12_four_5 F P xS0 n) 241 v1 v2 v3 v4_1 q2.2)))) := e_X12_four_5s F P (f_X12_four_5 F P xS0 n) v1 v2 v3 D
set_option maxHeartbeats 2000000 in
theorem e_X12_four (F P : Nat) (v1 : Int32) (D : xDt) : f_X12_four F P xS0 241 v1 D = (f_X12_four_5 F P xS0 F 241 v1 0 24 D) := by
  unfold f_X12_four
  rfl
set_option maxHeartbeats 2000000 in
theorem e_X12_look_38 (F P : Nat) (D : xDt) : f_X12_look_38 F P xS0 241 D = (if (D.1 241 16) ≤ (D.1 241 17) then (some ((-2), D)) else (xgrd (xin (D.1 241 17) 200) (some (D.1 252 (D.1 241 17).toNatClampNeg, D)))) := by
  unfold f_X12_look_38
  simp only [ll_252, rr_241_15]
set_option maxHeartbeats 2000000 in
theorem e_X12_look_0s (F P : Nat) (rec_0 : Nat → xDt → Option (Int32 × xDt)) (D : xDt) : f_X12_look_0s F P xS0 rec_0 241 D = (if (D.1 241 16) ≤ (D.1 241 17) then (f_X12_look_38 F P xS0 241 D) else (xgrd (xin (D.1 241 17) 200) (if (D.1 252 (D.1 241 17).toNatClampNeg) = 32 then (xlet (xup D.1 241 17 ((D.1 241 17) + 1), D.2) fun D2 => rec_0 241 D2) else (f_X12_look_38 F P xS0 241 D)))) := by
  unfold f_X12_look_0s
  simp only [ll_252, rr_241_15]
theorem e_X12_look_0 (F P n : Nat) (D : xDt) : f_X12_look_0 F P xS0 (n + 1) 241 D = (if (D.1 241 16) ≤ (D.1 241 17) then (f_X12_look_38 F P xS0 241 D) else (xgrd (xin (D.1 241 17) 200) (if (D.1 252 (D.1 241 17).toNatClampNeg) = 32 then (xlet (xup D.1 241 17 ((D.1 241 17) + 1), D.2) fun D2 => (f_X12_look_0 F P xS0 n) 241 D2) else (f_X12_look_38 F P xS0 241 D)))) := e_X12_look_0s F P (f_X12_look_0 F P xS0 n) D
set_option maxHeartbeats 2000000 in
theorem e_X12_look (F P : Nat) (D : xDt) : f_X12_look F P xS0 241 D = (f_X12_look_0 F P xS0 F 241 D) := by
  unfold f_X12_look
  rfl
set_option maxHeartbeats 2000000 in
theorem e_X12_bad (F P : Nat) (D : xDt) : f_X12_bad F P xS0 241 D = (if 0 ≤ (D.1 241 18) then (xlet (xup D.1 241 18 (D.1 241 18), D.2) fun D1 => some (0, D1)) else (xlet (xup D.1 241 18 (D.1 241 17), D.2) fun D2 => some (0, D2))) := by
  unfold f_X12_bad
  rfl
set_option maxHeartbeats 2000000 in
theorem e_X12_counts_22 (F P : Nat) (D : xDt) : f_X12_counts_22 F P xS0 241 D = (xlet (xup D.1 241 19 ((D.1 241 19) + 1), D.2) fun D1 => some D1) := by
  unfold f_X12_counts_22
  rfl
set_option maxHeartbeats 2000000 in
theorem e_X12_counts (F P : Nat) (D : xDt) : f_X12_counts F P xS0 241 D = (if 0 ≤ (D.1 241 18) then (f_X12_counts_22 F P xS0 241 D) else (if (D.1 241 19) = 150 then ((f_X12_bad F P xS0 241 D).bind fun q1 => f_X12_counts_22 F P xS0 241 q1.2) else (f_X12_counts_22 F P xS0 241 D))) := by
  unfold f_X12_counts
  rfl
set_option maxHeartbeats 2000000 in
theorem e_X12_must_20 (F P : Nat) (D : xDt) : f_X12_must_20 F P xS0 241 D = (if 0 ≤ (D.1 241 18) then (xlet (xup D.1 241 17 ((D.1 241 17) + 0), D.2) fun D1 => some D1) else (xlet (xup D.1 241 17 ((D.1 241 17) + 1), D.2) fun D2 => some D2)) := by
  unfold f_X12_must_20
  rfl
set_option maxHeartbeats 2000000 in
theorem e_X12_must (F P : Nat) (v1 : Int32) (D : xDt) : f_X12_must F P xS0 241 v1 D = (if 0 ≤ (D.1 241 18) then (f_X12_must_20 F P xS0 241 D) else ((f_X12_look F P xS0 241 D).bind fun q1 => if q1.1 = v1 then (f_X12_must_20 F P xS0 241 q1.2) else ((f_X12_bad F P xS0 241 q1.2).bind fun q2 => f_X12_must_20 F P xS0 241 q2.2))) := by
  unfold f_X12_must
  rfl
set_option maxHeartbeats 2000000 in
theorem e_X12_group_49 (F P : Nat) (rec_27 : Nat → Int32 → Int32 → Int32 → Int32 → xDt → Option (Int32 × xDt)) (v1 : Int32) (v2 : Int32) (v4 : Int32) (D : xDt) : f_X12_group_49 F P xS0 rec_27 241 v1 v2 v4 D = (xlet (v4 - 48) fun v3_1 => xlet (v2 ||| (jishl 1 (v3_1 - 1))) fun v2_2 => xlet (xup D.1 241 17 ((D.1 241 17) + 1), D.2) fun D3 => (f_X12_look F P xS0 241 D3).bind fun q4 => rec_27 241 v1 v2_2 v3_1 q4.1 q4.2) := by
  unfold f_X12_group_49
  rfl
set_option maxHeartbeats 2000000 in
theorem e_X12_group_27s (F P : Nat) (rec_27 : Nat → Int32 → Int32 → Int32 → Int32 → xDt → Option (Int32 × xDt)) (v1 : Int32) (v2 : Int32) (v3 : Int32) (v4 : Int32) (D : xDt) : f_X12_group_27s F P xS0 rec_27 241 v1 v2 v3 v4 D = ((f_X12_in F P xS0 v4 (49 + v3) 52 D).bind fun q1 => if q1.1 = 0 then (some (v2, q1.2)) else (if v2 = 0 then (f_X12_group_49 F P xS0 rec_27 241 v1 v2 v4 q1.2) else (if v1 = 0 then (f_X12_group_49 F P xS0 rec_27 241 v1 v2 v4 q1.2) else (some (v2, q1.2))))) := by
  unfold f_X12_group_27s
  rfl
theorem e_X12_group_27 (F P n : Nat) (v1 : Int32) (v2 : Int32) (v3 : Int32) (v4 : Int32) (D : xDt) : f_X12_group_27 F P xS0 (n + 1) 241 v1 v2 v3 v4 D = ((f_X12_in F P xS0 v4 (49 + v3) 52 D).bind fun q1 => if q1.1 = 0 then (some (v2, q1.2)) else (if v2 = 0 then (f_X12_group_49 F P xS0 (f_X12_group_27 F P xS0 n) 241 v1 v2 v4 q1.2) else (if v1 = 0 then (f_X12_group_49 F P xS0 (f_X12_group_27 F P xS0 n) 241 v1 v2 v4 q1.2) else (some (v2, q1.2))))) := e_X12_group_27s F P (f_X12_group_27 F P xS0 n) v1 v2 v3 v4 D
set_option maxHeartbeats 2000000 in
theorem e_X12_group (F P : Nat) (v1 : Int32) (D : xDt) : f_X12_group F P xS0 241 v1 D = ((f_X12_look F P xS0 241 D).bind fun q1 => (f_X12_in F P xS0 q1.1 49 52 q1.2).bind fun q2 => if q2.1 = 0 then ((f_X12_bad F P xS0 241 q2.2).bind fun q3 => some (q3.1, q3.2)) else (f_X12_group_27 F P xS0 F 241 v1 0 0 q1.1 q2.2)) := by
  unfold f_X12_group
  rfl
set_option maxHeartbeats 2000000 in
theorem e_X12_formulaAt_61 (F P : Nat) (self_X12_implied : Nat → Int32 → xDt → Option (Int32 × xDt)) (v3 : Int32) (s0 : Int32) (D : xDt) : f_X12_formulaAt_61 F P xS0 self_X12_implied 241 v3 s0 D = (if 0 ≤ (D.1 241 18) then (f_X12_formulaAt_84 F P xS0 self_X12_implied 0 D) else ((f_X12_node F P xS0 241 10 v3 s0 0 D).bind fun q1 => f_X12_formulaAt_84 F P xS0 self_X12_implied q1.1 q1.2)) := by
  unfold f_X12_formulaAt_61
  rfl
set_option maxHeartbeats 2000000 in
theorem e_X12_formulaAt_o (F P : Nat) (self_X12_implied : Nat → Int32 → xDt → Option (Int32 × xDt)) (v1 : Int32) (v2 : Int32) (D : xDt) : f_X12_formulaAt_o F P xS0 self_X12_implied 241 v1 v2 D = (if v1 ≤ 15 then ((self_X12_implied 241 v1 D).bind fun q1 => if 0 ≤ (q1.2.1 241 18) then (some (q1.1, q1.2)) else ((f_X12_look F P xS0 241 q1.2).bind fun q2 => if q2.1 = 61 then ((f_X12_counts F P xS0 241 q2.2).bind fun q3 => (f_X12_must F P xS0 241 61 q3).bind fun q4 => if 0 ≤ (q4.1 241 18) then (f_X12_formulaAt_61 F P xS0 self_X12_implied 241 q1.1 0 q4) else ((self_X12_implied 241 v1 q4).bind fun q5 => f_X12_formulaAt_61 F P xS0 self_X12_implied 241 q1.1 q5.1 q5.2)) else (some (q1.1, q2.2)))) else (xlet (xup D.1 241 18 v2, D.2) fun D6 => some (0, D6))) := by
  unfold f_X12_formulaAt_o
  rfl
set_option maxHeartbeats 2000000 in
theorem e_X12_implied_48 (F P : Nat) (self_X12_implied : Nat → Int32 → xDt → Option (Int32 × xDt)) (self_X12_either : Nat → Int32 → xDt → Option (Int32 × xDt)) (v2 : Int32) (s0 : Int32) (D : xDt) : f_X12_implied_48 F P xS0 self_X12_implied self_X12_either 241 v2 s0 D = (if 0 ≤ (D.1 241 18) then (f_X12_implied_69 F P xS0 self_X12_implied self_X12_either 0 D) else ((f_X12_node F P xS0 241 11 v2 s0 0 D).bind fun q1 => f_X12_implied_69 F P xS0 self_X12_implied self_X12_either q1.1 q1.2)) := by
  unfold f_X12_implied_48
  rfl
set_option maxHeartbeats 2000000 in
theorem e_X12_implied_o (F P : Nat) (self_X12_implied : Nat → Int32 → xDt → Option (Int32 × xDt)) (self_X12_either : Nat → Int32 → xDt → Option (Int32 × xDt)) (v1 : Int32) (D : xDt) : f_X12_implied_o F P xS0 self_X12_implied self_X12_either 241 v1 D = ((self_X12_either 241 v1 D).bind fun q1 => if 0 ≤ (q1.2.1 241 18) then (some (q1.1, q1.2)) else ((f_X12_look F P xS0 241 q1.2).bind fun q2 => if q2.1 = 62 then ((f_X12_counts F P xS0 241 q2.2).bind fun q3 => (f_X12_must F P xS0 241 62 q3).bind fun q4 => if 0 ≤ (q4.1 241 18) then (f_X12_implied_48 F P xS0 self_X12_implied self_X12_either 241 q1.1 0 q4) else ((self_X12_implied 241 v1 q4).bind fun q5 => f_X12_implied_48 F P xS0 self_X12_implied self_X12_either 241 q1.1 q5.1 q5.2)) else (some (q1.1, q2.2)))) := by
  unfold f_X12_implied_o
  rfl
set_option maxHeartbeats 2000000 in
theorem e_X12_either_69 (F P : Nat) (self_X12_both : Nat → Int32 → xDt → Option (Int32 × xDt)) (rec_6 : Nat → Int32 → Int32 → xDt → Option (Int32 × xDt)) (v1 : Int32) (s0 : Int32) (D : xDt) : f_X12_either_69 F P xS0 self_X12_both rec_6 241 v1 s0 D = (rec_6 241 v1 s0 D) := by
  unfold f_X12_either_69
  rfl
set_option maxHeartbeats 2000000 in
theorem e_X12_either_48 (F P : Nat) (self_X12_both : Nat → Int32 → xDt → Option (Int32 × xDt)) (rec_6 : Nat → Int32 → Int32 → xDt → Option (Int32 × xDt)) (v1 : Int32) (v2 : Int32) (s0 : Int32) (D : xDt) : f_X12_either_48 F P xS0 self_X12_both rec_6 241 v1 v2 s0 D = (if 0 ≤ (D.1 241 18) then (f_X12_either_69 F P xS0 self_X12_both rec_6 241 v1 0 D) else ((f_X12_node F P xS0 241 12 v2 s0 0 D).bind fun q1 => f_X12_either_69 F P xS0 self_X12_both rec_6 241 v1 q1.1 q1.2)) := by
  unfold f_X12_either_48
  rfl
set_option maxHeartbeats 2000000 in
theorem e_X12_either_6s (F P : Nat) (self_X12_both : Nat → Int32 → xDt → Option (Int32 × xDt)) (rec_6 : Nat → Int32 → Int32 → xDt → Option (Int32 × xDt)) (v1 : Int32) (v2 : Int32) (D : xDt) : f_X12_either_6s F P xS0 self_X12_both rec_6 241 v1 v2 D = (if 0 ≤ (D.1 241 18) then (some (v2, D)) else ((f_X12_look F P xS0 241 D).bind fun q1 => if q1.1 = 124 then ((f_X12_counts F P xS0 241 q1.2).bind fun q2 => (f_X12_must F P xS0 241 124 q2).bind fun q3 => if 0 ≤ (q3.1 241 18) then (f_X12_either_48 F P xS0 self_X12_both rec_6 241 v1 v2 0 q3) else ((self_X12_both 241 v1 q3).bind fun q4 => f_X12_either_48 F P xS0 self_X12_both rec_6 241 v1 v2 q4.1 q4.2)) else (some (v2, q1.2)))) := by
  unfold f_X12_either_6s
  rfl
theorem e_X12_either_6 (F P n : Nat) (self_X12_both : Nat → Int32 → xDt → Option (Int32 × xDt)) (v1 : Int32) (v2 : Int32) (D : xDt) : f_X12_either_6 F P xS0 self_X12_both (n + 1) 241 v1 v2 D = (if 0 ≤ (D.1 241 18) then (some (v2, D)) else ((f_X12_look F P xS0 241 D).bind fun q1 => if q1.1 = 124 then ((f_X12_counts F P xS0 241 q1.2).bind fun q2 => (f_X12_must F P xS0 241 124 q2).bind fun q3 => if 0 ≤ (q3.1 241 18) then (f_X12_either_48 F P xS0 self_X12_both (f_X12_either_6 F P xS0 self_X12_both n) 241 v1 v2 0 q3) else ((self_X12_both 241 v1 q3).bind fun q4 => f_X12_either_48 F P xS0 self_X12_both (f_X12_either_6 F P xS0 self_X12_both n) 241 v1 v2 q4.1 q4.2)) else (some (v2, q1.2)))) := e_X12_either_6s F P self_X12_both (f_X12_either_6 F P xS0 self_X12_both n) v1 v2 D
set_option maxHeartbeats 2000000 in
theorem e_X12_either_o (F P : Nat) (self_X12_both : Nat → Int32 → xDt → Option (Int32 × xDt)) (v1 : Int32) (D : xDt) : f_X12_either_o F P xS0 self_X12_both 241 v1 D = ((self_X12_both 241 v1 D).bind fun q1 => f_X12_either_6 F P xS0 self_X12_both F 241 v1 q1.1 q1.2) := by
  unfold f_X12_either_o
  rfl
set_option maxHeartbeats 2000000 in
theorem e_X12_both_71 (F P : Nat) (self_X12_one : Nat → Int32 → Int32 → xDt → Option (Int32 × xDt)) (rec_7 : Nat → Int32 → Int32 → xDt → Option (Int32 × xDt)) (v1 : Int32) (s0 : Int32) (D : xDt) : f_X12_both_71 F P xS0 self_X12_one rec_7 241 v1 s0 D = (rec_7 241 v1 s0 D) := by
  unfold f_X12_both_71
  rfl
set_option maxHeartbeats 2000000 in
theorem e_X12_both_50 (F P : Nat) (self_X12_one : Nat → Int32 → Int32 → xDt → Option (Int32 × xDt)) (rec_7 : Nat → Int32 → Int32 → xDt → Option (Int32 × xDt)) (v1 : Int32) (v2 : Int32) (s0 : Int32) (D : xDt) : f_X12_both_50 F P xS0 self_X12_one rec_7 241 v1 v2 s0 D = (if 0 ≤ (D.1 241 18) then (f_X12_both_71 F P xS0 self_X12_one rec_7 241 v1 0 D) else ((f_X12_node F P xS0 241 13 v2 s0 0 D).bind fun q1 => f_X12_both_71 F P xS0 self_X12_one rec_7 241 v1 q1.1 q1.2)) := by
  unfold f_X12_both_50
  rfl
set_option maxHeartbeats 2000000 in
theorem e_X12_both_7s (F P : Nat) (self_X12_one : Nat → Int32 → Int32 → xDt → Option (Int32 × xDt)) (rec_7 : Nat → Int32 → Int32 → xDt → Option (Int32 × xDt)) (v1 : Int32) (v2 : Int32) (D : xDt) : f_X12_both_7s F P xS0 self_X12_one rec_7 241 v1 v2 D = (if 0 ≤ (D.1 241 18) then (some (v2, D)) else ((f_X12_look F P xS0 241 D).bind fun q1 => if q1.1 = 38 then ((f_X12_counts F P xS0 241 q1.2).bind fun q2 => (f_X12_must F P xS0 241 38 q2).bind fun q3 => if 0 ≤ (q3.1 241 18) then (f_X12_both_50 F P xS0 self_X12_one rec_7 241 v1 v2 0 q3) else ((self_X12_one 241 v1 0 q3).bind fun q4 => f_X12_both_50 F P xS0 self_X12_one rec_7 241 v1 v2 q4.1 q4.2)) else (some (v2, q1.2)))) := by
  unfold f_X12_both_7s
  rfl
theorem e_X12_both_7 (F P n : Nat) (self_X12_one : Nat → Int32 → Int32 → xDt → Option (Int32 × xDt)) (v1 : Int32) (v2 : Int32) (D : xDt) : f_X12_both_7 F P xS0 self_X12_one (n + 1) 241 v1 v2 D = (if 0 ≤ (D.1 241 18) then (some (v2, D)) else ((f_X12_look F P xS0 241 D).bind fun q1 => if q1.1 = 38 then ((f_X12_counts F P xS0 241 q1.2).bind fun q2 => (f_X12_must F P xS0 241 38 q2).bind fun q3 => if 0 ≤ (q3.1 241 18) then (f_X12_both_50 F P xS0 self_X12_one (f_X12_both_7 F P xS0 self_X12_one n) 241 v1 v2 0 q3) else ((self_X12_one 241 v1 0 q3).bind fun q4 => f_X12_both_50 F P xS0 self_X12_one (f_X12_both_7 F P xS0 self_X12_one n) 241 v1 v2 q4.1 q4.2)) else (some (v2, q1.2)))) := e_X12_both_7s F P self_X12_one (f_X12_both_7 F P xS0 self_X12_one n) v1 v2 D
set_option maxHeartbeats 2000000 in
theorem e_X12_both_o (F P : Nat) (self_X12_one : Nat → Int32 → Int32 → xDt → Option (Int32 × xDt)) (v1 : Int32) (D : xDt) : f_X12_both_o F P xS0 self_X12_one 241 v1 D = ((self_X12_one 241 v1 0 D).bind fun q1 => f_X12_both_7 F P xS0 self_X12_one F 241 v1 q1.1 q1.2) := by
  unfold f_X12_both_o
  rfl
set_option maxHeartbeats 2000000 in
theorem e_X12_one_60 (F P : Nat) (self_X12_formulaAt : Nat → Int32 → Int32 → xDt → Option (Int32 × xDt)) (self_X12_one : Nat → Int32 → Int32 → xDt → Option (Int32 × xDt)) (v3 : Int32) (s0 : Int32) (s1 : Int32) (s2 : Nat) (D : xDt) : f_X12_one_60 F P xS0 self_X12_formulaAt self_X12_one 241 v3 s0 s1 s2 D = (xlet (xup D.1 s2 17 (s1 + s0), D.2) fun D1 => if (D1.1 241 18) < 0 then (if v3 = 48 then ((f_X12_node F P xS0 241 2 (-2) (-2) 0 D1).bind fun q4 => some (q4.1, q4.2)) else (if v3 = 49 then ((f_X12_node F P xS0 241 3 (-2) (-2) 0 D1).bind fun q3 => some (q3.1, q3.2)) else ((f_X12_node F P xS0 241 1 (-2) (-2) (v3 - 97) D1).bind fun q2 => some (q2.1, q2.2)))) else (some (0, D1))) := by
  unfold f_X12_one_60
  rfl
set_option maxHeartbeats 2000000 in
theorem e_X12_one_39 (F P : Nat) (self_X12_formulaAt : Nat → Int32 → Int32 → xDt → Option (Int32 × xDt)) (self_X12_one : Nat → Int32 → Int32 → xDt → Option (Int32 × xDt)) (v3 : Int32) (D : xDt) : f_X12_one_39 F P xS0 self_X12_formulaAt self_X12_one 241 v3 D = ((f_X12_counts F P xS0 241 D).bind fun q1 => if 0 ≤ (q1.1 241 18) then (f_X12_one_60 F P xS0 self_X12_formulaAt self_X12_one 241 v3 0 (q1.1 241 17) 241 q1) else (f_X12_one_60 F P xS0 self_X12_formulaAt self_X12_one 241 v3 1 (q1.1 241 17) 241 q1)) := by
  unfold f_X12_one_39
  rfl
set_option maxHeartbeats 2000000 in
theorem e_X12_one_240 (F P : Nat) (self_X12_formulaAt : Nat → Int32 → Int32 → xDt → Option (Int32 × xDt)) (self_X12_one : Nat → Int32 → Int32 → xDt → Option (Int32 × xDt)) (v3 : Int32) (v4 : Int32) (s0 : Int32) (D : xDt) : f_X12_one_240 F P xS0 self_X12_formulaAt self_X12_one 241 v3 v4 s0 D = (if 0 ≤ (D.1 241 18) then (some (0, D)) else (if v3 = 91 then (f_X12_one_263 F P xS0 self_X12_formulaAt self_X12_one v4 s0 14 241 D) else (f_X12_one_263 F P xS0 self_X12_formulaAt self_X12_one v4 s0 15 241 D))) := by
  unfold f_X12_one_240
  rfl
set_option maxHeartbeats 2000000 in
theorem e_X12_one_212 (F P : Nat) (self_X12_formulaAt : Nat → Int32 → Int32 → xDt → Option (Int32 × xDt)) (self_X12_one : Nat → Int32 → Int32 → xDt → Option (Int32 × xDt)) (v1 : Int32) (v2 : Int32) (v3 : Int32) (s0 : Int32) (D : xDt) : f_X12_one_212 F P xS0 self_X12_formulaAt self_X12_one 241 v1 v2 v3 s0 D = ((f_X12_must F P xS0 241 (v3 + 2) D).bind fun q1 => if 0 ≤ (q1.1 241 18) then (f_X12_one_240 F P xS0 self_X12_formulaAt self_X12_one 241 v3 s0 0 q1) else ((self_X12_one 241 v1 (v2 + 1) q1).bind fun q2 => f_X12_one_240 F P xS0 self_X12_formulaAt self_X12_one 241 v3 s0 q2.1 q2.2)) := by
  unfold f_X12_one_212
  rfl
set_option maxHeartbeats 2000000 in
theorem e_X12_one_179 (F P : Nat) (self_X12_formulaAt : Nat → Int32 → Int32 → xDt → Option (Int32 × xDt)) (self_X12_one : Nat → Int32 → Int32 → xDt → Option (Int32 × xDt)) (v1 : Int32) (v2 : Int32) (v3 : Int32) (D : xDt) : f_X12_one_179 F P xS0 self_X12_formulaAt self_X12_one 241 v1 v2 v3 D = ((f_X12_counts F P xS0 241 D).bind fun q1 => (f_X12_must F P xS0 241 v3 q1).bind fun q2 => if 0 ≤ (q2.1 241 18) then (f_X12_one_212 F P xS0 self_X12_formulaAt self_X12_one 241 v1 v2 v3 0 q2) else ((self_X12_formulaAt 241 (v1 + 1) ((q2.1 241 17) - 1) q2).bind fun q3 => f_X12_one_212 F P xS0 self_X12_formulaAt self_X12_one 241 v1 v2 v3 q3.1 q3.2)) := by
  unfold f_X12_one_179
  rfl
set_option maxHeartbeats 2000000 in
theorem e_X12_one_423 (F P : Nat) (self_X12_formulaAt : Nat → Int32 → Int32 → xDt → Option (Int32 × xDt)) (self_X12_one : Nat → Int32 → Int32 → xDt → Option (Int32 × xDt)) (v4 : Int32) (v5 : Int32) (s0 : Int32) (D : xDt) : f_X12_one_423 F P xS0 self_X12_formulaAt self_X12_one 241 v4 v5 s0 D = (if 0 ≤ (D.1 241 18) then (some (0, D)) else ((f_X12_node F P xS0 241 v4 s0 (-2) v5 D).bind fun q1 => some (q1.1, q1.2))) := by
  unfold f_X12_one_423
  rfl
set_option maxHeartbeats 2000000 in
theorem e_X12_one_402 (F P : Nat) (self_X12_formulaAt : Nat → Int32 → Int32 → xDt → Option (Int32 × xDt)) (self_X12_one : Nat → Int32 → Int32 → xDt → Option (Int32 × xDt)) (v1 : Int32) (v2 : Int32) (v4 : Int32) (s0 : Int32) (D : xDt) : f_X12_one_402 F P xS0 self_X12_formulaAt self_X12_one 241 v1 v2 v4 s0 D = (if 0 ≤ (D.1 241 18) then (f_X12_one_423 F P xS0 self_X12_formulaAt self_X12_one 241 v4 s0 0 D) else ((self_X12_one 241 v1 (v2 + 1) D).bind fun q1 => f_X12_one_423 F P xS0 self_X12_formulaAt self_X12_one 241 v4 s0 q1.1 q1.2)) := by
  unfold f_X12_one_402
  rfl
set_option maxHeartbeats 2000000 in
theorem e_X12_one_395 (F P : Nat) (self_X12_formulaAt : Nat → Int32 → Int32 → xDt → Option (Int32 × xDt)) (self_X12_one : Nat → Int32 → Int32 → xDt → Option (Int32 × xDt)) (v1 : Int32) (v2 : Int32) (v4 : Int32) (s0 : Int32) (s1 : Nat) (D : xDt) : f_X12_one_395 F P xS0 self_X12_formulaAt self_X12_one 241 v1 v2 v4 s0 s1 D = ((f_X12_group F P xS0 s1 s0 D).bind fun q1 => f_X12_one_402 F P xS0 self_X12_formulaAt self_X12_one 241 v1 v2 v4 q1.1 q1.2) := by
  unfold f_X12_one_395
  rfl
set_option maxHeartbeats 2000000 in
theorem e_X12_one_390 (F P : Nat) (self_X12_formulaAt : Nat → Int32 → Int32 → xDt → Option (Int32 × xDt)) (self_X12_one : Nat → Int32 → Int32 → xDt → Option (Int32 × xDt)) (v1 : Int32) (v2 : Int32) (v4 : Int32) (s0 : Nat) (D : xDt) : f_X12_one_390 F P xS0 self_X12_formulaAt self_X12_one 241 v1 v2 v4 s0 D = (f_X12_one_395 F P xS0 self_X12_formulaAt self_X12_one 241 v1 v2 v4 1 s0 D) := by
  unfold f_X12_one_390
  rfl
set_option maxHeartbeats 2000000 in
theorem e_X12_one_401 (F P : Nat) (self_X12_formulaAt : Nat → Int32 → Int32 → xDt → Option (Int32 × xDt)) (self_X12_one : Nat → Int32 → Int32 → xDt → Option (Int32 × xDt)) (v1 : Int32) (v2 : Int32) (v4 : Int32) (D : xDt) : f_X12_one_401 F P xS0 self_X12_formulaAt self_X12_one 241 v1 v2 v4 D = (f_X12_one_402 F P xS0 self_X12_formulaAt self_X12_one 241 v1 v2 v4 0 D) := by
  unfold f_X12_one_401
  rfl
set_option maxHeartbeats 2000000 in
theorem e_X12_one_342 (F P : Nat) (self_X12_formulaAt : Nat → Int32 → Int32 → xDt → Option (Int32 × xDt)) (self_X12_one : Nat → Int32 → Int32 → xDt → Option (Int32 × xDt)) (v1 : Int32) (v2 : Int32) (v3 : Int32) (s0 : Int32) (D : xDt) : f_X12_one_342 F P xS0 self_X12_formulaAt self_X12_one 241 v1 v2 v3 s0 D = (if 0 ≤ s0 then ((f_X12_counts F P xS0 241 D).bind fun q1 => (f_X12_must F P xS0 241 v3 q1).bind fun q2 => if 0 ≤ (q2.1 241 18) then (f_X12_one_401 F P xS0 self_X12_formulaAt self_X12_one 241 v1 v2 s0 q2) else (if s0 = 4 then (f_X12_one_401 F P xS0 self_X12_formulaAt self_X12_one 241 v1 v2 s0 q2) else (if s0 = 5 then (f_X12_one_390 F P xS0 self_X12_formulaAt self_X12_one 241 v1 v2 s0 241 q2) else (if s0 = 6 then (f_X12_one_390 F P xS0 self_X12_formulaAt self_X12_one 241 v1 v2 s0 241 q2) else (f_X12_one_395 F P xS0 self_X12_formulaAt self_X12_one 241 v1 v2 s0 0 241 q2))))) else ((f_X12_bad F P xS0 241 D).bind fun q3 => some (q3.1, q3.2))) := by
  unfold f_X12_one_342
  rfl
set_option maxHeartbeats 2000000 in
theorem e_X12_one_o (F P : Nat) (self_X12_formulaAt : Nat → Int32 → Int32 → xDt → Option (Int32 × xDt)) (self_X12_one : Nat → Int32 → Int32 → xDt → Option (Int32 × xDt)) (v1 : Int32) (v2 : Int32) (D : xDt) : f_X12_one_o F P xS0 self_X12_formulaAt self_X12_one 241 v1 v2 D = ((f_X12_look F P xS0 241 D).bind fun q1 => if v2 ≤ 30 then ((f_X12_in F P xS0 q1.1 97 104 q1.2).bind fun q2 => if q2.1 = 0 then (if q1.1 = 48 then (f_X12_one_39 F P xS0 self_X12_formulaAt self_X12_one 241 q1.1 q2.2) else (if q1.1 = 49 then (f_X12_one_39 F P xS0 self_X12_formulaAt self_X12_one 241 q1.1 q2.2) else (if q1.1 = 40 then (xlet (xup q2.2.1 241 17 ((q2.2.1 241 17) + 1), q2.2.2) fun D3 => (self_X12_formulaAt 241 (v1 + 1) ((D3.1 241 17) - 1) D3).bind fun q4 => (f_X12_must F P xS0 241 41 q4.2).bind fun q5 => some (q4.1, q5)) else (if q1.1 = 91 then (f_X12_one_179 F P xS0 self_X12_formulaAt self_X12_one 241 v1 v2 q1.1 q2.2) else (if q1.1 = 123 then (f_X12_one_179 F P xS0 self_X12_formulaAt self_X12_one 241 v1 v2 q1.1 q2.2) else (if q1.1 = 126 then (f_X12_one_342 F P xS0 self_X12_formulaAt self_X12_one 241 v1 v2 q1.1 4 q2.2) else (if q1.1 = 75 then (f_X12_one_342 F P xS0 self_X12_formulaAt self_X12_one 241 v1 v2 q1.1 5 q2.2) else (if q1.1 = 80 then (f_X12_one_342 F P xS0 self_X12_formulaAt self_X12_one 241 v1 v2 q1.1 6 q2.2) else (if q1.1 = 69 then (f_X12_one_342 F P xS0 self_X12_formulaAt self_X12_one 241 v1 v2 q1.1 7 q2.2) else (if q1.1 = 67 then (f_X12_one_342 F P xS0 self_X12_formulaAt self_X12_one 241 v1 v2 q1.1 8 q2.2) else (if q1.1 = 68 then (f_X12_one_342 F P xS0 self_X12_formulaAt self_X12_one 241 v1 v2 q1.1 9 q2.2) else (f_X12_one_342 F P xS0 self_X12_formulaAt self_X12_one 241 v1 v2 q1.1 (-2) q2.2)))))))))))) else (f_X12_one_39 F P xS0 self_X12_formulaAt self_X12_one 241 q1.1 q2.2)) else ((f_X12_bad F P xS0 241 q1.2).bind fun q6 => some (q6.1, q6.2))) := by
  unfold f_X12_one_o
  rfl
set_option maxHeartbeats 2000000 in
theorem e_X12_moved_101 (F P : Nat) (rec_10 : Nat → Int32 → Int32 → Int32 → Int32 → xDt → Option (Int32 × xDt)) (v2 : Int32) (v3 : Int32) (v4 : Int32) (v5 : Int32) (s0 : Int32) (s1 : Int32) (s2 : Nat) (D : xDt) : f_X12_moved_101 F P xS0 rec_10 241 v2 v3 v4 v5 s0 s1 s2 D = (xgrd (xin s1 (xl xS0 s2)) (xlet (xup D.1 s2 (s1).toNatClampNeg s0, D.2) fun D2 => xgrd (xin (v2 + v5) 92800) (xgrd (xin v5 92800) (xlet (xup D2.1 250 (v5).toNatClampNeg (D2.1 250 (v2 + v5).toNatClampNeg), D2.2) fun D5 => xgrd (xin (v2 + v5) 92800) (xgrd (xin v5 92800) (xlet (xup D5.1 251 (v5).toNatClampNeg (D5.1 251 (v2 + v5).toNatClampNeg), D5.2) fun D8 => xlet (v5 + 1) fun v5_9 => rec_10 241 v2 v3 v4 v5_9 D8)))))) := by
  unfold f_X12_moved_101
  simp only [ll_250, ll_251, rr_241_11, rr_241_12]
set_option maxHeartbeats 2000000 in
theorem e_X12_moved_66 (F P : Nat) (rec_10 : Nat → Int32 → Int32 → Int32 → Int32 → xDt → Option (Int32 × xDt)) (v2 : Int32) (v3 : Int32) (v4 : Int32) (v5 : Int32) (s0 : Int32) (s1 : Int32) (s2 : Nat) (D : xDt) : f_X12_moved_66 F P xS0 rec_10 241 v2 v3 v4 v5 s0 s1 s2 D = (xgrd (xin s1 (xl xS0 s2)) (xlet (xup D.1 s2 (s1).toNatClampNeg s0, D.2) fun D2 => xgrd (xin (v2 + v5) 92800) (if 0 ≤ (D2.1 249 (v2 + v5).toNatClampNeg) then (xgrd (xin (v2 + v5) 92800) (f_X12_moved_101 F P xS0 rec_10 241 v2 v3 v4 v5 ((D2.1 249 (v2 + v5).toNatClampNeg) - v2) v5 249 D2)) else (f_X12_moved_101 F P xS0 rec_10 241 v2 v3 v4 v5 (-2) v5 249 D2)))) := by
  unfold f_X12_moved_66
  simp only [ll_249, rr_241_10]
set_option maxHeartbeats 2000000 in
theorem e_X12_moved_10s (F P : Nat) (rec_10 : Nat → Int32 → Int32 → Int32 → Int32 → xDt → Option (Int32 × xDt)) (v2 : Int32) (v3 : Int32) (v4 : Int32) (v5 : Int32) (D : xDt) : f_X12_moved_10s F P xS0 rec_10 241 v2 v3 v4 v5 D = (if v3 ≤ v5 then (some (v4 - v2, D)) else (xgrd (xin (v2 + v5) 92800) (xgrd (xin v5 92800) (xlet (xup D.1 247 (v5).toNatClampNeg (D.1 247 (v2 + v5).toNatClampNeg), D.2) fun D3 => xgrd (xin (v2 + v5) 92800) (if 0 ≤ (D3.1 248 (v2 + v5).toNatClampNeg) then (xgrd (xin (v2 + v5) 92800) (f_X12_moved_66 F P xS0 rec_10 241 v2 v3 v4 v5 ((D3.1 248 (v2 + v5).toNatClampNeg) - v2) v5 248 D3)) else (f_X12_moved_66 F P xS0 rec_10 241 v2 v3 v4 v5 (-2) v5 248 D3)))))) := by
  unfold f_X12_moved_10s
  simp only [ll_247, ll_248, rr_241_8, rr_241_9]
theorem e_X12_moved_10 (F P n : Nat) (v2 : Int32) (v3 : Int32) (v4 : Int32) (v5 : Int32) (D : xDt) : f_X12_moved_10 F P xS0 (n + 1) 241 v2 v3 v4 v5 D = (if v3 ≤ v5 then (some (v4 - v2, D)) else (xgrd (xin (v2 + v5) 92800) (xgrd (xin v5 92800) (xlet (xup D.1 247 (v5).toNatClampNeg (D.1 247 (v2 + v5).toNatClampNeg), D.2) fun D3 => xgrd (xin (v2 + v5) 92800) (if 0 ≤ (D3.1 248 (v2 + v5).toNatClampNeg) then (xgrd (xin (v2 + v5) 92800) (f_X12_moved_66 F P xS0 (f_X12_moved_10 F P xS0 n) 241 v2 v3 v4 v5 ((D3.1 248 (v2 + v5).toNatClampNeg) - v2) v5 248 D3)) else (f_X12_moved_66 F P xS0 (f_X12_moved_10 F P xS0 n) 241 v2 v3 v4 v5 (-2) v5 248 D3)))))) := e_X12_moved_10s F P (f_X12_moved_10 F P xS0 n) v2 v3 v4 v5 D
set_option maxHeartbeats 2000000 in
theorem e_X12_moved (F P : Nat) (v1 : Int32) (v2 : Int32) (v3 : Int32) (D : xDt) : f_X12_moved F P xS0 241 v1 v2 v3 D = ((f_X12_copied F P xS0 P 241 v1 D).bind fun q1 => f_X12_moved_10 F P xS0 F 241 v2 v3 q1.1 0 q1.2) := by
  unfold f_X12_moved
  rfl
set_option maxHeartbeats 2000000 in
theorem e_X12_formula_52 (F P : Nat) (v1 : Int32) (D : xDt) : f_X12_formula_52 F P xS0 241 v1 D = (xlet (xup D.1 241 16 0, D.2) fun D1 => if (D1.1 241 18) < 0 then (xlet (D1.1 241 13) fun v2_2 => xgrd (xin v1 92800) (xlet (D1.1 251 (v1).toNatClampNeg) fun v3_4 => (f_X12_moved F P xS0 241 v1 v2_2 v3_4 D1).bind fun q5 => xlet (xup q5.2.1 241 14 q5.1, q5.2.2) fun D6 => some (v3_4, D6))) else (some ((-10) - (D1.1 241 18), D1))) := by
  unfold f_X12_formula_52
  simp only [ll_251, rr_241_12]
set_option maxHeartbeats 2000000 in
theorem e_X12_formula (F P : Nat) (D : xDt) : f_X12_formula F P xS0 241 D = (xlet (xup D.1 241 17 0, D.2) fun D1 => xlet (xup D1.1 241 18 (-2), D1.2) fun D2 => xlet (xup D2.1 241 19 0, D2.2) fun D3 => xlet (xup D3.1 241 13 12800, D3.2) fun D4 => (f_X12_formulaAt F P xS0 P 241 0 (-2) D4).bind fun q5 => if 0 ≤ (q5.2.1 241 18) then (f_X12_formula_52 F P xS0 241 q5.1 q5.2) else ((f_X12_look F P xS0 241 q5.2).bind fun q6 => if q6.1 = (-2) then (f_X12_formula_52 F P xS0 241 q5.1 q6.2) else ((f_X12_bad F P xS0 241 q6.2).bind fun q7 => f_X12_formula_52 F P xS0 241 q5.1 q7.2))) := by
  unfold f_X12_formula
  rfl
set_option maxHeartbeats 2000000 in
theorem e_X12_ofAtom_38 (F P : Nat) (rec_5 : Nat → Int32 → Int64 → Int32 → xDt → Option (Int64 × xDt)) (v1 : Int32) (v4 : Int32) (s0 : Int64) (s1 : Int64) (D : xDt) : f_X12_ofAtom_38 F P xS0 rec_5 241 v1 v4 s0 s1 D = (xlet (s1 ||| s0) fun v2_1 => xlet (v4 + 1) fun v4_2 => rec_5 241 v1 v2_1 v4_2 D) := by
  unfold f_X12_ofAtom_38
  rfl
set_option maxHeartbeats 2000000 in
theorem e_X12_ofAtom_5s (F P : Nat) (rec_5 : Nat → Int32 → Int64 → Int32 → xDt → Option (Int64 × xDt)) (v1 : Int32) (v2 : Int64) (v4 : Int32) (D : xDt) : f_X12_ofAtom_5s F P xS0 rec_5 241 v1 v2 v4 D = (if (D.1 241 1) ≤ v4 then (some (v2, D)) else (xgrd (xin v4 64) (if ((jishr (D.1 242 (v4).toNatClampNeg) v1) &&& 1) = 1 then (f_X12_ofAtom_38 F P xS0 rec_5 241 v1 v4 (jlshl 1 v4) v2 D) else (f_X12_ofAtom_38 F P xS0 rec_5 241 v1 v4 0 v2 D)))) := by
  unfold f_X12_ofAtom_5s
  simp only [ll_242, rr_241_2]
theorem e_X12_ofAtom_5 (F P n : Nat) (v1 : Int32) (v2 : Int64) (v4 : Int32) (D : xDt) : f_X12_ofAtom_5 F P xS0 (n + 1) 241 v1 v2 v4 D = (if (D.1 241 1) ≤ v4 then (some (v2, D)) else (xgrd (xin v4 64) (if ((jishr (D.1 242 (v4).toNatClampNeg) v1) &&& 1) = 1 then (f_X12_ofAtom_38 F P xS0 (f_X12_ofAtom_5 F P xS0 n) 241 v1 v4 (jlshl 1 v4) v2 D) else (f_X12_ofAtom_38 F P xS0 (f_X12_ofAtom_5 F P xS0 n) 241 v1 v4 0 v2 D)))) := e_X12_ofAtom_5s F P (f_X12_ofAtom_5 F P xS0 n) v1 v2 v4 D
set_option maxHeartbeats 2000000 in
theorem e_X12_ofAtom (F P : Nat) (v1 : Int32) (D : xDt) : f_X12_ofAtom F P xS0 241 v1 D = (f_X12_ofAtom_5 F P xS0 F 241 v1 0 0 D) := by
  unfold f_X12_ofAtom
  rfl
set_option maxHeartbeats 2000000 in
theorem e_X12_reached_80 (F P : Nat) (rec_6 : Nat → Int32 → Int64 → Int64 → Int64 → xDt → Option (Int64 × xDt)) (rec_21 : Nat → Int32 → Int64 → Int64 → Int64 → Int32 → xDt → Option (Int64 × xDt)) (rec_30 : Nat → Int32 → Int64 → Int64 → Int64 → Int32 → Int32 → xDt → Option (Int64 × xDt)) (v1 : Int32) (v4 : Int64) (v8 : Int64) (v10 : Int32) (v11 : Int32) (s0 : Int64) (s1 : Int64) (D : xDt) : f_X12_reached_80 F P xS0 rec_6 rec_21 rec_30 241 v1 v4 v8 v10 v11 s0 s1 D = (xlet (s1 ||| s0) fun v6_1 => xlet (v11 + 1) fun v11_2 => rec_30 241 v1 v4 v6_1 v8 v10 v11_2 D) := by
  unfold f_X12_reached_80
  rfl
set_option maxHeartbeats 2000000 in
theorem e_X12_reached_89 (F P : Nat) (rec_6 : Nat → Int32 → Int64 → Int64 → Int64 → xDt → Option (Int64 × xDt)) (rec_21 : Nat → Int32 → Int64 → Int64 → Int64 → Int32 → xDt → Option (Int64 × xDt)) (v1 : Int32) (v4 : Int64) (v6 : Int64) (v8 : Int64) (v10 : Int32) (D : xDt) : f_X12_reached_89 F P xS0 rec_6 rec_21 241 v1 v4 v6 v8 v10 D = (xlet (v10 + 1) fun v10_1 => rec_21 241 v1 v4 v6 v8 v10_1 D) := by
  unfold f_X12_reached_89
  rfl
set_option maxHeartbeats 2000000 in
theorem e_X12_reached_30s (F P : Nat) (rec_6 : Nat → Int32 → Int64 → Int64 → Int64 → xDt → Option (Int64 × xDt)) (rec_21 : Nat → Int32 → Int64 → Int64 → Int64 → Int32 → xDt → Option (Int64 × xDt)) (rec_30 : Nat → Int32 → Int64 → Int64 → Int64 → Int32 → Int32 → xDt → Option (Int64 × xDt)) (v1 : Int32) (v4 : Int64) (v6 : Int64) (v8 : Int64) (v10 : Int32) (v11 : Int32) (D : xDt) : f_X12_reached_30s F P xS0 rec_6 rec_21 rec_30 241 v1 v4 v6 v8 v10 v11 D = (if (D.1 241 1) ≤ v11 then (f_X12_reached_89 F P xS0 rec_6 rec_21 241 v1 v4 v6 v8 v10 D) else (if ((jishr v1 (v10 - 1)) &&& 1) = 1 then (if (lg_cmp ((jlushr v8 v11) &&& 1) 1) = 0 then ((f_X12_cellOf F P xS0 241 v10 v11 D).bind fun q1 => f_X12_reached_80 F P xS0 rec_6 rec_21 rec_30 241 v1 v4 v8 v10 v11 (q1.1 &&& v4) v6 q1.2) else (f_X12_reached_80 F P xS0 rec_6 rec_21 rec_30 241 v1 v4 v8 v10 v11 0 v6 D)) else (f_X12_reached_89 F P xS0 rec_6 rec_21 241 v1 v4 v6 v8 v10 D))) := by
  unfold f_X12_reached_30s
  rfl
theorem e_X12_reached_30 (F P n : Nat) (rec_6 : Nat → Int32 → Int64 → Int64 → Int64 → xDt → Option (Int64 × xDt)) (rec_21 : Nat → Int32 → Int64 → Int64 → Int64 → Int32 → xDt → Option (Int64 × xDt)) (v1 : Int32) (v4 : Int64) (v6 : Int64) (v8 : Int64) (v10 : Int32) (v11 : Int32) (D : xDt) : f_X12_reached_30 F P xS0 rec_6 rec_21 (n + 1) 241 v1 v4 v6 v8 v10 v11 D = (if (D.1 241 1) ≤ v11 then (f_X12_reached_89 F P xS0 rec_6 rec_21 241 v1 v4 v6 v8 v10 D) else (if ((jishr v1 (v10 - 1)) &&& 1) = 1 then (if (lg_cmp ((jlushr v8 v11) &&& 1) 1) = 0 then ((f_X12_cellOf F P xS0 241 v10 v11 D).bind fun q1 => f_X12_reached_80 F P xS0 rec_6 rec_21 (f_X12_reached_30 F P xS0 rec_6 rec_21 n) 241 v1 v4 v8 v10 v11 (q1.1 &&& v4) v6 q1.2) else (f_X12_reached_80 F P xS0 rec_6 rec_21 (f_X12_reached_30 F P xS0 rec_6 rec_21 n) 241 v1 v4 v8 v10 v11 0 v6 D)) else (f_X12_reached_89 F P xS0 rec_6 rec_21 241 v1 v4 v6 v8 v10 D))) := e_X12_reached_30s F P rec_6 rec_21 (f_X12_reached_30 F P xS0 rec_6 rec_21 n) v1 v4 v6 v8 v10 v11 D
set_option maxHeartbeats 2000000 in
theorem e_X12_reached_21s (F P : Nat) (rec_6 : Nat → Int32 → Int64 → Int64 → Int64 → xDt → Option (Int64 × xDt)) (rec_21 : Nat → Int32 → Int64 → Int64 → Int64 → Int32 → xDt → Option (Int64 × xDt)) (v1 : Int32) (v4 : Int64) (v6 : Int64) (v8 : Int64) (v10 : Int32) (D : xDt) : f_X12_reached_21s F P xS0 rec_6 rec_21 241 v1 v4 v6 v8 v10 D = (if 4 < v10 then (rec_6 241 v1 v4 v6 v8 D) else (f_X12_reached_30 F P xS0 rec_6 rec_21 F 241 v1 v4 v6 v8 v10 0 D)) := by
  unfold f_X12_reached_21s
  rfl
theorem e_X12_reached_21 (F P n : Nat) (rec_6 : Nat → Int32 → Int64 → Int64 → Int64 → xDt → Option (Int64 × xDt)) (v1 : Int32) (v4 : Int64) (v6 : Int64) (v8 : Int64) (v10 : Int32) (D : xDt) : f_X12_reached_21 F P xS0 rec_6 (n + 1) 241 v1 v4 v6 v8 v10 D = (if 4 < v10 then (rec_6 241 v1 v4 v6 v8 D) else (f_X12_reached_30 F P xS0 rec_6 (f_X12_reached_21 F P xS0 rec_6 n) F 241 v1 v4 v6 v8 v10 0 D)) := e_X12_reached_21s F P rec_6 (f_X12_reached_21 F P xS0 rec_6 n) v1 v4 v6 v8 v10 D
set_option maxHeartbeats 2000000 in
theorem e_X12_reached_6s (F P : Nat) (rec_6 : Nat → Int32 → Int64 → Int64 → Int64 → xDt → Option (Int64 × xDt)) (v1 : Int32) (v4 : Int64) (v6 : Int64) (v8 : Int64) (D : xDt) : f_X12_reached_6s F P xS0 rec_6 241 v1 v4 v6 v8 D = (if (lg_cmp v6 v8) = 0 then (some (v6, D)) else (f_X12_reached_21 F P xS0 rec_6 F 241 v1 v4 v6 v6 1 D)) := by
  unfold f_X12_reached_6s
  rfl
theorem e_X12_reached_6 (F P n : Nat) (v1 : Int32) (v4 : Int64) (v6 : Int64) (v8 : Int64) (D : xDt) : f_X12_reached_6 F P xS0 (n + 1) 241 v1 v4 v6 v8 D = (if (lg_cmp v6 v8) = 0 then (some (v6, D)) else (f_X12_reached_21 F P xS0 (f_X12_reached_6 F P xS0 n) F 241 v1 v4 v6 v6 1 D)) := e_X12_reached_6s F P (f_X12_reached_6 F P xS0 n) v1 v4 v6 v8 D
set_option maxHeartbeats 2000000 in
theorem e_X12_reached (F P : Nat) (v1 : Int32) (v2 : Int64) (v4 : Int64) (D : xDt) : f_X12_reached F P xS0 241 v1 v2 v4 D = (f_X12_reached_6 F P xS0 F 241 v1 v4 v2 0 D) := by
  unfold f_X12_reached
  rfl
set_option maxHeartbeats 2000000 in
theorem e_X12_known_120 (F P : Nat) (rec_6 : Nat → Int32 → Int32 → Int64 → Int64 → Int64 → Int32 → xDt → Option (Int64 × xDt)) (rec_65 : Nat → Int32 → Int32 → Int64 → Int64 → Int64 → Int32 → Int64 → Int32 → xDt → Option (Int64 × xDt)) (v1 : Int32) (v2 : Int32) (v3 : Int64) (v5 : Int64) (v7 : Int64) (v9 : Int32) (v10 : Int64) (v12 : Int32) (D : xDt) : f_X12_known_120 F P xS0 rec_6 rec_65 241 v1 v2 v3 v5 v7 v9 v10 v12 D = (xlet (v12 + 1) fun v12_1 => rec_65 241 v1 v2 v3 v5 v7 v9 v10 v12_1 D) := by
  unfold f_X12_known_120
  rfl
set_option maxHeartbeats 2000000 in
theorem e_X12_known_118 (F P : Nat) (rec_6 : Nat → Int32 → Int32 → Int64 → Int64 → Int64 → Int32 → xDt → Option (Int64 × xDt)) (rec_65 : Nat → Int32 → Int32 → Int64 → Int64 → Int64 → Int32 → Int64 → Int32 → xDt → Option (Int64 × xDt)) (v1 : Int32) (v2 : Int32) (v3 : Int64) (v5 : Int64) (v7 : Int64) (v9 : Int32) (v12 : Int32) (s0 : Int64) (D : xDt) : f_X12_known_118 F P xS0 rec_6 rec_65 241 v1 v2 v3 v5 v7 v9 v12 s0 D = (f_X12_known_120 F P xS0 rec_6 rec_65 241 v1 v2 v3 v5 v7 v9 s0 v12 D) := by
  unfold f_X12_known_118
  rfl
set_option maxHeartbeats 2000000 in
theorem e_X12_known_155 (F P : Nat) (rec_6 : Nat → Int32 → Int32 → Int64 → Int64 → Int64 → Int32 → xDt → Option (Int64 × xDt)) (v1 : Int32) (v2 : Int32) (v3 : Int64) (v5 : Int64) (v7 : Int64) (v9 : Int32) (D : xDt) : f_X12_known_155 F P xS0 rec_6 241 v1 v2 v3 v5 v7 v9 D = (xlet (v9 + 1) fun v9_1 => rec_6 241 v1 v2 v3 v5 v7 v9_1 D) := by
  unfold f_X12_known_155
  rfl
set_option maxHeartbeats 2000000 in
theorem e_X12_known_152 (F P : Nat) (rec_6 : Nat → Int32 → Int32 → Int64 → Int64 → Int64 → Int32 → xDt → Option (Int64 × xDt)) (v1 : Int32) (v2 : Int32) (v3 : Int64) (v5 : Int64) (v9 : Int32) (s0 : Int64) (s1 : Int64) (D : xDt) : f_X12_known_152 F P xS0 rec_6 241 v1 v2 v3 v5 v9 s0 s1 D = (xlet (s1 ||| s0) fun v7_1 => f_X12_known_155 F P xS0 rec_6 241 v1 v2 v3 v5 v7_1 v9 D) := by
  unfold f_X12_known_152
  rfl
set_option maxHeartbeats 2000000 in
theorem e_X12_known_65s (F P : Nat) (rec_6 : Nat → Int32 → Int32 → Int64 → Int64 → Int64 → Int32 → xDt → Option (Int64 × xDt)) (rec_65 : Nat → Int32 → Int32 → Int64 → Int64 → Int64 → Int32 → Int64 → Int32 → xDt → Option (Int64 × xDt)) (v1 : Int32) (v2 : Int32) (v3 : Int64) (v5 : Int64) (v7 : Int64) (v9 : Int32) (v10 : Int64) (v12 : Int32) (D : xDt) : f_X12_known_65s F P xS0 rec_6 rec_65 241 v1 v2 v3 v5 v7 v9 v10 v12 D = (if 4 < v12 then (if (lg_cmp ((v10 &&& v5) &&& (v3 ^^^ (-1))) 0) = 0 then (f_X12_known_152 F P xS0 rec_6 241 v1 v2 v3 v5 v9 (jlshl 1 v9) v7 D) else (f_X12_known_152 F P xS0 rec_6 241 v1 v2 v3 v5 v9 0 v7 D)) else (if ((jishr v2 (v12 - 1)) &&& 1) = 1 then (if v1 = 8 then (f_X12_known_120 F P xS0 rec_6 rec_65 241 v1 v2 v3 v5 v7 v9 v10 v12 D) else ((f_X12_cellOf F P xS0 241 v12 v9 D).bind fun q1 => if v1 = 9 then (f_X12_known_118 F P xS0 rec_6 rec_65 241 v1 v2 v3 v5 v7 v9 v12 (v10 &&& q1.1) q1.2) else (f_X12_known_118 F P xS0 rec_6 rec_65 241 v1 v2 v3 v5 v7 v9 v12 (v10 ||| q1.1) q1.2))) else (f_X12_known_120 F P xS0 rec_6 rec_65 241 v1 v2 v3 v5 v7 v9 v10 v12 D))) := by
  unfold f_X12_known_65s
  rfl
theorem e_X12_known_65 (F P n : Nat) (rec_6 : Nat → Int32 → Int32 → Int64 → Int64 → Int64 → Int32 → xDt → Option (Int64 × xDt)) (v1 : Int32) (v2 : Int32) (v3 : Int64) (v5 : Int64) (v7 : Int64) (v9 : Int32) (v10 : Int64) (v12 : Int32) (D : xDt) : f_X12_known_65 F P xS0 rec_6 (n + 1) 241 v1 v2 v3 v5 v7 v9 v10 v12 D = (if 4 < v12 then (if (lg_cmp ((v10 &&& v5) &&& (v3 ^^^ (-1))) 0) = 0 then (f_X12_known_152 F P xS0 rec_6 241 v1 v2 v3 v5 v9 (jlshl 1 v9) v7 D) else (f_X12_known_152 F P xS0 rec_6 241 v1 v2 v3 v5 v9 0 v7 D)) else (if ((jishr v2 (v12 - 1)) &&& 1) = 1 then (if v1 = 8 then (f_X12_known_120 F P xS0 rec_6 (f_X12_known_65 F P xS0 rec_6 n) 241 v1 v2 v3 v5 v7 v9 v10 v12 D) else ((f_X12_cellOf F P xS0 241 v12 v9 D).bind fun q1 => if v1 = 9 then (f_X12_known_118 F P xS0 rec_6 (f_X12_known_65 F P xS0 rec_6 n) 241 v1 v2 v3 v5 v7 v9 v12 (v10 &&& q1.1) q1.2) else (f_X12_known_118 F P xS0 rec_6 (f_X12_known_65 F P xS0 rec_6 n) 241 v1 v2 v3 v5 v7 v9 v12 (v10 ||| q1.1) q1.2))) else (f_X12_known_120 F P xS0 rec_6 (f_X12_known_65 F P xS0 rec_6 n) 241 v1 v2 v3 v5 v7 v9 v10 v12 D))) := e_X12_known_65s F P rec_6 (f_X12_known_65 F P xS0 rec_6 n) v1 v2 v3 v5 v7 v9 v10 v12 D
set_option maxHeartbeats 2000000 in
theorem e_X12_known_60 (F P : Nat) (rec_6 : Nat → Int32 → Int32 → Int64 → Int64 → Int64 → Int32 → xDt → Option (Int64 × xDt)) (v1 : Int32) (v2 : Int32) (v3 : Int64) (v5 : Int64) (v7 : Int64) (v9 : Int32) (s0 : Int64) (D : xDt) : f_X12_known_60 F P xS0 rec_6 241 v1 v2 v3 v5 v7 v9 s0 D = (f_X12_known_65 F P xS0 rec_6 F 241 v1 v2 v3 v5 v7 v9 s0 1 D) := by
  unfold f_X12_known_60
  rfl
set_option maxHeartbeats 2000000 in
theorem e_X12_known_6s (F P : Nat) (rec_6 : Nat → Int32 → Int32 → Int64 → Int64 → Int64 → Int32 → xDt → Option (Int64 × xDt)) (v1 : Int32) (v2 : Int32) (v3 : Int64) (v5 : Int64) (v7 : Int64) (v9 : Int32) (D : xDt) : f_X12_known_6s F P xS0 rec_6 241 v1 v2 v3 v5 v7 v9 D = (if (D.1 241 1) ≤ v9 then (some (v7, D)) else (if (lg_cmp ((jlushr v5 v9) &&& 1) 1) = 0 then (if v1 = 8 then ((f_X12_reached F P xS0 241 v2 (jlshl 1 v9) v5 D).bind fun q1 => f_X12_known_60 F P xS0 rec_6 241 v1 v2 v3 v5 v7 v9 q1.1 q1.2) else (if v1 = 9 then (f_X12_known_60 F P xS0 rec_6 241 v1 v2 v3 v5 v7 v9 (-1) D) else (f_X12_known_60 F P xS0 rec_6 241 v1 v2 v3 v5 v7 v9 0 D))) else (f_X12_known_155 F P xS0 rec_6 241 v1 v2 v3 v5 v7 v9 D))) := by
  unfold f_X12_known_6s
  rfl
theorem e_X12_known_6 (F P n : Nat) (v1 : Int32) (v2 : Int32) (v3 : Int64) (v5 : Int64) (v7 : Int64) (v9 : Int32) (D : xDt) : f_X12_known_6 F P xS0 (n + 1) 241 v1 v2 v3 v5 v7 v9 D = (if (D.1 241 1) ≤ v9 then (some (v7, D)) else (if (lg_cmp ((jlushr v5 v9) &&& 1) 1) = 0 then (if v1 = 8 then ((f_X12_reached F P xS0 241 v2 (jlshl 1 v9) v5 D).bind fun q1 => f_X12_known_60 F P xS0 (f_X12_known_6 F P xS0 n) 241 v1 v2 v3 v5 v7 v9 q1.1 q1.2) else (if v1 = 9 then (f_X12_known_60 F P xS0 (f_X12_known_6 F P xS0 n) 241 v1 v2 v3 v5 v7 v9 (-1) D) else (f_X12_known_60 F P xS0 (f_X12_known_6 F P xS0 n) 241 v1 v2 v3 v5 v7 v9 0 D))) else (f_X12_known_155 F P xS0 (f_X12_known_6 F P xS0 n) 241 v1 v2 v3 v5 v7 v9 D))) := e_X12_known_6s F P (f_X12_known_6 F P xS0 n) v1 v2 v3 v5 v7 v9 D
set_option maxHeartbeats 2000000 in
theorem e_X12_known (F P : Nat) (v1 : Int32) (v2 : Int32) (v3 : Int64) (v5 : Int64) (D : xDt) : f_X12_known F P xS0 241 v1 v2 v3 v5 D = (f_X12_known_6 F P xS0 F 241 v1 v2 v3 v5 0 0 D) := by
  unfold f_X12_known
  rfl
set_option maxHeartbeats 2000000 in
theorem e_X12_where_191 (F P : Nat) (self_X12_where : Nat → Int32 → Int64 → xDt → Option (Int64 × xDt)) (v1 : Int32) (v2 : Int64) (v4 : Int64) (s0 : Int64) (D : xDt) : f_X12_where_191 F P xS0 self_X12_where 241 v1 v2 v4 s0 D = (xgrd (xin v1 92800) (if (D.1 247 (v1).toNatClampNeg) = 4 then (some (v2 &&& (v4 ^^^ (-1)), D)) else (if (D.1 247 (v1).toNatClampNeg) = 5 then (xgrd (xin v1 92800) (xgrd (xin v1 92800) ((f_X12_known F P xS0 241 (D.1 247 (v1).toNatClampNeg) (D.1 250 (v1).toNatClampNeg) v4 v2 D).bind fun q4 => some (q4.1, q4.2)))) else (if (D.1 247 (v1).toNatClampNeg) = 6 then (xgrd (xin v1 92800) ((f_X12_known F P xS0 241 5 (D.1 250 (v1).toNatClampNeg) (v2 &&& (v4 ^^^ (-1))) v2 D).bind fun q6 => some (v2 &&& (q6.1 ^^^ (-1)), q6.2))) else (if (D.1 247 (v1).toNatClampNeg) = 7 then (xgrd (xin v1 92800) (xgrd (xin v1 92800) ((f_X12_known F P xS0 241 (D.1 247 (v1).toNatClampNeg) (D.1 250 (v1).toNatClampNeg) v4 v2 D).bind fun q9 => some (q9.1, q9.2)))) else (if (D.1 247 (v1).toNatClampNeg) = 8 then (xgrd (xin v1 92800) (xgrd (xin v1 92800) ((f_X12_known F P xS0 241 (D.1 247 (v1).toNatClampNeg) (D.1 250 (v1).toNatClampNeg) v4 v2 D).bind fun q12 => some (q12.1, q12.2)))) else (if (D.1 247 (v1).toNatClampNeg) = 9 then (xgrd (xin v1 92800) (xgrd (xin v1 92800) ((f_X12_known F P xS0 241 (D.1 247 (v1).toNatClampNeg) (D.1 250 (v1).toNatClampNeg) v4 v2 D).bind fun q15 => some (q15.1, q15.2)))) else (if (D.1 247 (v1).toNatClampNeg) = 10 then (some (v2 &&& ((v4 ^^^ s0) ^^^ (-1)), D)) else (if (D.1 247 (v1).toNatClampNeg) = 11 then (some ((v2 &&& (v4 ^^^ (-1))) ||| s0, D)) else (if (D.1 247 (v1).toNatClampNeg) = 12 then (some (v4 ||| s0, D)) else (if (D.1 247 (v1).toNatClampNeg) = 13 then (some (v4 &&& s0, D)) else (xgrd (xin v1 92800) (xgrd (xin v1 92800) ((f_X12_known F P xS0 241 (D.1 247 (v1).toNatClampNeg) (D.1 250 (v1).toNatClampNeg) v4 v2 D).bind fun q18 => some (q18.1, q18.2))))))))))))))) := by
  unfold f_X12_where_191
  simp only [ll_247, ll_250, rr_241_11, rr_241_8]
set_option maxHeartbeats 2000000 in
theorem e_X12_where_o (F P : Nat) (self_X12_where : Nat → Int32 → Int64 → xDt → Option (Int64 × xDt)) (v1 : Int32) (v2 : Int64) (D : xDt) : f_X12_where_o F P xS0 self_X12_where 241 v1 v2 D = (xgrd (xin v1 92800) (if (D.1 247 (v1).toNatClampNeg) = 1 then (xgrd (xin v1 92800) ((f_X12_ofAtom F P xS0 241 (D.1 250 (v1).toNatClampNeg) D).bind fun q3 => some (q3.1 &&& v2, q3.2))) else (if (D.1 247 (v1).toNatClampNeg) = 2 then (some (0, D)) else (if (D.1 247 (v1).toNatClampNeg) = 3 then (some (v2, D)) else (if (D.1 247 (v1).toNatClampNeg) = 4 then (xgrd (xin v1 92800) ((self_X12_where 241 (D.1 248 (v1).toNatClampNeg) v2 D).bind fun q5 => xgrd (xin v1 92800) (if 0 ≤ (q5.2.1 249 (v1).toNatClampNeg) then (xgrd (xin v1 92800) ((self_X12_where 241 (q5.2.1 249 (v1).toNatClampNeg) v2 q5.2).bind fun q8 => f_X12_where_191 F P xS0 self_X12_where 241 v1 v2 q5.1 q8.1 q8.2)) else (f_X12_where_191 F P xS0 self_X12_where 241 v1 v2 q5.1 0 q5.2)))) else (if (D.1 247 (v1).toNatClampNeg) = 5 then (xgrd (xin v1 92800) ((self_X12_where 241 (D.1 248 (v1).toNatClampNeg) v2 D).bind fun q10 => xgrd (xin v1 92800) (if 0 ≤ (q10.2.1 249 (v1).toNatClampNeg) then (xgrd (xin v1 92800) ((self_X12_where 241 (q10.2.1 249 (v1).toNatClampNeg) v2 q10.2).bind fun q13 => f_X12_where_191 F P xS0 self_X12_where 241 v1 v2 q10.1 q13.1 q13.2)) else (f_X12_where_191 F P xS0 self_X12_where 241 v1 v2 q10.1 0 q10.2)))) else (if (D.1 247 (v1).toNatClampNeg) = 6 then (xgrd (xin v1 92800) ((self_X12_where 241 (D.1 248 (v1).toNatClampNeg) v2 D).bind fun q15 => xgrd (xin v1 92800) (if 0 ≤ (q15.2.1 249 (v1).toNatClampNeg) then (xgrd (xin v1 92800) ((self_X12_where 241 (q15.2.1 249 (v1).toNatClampNeg) v2 q15.2).bind fun q18 => f_X12_where_191 F P xS0 self_X12_where 241 v1 v2 q15.1 q18.1 q18.2)) else (f_X12_where_191 F P xS0 self_X12_where 241 v1 v2 q15.1 0 q15.2)))) else (if (D.1 247 (v1).toNatClampNeg) = 7 then (xgrd (xin v1 92800) ((self_X12_where 241 (D.1 248 (v1).toNatClampNeg) v2 D).bind fun q20 => xgrd (xin v1 92800) (if 0 ≤ (q20.2.1 249 (v1).toNatClampNeg) then (xgrd (xin v1 92800) ((self_X12_where 241 (q20.2.1 249 (v1).toNatClampNeg) v2 q20.2).bind fun q23 => f_X12_where_191 F P xS0 self_X12_where 241 v1 v2 q20.1 q23.1 q23.2)) else (f_X12_where_191 F P xS0 self_X12_where 241 v1 v2 q20.1 0 q20.2)))) else (if (D.1 247 (v1).toNatClampNeg) = 8 then (xgrd (xin v1 92800) ((self_X12_where 241 (D.1 248 (v1).toNatClampNeg) v2 D).bind fun q25 => xgrd (xin v1 92800) (if 0 ≤ (q25.2.1 249 (v1).toNatClampNeg) then (xgrd (xin v1 92800) ((self_X12_where 241 (q25.2.1 249 (v1).toNatClampNeg) v2 q25.2).bind fun q28 => f_X12_where_191 F P xS0 self_X12_where 241 v1 v2 q25.1 q28.1 q28.2)) else (f_X12_where_191 F P xS0 self_X12_where 241 v1 v2 q25.1 0 q25.2)))) else (if (D.1 247 (v1).toNatClampNeg) = 9 then (xgrd (xin v1 92800) ((self_X12_where 241 (D.1 248 (v1).toNatClampNeg) v2 D).bind fun q30 => xgrd (xin v1 92800) (if 0 ≤ (q30.2.1 249 (v1).toNatClampNeg) then (xgrd (xin v1 92800) ((self_X12_where 241 (q30.2.1 249 (v1).toNatClampNeg) v2 q30.2).bind fun q33 => f_X12_where_191 F P xS0 self_X12_where 241 v1 v2 q30.1 q33.1 q33.2)) else (f_X12_where_191 F P xS0 self_X12_where 241 v1 v2 q30.1 0 q30.2)))) else (if (D.1 247 (v1).toNatClampNeg) = 10 then (xgrd (xin v1 92800) ((self_X12_where 241 (D.1 248 (v1).toNatClampNeg) v2 D).bind fun q35 => xgrd (xin v1 92800) (if 0 ≤ (q35.2.1 249 (v1).toNatClampNeg) then (xgrd (xin v1 92800) ((self_X12_where 241 (q35.2.1 249 (v1).toNatClampNeg) v2 q35.2).bind fun q38 => f_X12_where_191 F P xS0 self_X12_where 241 v1 v2 q35.1 q38.1 q38.2)) else (f_X12_where_191 F P xS0 self_X12_where 241 v1 v2 q35.1 0 q35.2)))) else (if (D.1 247 (v1).toNatClampNeg) = 11 then (xgrd (xin v1 92800) ((self_X12_where 241 (D.1 248 (v1).toNatClampNeg) v2 D).bind fun q40 => xgrd (xin v1 92800) (if 0 ≤ (q40.2.1 249 (v1).toNatClampNeg) then (xgrd (xin v1 92800) ((self_X12_where 241 (q40.2.1 249 (v1).toNatClampNeg) v2 q40.2).bind fun q43 => f_X12_where_191 F P xS0 self_X12_where 241 v1 v2 q40.1 q43.1 q43.2)) else (f_X12_where_191 F P xS0 self_X12_where 241 v1 v2 q40.1 0 q40.2)))) else (if (D.1 247 (v1).toNatClampNeg) = 12 then (xgrd (xin v1 92800) ((self_X12_where 241 (D.1 248 (v1).toNatClampNeg) v2 D).bind fun q45 => xgrd (xin v1 92800) (if 0 ≤ (q45.2.1 249 (v1).toNatClampNeg) then (xgrd (xin v1 92800) ((self_X12_where 241 (q45.2.1 249 (v1).toNatClampNeg) v2 q45.2).bind fun q48 => f_X12_where_191 F P xS0 self_X12_where 241 v1 v2 q45.1 q48.1 q48.2)) else (f_X12_where_191 F P xS0 self_X12_where 241 v1 v2 q45.1 0 q45.2)))) else (if (D.1 247 (v1).toNatClampNeg) = 13 then (xgrd (xin v1 92800) ((self_X12_where 241 (D.1 248 (v1).toNatClampNeg) v2 D).bind fun q50 => xgrd (xin v1 92800) (if 0 ≤ (q50.2.1 249 (v1).toNatClampNeg) then (xgrd (xin v1 92800) ((self_X12_where 241 (q50.2.1 249 (v1).toNatClampNeg) v2 q50.2).bind fun q53 => f_X12_where_191 F P xS0 self_X12_where 241 v1 v2 q50.1 q53.1 q53.2)) else (f_X12_where_191 F P xS0 self_X12_where 241 v1 v2 q50.1 0 q50.2)))) else (if (D.1 247 (v1).toNatClampNeg) = 14 then (xgrd (xin v1 92800) ((self_X12_where 241 (D.1 248 (v1).toNatClampNeg) v2 D).bind fun q55 => xgrd (xin v1 92800) ((self_X12_where 241 (q55.2.1 249 (v1).toNatClampNeg) q55.1 q55.2).bind fun q57 => some ((v2 &&& (q55.1 ^^^ (-1))) ||| q57.1, q57.2)))) else (if (D.1 247 (v1).toNatClampNeg) = 15 then (xgrd (xin v1 92800) (xgrd (xin v1 92800) ((self_X12_where 241 (D.1 248 (v1).toNatClampNeg) v2 D).bind fun q60 => (self_X12_where 241 (D.1 249 (v1).toNatClampNeg) q60.1 q60.2).bind fun q61 => some (q61.1, q61.2)))) else (xgrd (xin v1 92800) ((self_X12_where 241 (D.1 248 (v1).toNatClampNeg) v2 D).bind fun q63 => xgrd (xin v1 92800) (if 0 ≤ (q63.2.1 249 (v1).toNatClampNeg) then (xgrd (xin v1 92800) ((self_X12_where 241 (q63.2.1 249 (v1).toNatClampNeg) v2 q63.2).bind fun q66 => f_X12_where_191 F P xS0 self_X12_where 241 v1 v2 q63.1 q66.1 q66.2)) else (f_X12_where_191 F P xS0 self_X12_where 241 v1 v2 q63.1 0 q63.2)))))))))))))))))))) := by
  unfold f_X12_where_o
  simp only [ll_247, ll_248, ll_249, ll_250, rr_241_10, rr_241_11, rr_241_8, rr_241_9]
set_option maxHeartbeats 2000000 in
theorem e_X12_holds (F P : Nat) (v1 : Int32) (D : xDt) : f_X12_holds F P xS0 241 v1 D = ((f_X12_isWorld F P xS0 241 v1 D).bind fun q1 => if q1.1 = 0 then (some ((-1), q1.2)) else ((f_X12_all F P xS0 241 q1.2).bind fun q2 => (f_X12_where F P xS0 P 241 (q1.2.1 241 14) q2.1 q2.2).bind fun q3 => some (((jlushr q3.1 v1) &&& 1).toInt32, q3.2))) := by
  unfold f_X12_holds
  rfl
set_option maxHeartbeats 2000000 in
theorem e_X12_worlds (F P : Nat) (D : xDt) : f_X12_worlds F P xS0 241 D = ((f_X12_all F P xS0 241 D).bind fun q1 => (f_X12_where F P xS0 P 241 (D.1 241 14) q1.1 q1.2).bind fun q2 => (f_X12_size F P xS0 q2.1 q2.2).bind fun q3 => some (q3.1, q3.2)) := by
  unfold f_X12_worlds
  rfl
set_option maxHeartbeats 2000000 in
theorem e_X12_put (F P : Nat) (v1 : Int32) (D : xDt) : f_X12_put F P xS0 241 v1 D = (if 20000 ≤ (D.1 241 21) then (some D) else (xgrd (xin (D.1 241 21) 20000) (xlet (xup D.1 253 (D.1 241 21).toNatClampNeg (ji2b (ji2b v1)), D.2) fun D2 => xlet (xup D2.1 241 21 ((D2.1 241 21) + 1), D2.2) fun D3 => some D3))) := by
  unfold f_X12_put
  simp only [ll_253, rr_241_20]
set_option maxHeartbeats 2000000 in
theorem e_X12_putGroup_26 (F P : Nat) (rec_2 : Nat → Int32 → Int32 → xDt → Option (xDt)) (v1 : Int32) (v2 : Int32) (D : xDt) : f_X12_putGroup_26 F P xS0 rec_2 241 v1 v2 D = (xlet (v2 + 1) fun v2_1 => rec_2 241 v1 v2_1 D) := by
  unfold f_X12_putGroup_26
  rfl
set_option maxHeartbeats 2000000 in
theorem e_X12_putGroup_2s (F P : Nat) (rec_2 : Nat → Int32 → Int32 → xDt → Option (xDt)) (v1 : Int32) (v2 : Int32) (D : xDt) : f_X12_putGroup_2s F P xS0 rec_2 241 v1 v2 D = (if 4 < v2 then (some D) else (if ((jishr v1 (v2 - 1)) &&& 1) = 1 then ((f_X12_put F P xS0 241 (48 + v2) D).bind fun q1 => f_X12_putGroup_26 F P xS0 rec_2 241 v1 v2 q1) else (f_X12_putGroup_26 F P xS0 rec_2 241 v1 v2 D))) := by
  unfold f_X12_putGroup_2s
  rfl
theorem e_X12_putGroup_2 (F P n : Nat) (v1 : Int32) (v2 : Int32) (D : xDt) : f_X12_putGroup_2 F P xS0 (n + 1) 241 v1 v2 D = (if 4 < v2 then (some D) else (if ((jishr v1 (v2 - 1)) &&& 1) = 1 then ((f_X12_put F P xS0 241 (48 + v2) D).bind fun q1 => f_X12_putGroup_26 F P xS0 (f_X12_putGroup_2 F P xS0 n) 241 v1 v2 q1) else (f_X12_putGroup_26 F P xS0 (f_X12_putGroup_2 F P xS0 n) 241 v1 v2 D))) := e_X12_putGroup_2s F P (f_X12_putGroup_2 F P xS0 n) v1 v2 D
set_option maxHeartbeats 2000000 in
theorem e_X12_putGroup (F P : Nat) (v1 : Int32) (D : xDt) : f_X12_putGroup F P xS0 241 v1 D = (f_X12_putGroup_2 F P xS0 F 241 v1 1 D) := by
  unfold f_X12_putGroup
  rfl
set_option maxHeartbeats 2000000 in
theorem e_X12_write_29 (F P : Nat) (self_X12_write : Nat → Int32 → Int32 → xDt → Option (xDt)) (v1 : Int32) (v2 : Int32) (v3 : Int32) (D : xDt) : f_X12_write_29 F P xS0 self_X12_write 241 v1 v2 v3 D = (xgrd (xin v1 92800) ((self_X12_write 241 (D.1 248 (v1).toNatClampNeg) 0 D).bind fun q2 => (f_J0_charAt_5068e F P xS0 3 v3 q2).bind fun q3 => (f_X12_put F P xS0 241 q3.1 q3.2).bind fun q4 => xgrd (xin v1 92800) ((self_X12_write 241 (q4.1 249 (v1).toNatClampNeg) 0 q4).bind fun q6 => if v2 = 0 then ((f_X12_put F P xS0 241 41 q6).bind fun q7 => some q7) else (some q6)))) := by
  unfold f_X12_write_29
  simp only [ll_248, ll_249, rr_241_10, rr_241_9]
set_option maxHeartbeats 2000000 in
theorem e_X12_write_152 (F P : Nat) (self_X12_write : Nat → Int32 → Int32 → xDt → Option (xDt)) (v1 : Int32) (s0 : Int32) (s1 : Nat) (D : xDt) : f_X12_write_152 F P xS0 self_X12_write 241 v1 s0 s1 D = ((f_X12_put F P xS0 s1 s0 D).bind fun q1 => xgrd (xin v1 92800) ((self_X12_write 241 (q1.1 249 (v1).toNatClampNeg) 0 q1).bind fun q3 => some q3)) := by
  unfold f_X12_write_152
  simp only [ll_249, rr_241_10]
set_option maxHeartbeats 2000000 in
theorem e_X12_write_72 (F P : Nat) (self_X12_write : Nat → Int32 → Int32 → xDt → Option (xDt)) (v1 : Int32) (v3 : Int32) (D : xDt) : f_X12_write_72 F P xS0 self_X12_write 241 v1 v3 D = (if 4 ≤ v3 then ((f_J0_charAt_5068e F P xS0 3 v3 D).bind fun q1 => (f_X12_put F P xS0 241 q1.1 q1.2).bind fun q2 => if v3 < 14 then (xgrd (xin v1 92800) ((f_X12_putGroup F P xS0 241 (q2.1 250 (v1).toNatClampNeg) q2).bind fun q4 => xgrd (xin v1 92800) ((self_X12_write 241 (q4.1 248 (v1).toNatClampNeg) 0 q4).bind fun q6 => some q6))) else (xgrd (xin v1 92800) ((self_X12_write 241 (q2.1 248 (v1).toNatClampNeg) 1 q2).bind fun q8 => if v3 = 14 then (f_X12_write_152 F P xS0 self_X12_write 241 v1 93 241 q8) else (f_X12_write_152 F P xS0 self_X12_write 241 v1 125 241 q8)))) else (if v3 = 1 then (xgrd (xin v1 92800) (f_X12_write_107 F P xS0 self_X12_write (97 + (D.1 250 (v1).toNatClampNeg)) 241 D)) else (if v3 = 2 then (f_X12_write_107 F P xS0 self_X12_write 48 241 D) else (f_X12_write_107 F P xS0 self_X12_write 49 241 D)))) := by
  unfold f_X12_write_72
  simp only [ll_248, ll_250, rr_241_11, rr_241_9]
set_option maxHeartbeats 2000000 in
theorem e_X12_write_o (F P : Nat) (self_X12_write : Nat → Int32 → Int32 → xDt → Option (xDt)) (v1 : Int32) (v2 : Int32) (D : xDt) : f_X12_write_o F P xS0 self_X12_write 241 v1 v2 D = (xgrd (xin v1 92800) (xlet (D.1 247 (v1).toNatClampNeg) fun v3_2 => if v3_2 < 10 then (f_X12_write_72 F P xS0 self_X12_write 241 v1 v3_2 D) else (if 13 < v3_2 then (f_X12_write_72 F P xS0 self_X12_write 241 v1 v3_2 D) else (if v2 = 0 then ((f_X12_put F P xS0 241 40 D).bind fun q3 => f_X12_write_29 F P xS0 self_X12_write 241 v1 v2 v3_2 q3) else (f_X12_write_29 F P xS0 self_X12_write 241 v1 v2 v3_2 D))))) := by
  unfold f_X12_write_o
  simp only [ll_247, rr_241_8]
set_option maxHeartbeats 2000000 in
theorem e_X12_tell (F P : Nat) (D : xDt) : f_X12_tell F P xS0 241 D = (xlet (xup D.1 241 21 0, D.2) fun D1 => (f_X12_write F P xS0 P 241 (D1.1 241 14) 1 D1).bind fun q2 => some (q2.1 241 21, q2)) := by
  unfold f_X12_tell
  rfl
set_option maxHeartbeats 2000000 in
theorem e_X12_letter (F P : Nat) (v1 : Int32) (D : xDt) : f_X12_letter F P xS0 241 v1 D = ((f_X12_in F P xS0 v1 0 ((D.1 241 21) - 1) D).bind fun q1 => if q1.1 = 0 then (some ((-2), q1.2)) else (xgrd (xin v1 20000) (some (q1.2.1 253 (v1).toNatClampNeg, q1.2)))) := by
  unfold f_X12_letter
  simp only [ll_253, rr_241_20]
set_option maxHeartbeats 2000000 in
theorem e_X12_shrink_171 (F P : Nat) (rec_47 : Nat → Int64 → Nat → Int32 → Int32 → xDt → Option (xDt)) (rec_83 : Nat → Int64 → Nat → Int32 → Int32 → Int32 → xDt → Option (xDt)) (v1 : Int64) (v3 : Nat) (v4 : Int32) (v5 : Int32) (v6 : Int32) (D : xDt) : f_X12_shrink_171 F P xS0 rec_47 rec_83 241 v1 v3 v4 v5 v6 D = (xlet (v6 + 1) fun v6_1 => rec_83 241 v1 v3 v4 v5 v6_1 D) := by
  unfold f_X12_shrink_171
  rfl
set_option maxHeartbeats 2000000 in
theorem e_X12_shrink_148 (F P : Nat) (rec_47 : Nat → Int64 → Nat → Int32 → Int32 → xDt → Option (xDt)) (rec_83 : Nat → Int64 → Nat → Int32 → Int32 → Int32 → xDt → Option (xDt)) (v1 : Int64) (v3 : Nat) (v4 : Int32) (v5 : Int32) (v6 : Int32) (v7 : Int32) (s0 : Int32) (s1 : Int32) (s2 : Nat) (D : xDt) : f_X12_shrink_148 F P xS0 rec_47 rec_83 241 v1 v3 v4 v5 v6 v7 s0 s1 s2 D = (xgrd (xin s1 (xl xS0 s2)) (xlet (xup D.1 s2 (s1).toNatClampNeg s0, D.2) fun D2 => xgrd (xin v6 (xl xS0 v3)) (xgrd (xin v7 64) (xgrd (xin ((64 * v5) + (D2.1 v3 (v6).toNatClampNeg)) 256) (xlet (xup D2.1 256 ((64 * v5) + (D2.1 v3 (v6).toNatClampNeg)).toNatClampNeg (D2.1 255 (v7).toNatClampNeg), D2.2) fun D6 => f_X12_shrink_171 F P xS0 rec_47 rec_83 241 v1 v3 v4 v5 v6 D6))))) := by
  unfold f_X12_shrink_148
  simp only [ll_255, ll_256, rr_241_23, rr_241_24]
set_option maxHeartbeats 2000000 in
theorem e_X12_shrink_83s (F P : Nat) (rec_47 : Nat → Int64 → Nat → Int32 → Int32 → xDt → Option (xDt)) (rec_83 : Nat → Int64 → Nat → Int32 → Int32 → Int32 → xDt → Option (xDt)) (v1 : Int64) (v3 : Nat) (v4 : Int32) (v5 : Int32) (v6 : Int32) (D : xDt) : f_X12_shrink_83s F P xS0 rec_47 rec_83 241 v1 v3 v4 v5 v6 D = (if (D.1 241 1) ≤ v6 then (xlet (v5 + 1) fun v5_1 => rec_47 241 v1 v3 v4 v5_1 D) else (if (lg_cmp ((jlushr v1 v6) &&& 1) 1) = 0 then (xgrd (xin ((64 * v5) + v6) 256) (xlet (D.1 243 ((64 * v5) + v6).toNatClampNeg) fun v7_3 => xgrd (xin v7_3 64) (if 0 ≤ (D.1 255 (v7_3).toNatClampNeg) then (xgrd (xin v7_3 64) (f_X12_shrink_148 F P xS0 rec_47 rec_83 241 v1 v3 v4 v5 v6 v7_3 (D.1 255 (v7_3).toNatClampNeg) v7_3 255 D)) else (xgrd (xin v6 (xl xS0 v3)) (f_X12_shrink_148 F P xS0 rec_47 rec_83 241 v1 v3 v4 v5 v6 v7_3 (D.1 v3 (v6).toNatClampNeg) v7_3 255 D))))) else (f_X12_shrink_171 F P xS0 rec_47 rec_83 241 v1 v3 v4 v5 v6 D))) := by
  unfold f_X12_shrink_83s
  simp only [ll_243, ll_255, rr_241_23, rr_241_3]
theorem e_X12_shrink_83 (F P n : Nat) (rec_47 : Nat → Int64 → Nat → Int32 → Int32 → xDt → Option (xDt)) (v1 : Int64) (v3 : Nat) (v4 : Int32) (v5 : Int32) (v6 : Int32) (D : xDt) : f_X12_shrink_83 F P xS0 rec_47 (n + 1) 241 v1 v3 v4 v5 v6 D = (if (D.1 241 1) ≤ v6 then (xlet (v5 + 1) fun v5_1 => rec_47 241 v1 v3 v4 v5_1 D) else (if (lg_cmp ((jlushr v1 v6) &&& 1) 1) = 0 then (xgrd (xin ((64 * v5) + v6) 256) (xlet (D.1 243 ((64 * v5) + v6).toNatClampNeg) fun v7_3 => xgrd (xin v7_3 64) (if 0 ≤ (D.1 255 (v7_3).toNatClampNeg) then (xgrd (xin v7_3 64) (f_X12_shrink_148 F P xS0 rec_47 (f_X12_shrink_83 F P xS0 rec_47 n) 241 v1 v3 v4 v5 v6 v7_3 (D.1 255 (v7_3).toNatClampNeg) v7_3 255 D)) else (xgrd (xin v6 (xl xS0 v3)) (f_X12_shrink_148 F P xS0 rec_47 (f_X12_shrink_83 F P xS0 rec_47 n) 241 v1 v3 v4 v5 v6 v7_3 (D.1 v3 (v6).toNatClampNeg) v7_3 255 D))))) else (f_X12_shrink_171 F P xS0 rec_47 (f_X12_shrink_83 F P xS0 rec_47 n) 241 v1 v3 v4 v5 v6 D))) := e_X12_shrink_83s F P rec_47 (f_X12_shrink_83 F P xS0 rec_47 n) v1 v3 v4 v5 v6 D
set_option maxHeartbeats 2000000 in
theorem e_X12_shrink_56s (F P : Nat) (rec_47 : Nat → Int64 → Nat → Int32 → Int32 → xDt → Option (xDt)) (rec_56 : Nat → Int64 → Nat → Int32 → Int32 → Int32 → xDt → Option (xDt)) (v1 : Int64) (v3 : Nat) (v4 : Int32) (v5 : Int32) (v6 : Int32) (D : xDt) : f_X12_shrink_56s F P xS0 rec_47 rec_56 241 v1 v3 v4 v5 v6 D = (if (D.1 241 1) ≤ v6 then (f_X12_shrink_83 F P xS0 rec_47 F 241 v1 v3 v4 v5 0 D) else (xgrd (xin v6 64) (xlet (xup D.1 255 (v6).toNatClampNeg (-2), D.2) fun D2 => xlet (v6 + 1) fun v6_3 => rec_56 241 v1 v3 v4 v5 v6_3 D2))) := by
  unfold f_X12_shrink_56s
  simp only [ll_255, rr_241_23]
theorem e_X12_shrink_56 (F P n : Nat) (rec_47 : Nat → Int64 → Nat → Int32 → Int32 → xDt → Option (xDt)) (v1 : Int64) (v3 : Nat) (v4 : Int32) (v5 : Int32) (v6 : Int32) (D : xDt) : f_X12_shrink_56 F P xS0 rec_47 (n + 1) 241 v1 v3 v4 v5 v6 D = (if (D.1 241 1) ≤ v6 then (f_X12_shrink_83 F P xS0 rec_47 F 241 v1 v3 v4 v5 0 D) else (xgrd (xin v6 64) (xlet (xup D.1 255 (v6).toNatClampNeg (-2), D.2) fun D2 => xlet (v6 + 1) fun v6_3 => (f_X12_shrink_56 F P xS0 rec_47 n) 241 v1 v3 v4 v5 v6_3 D2))) := e_X12_shrink_56s F P rec_47 (f_X12_shrink_56 F P xS0 rec_47 n) v1 v3 v4 v5 v6 D
set_option maxHeartbeats 2000000 in
theorem e_X12_shrink_222 (F P : Nat) (rec_186 : Nat → Int64 → Nat → Int32 → Int32 → xDt → Option (xDt)) (v1 : Int64) (v3 : Nat) (v4 : Int32) (v5 : Int32) (D : xDt) : f_X12_shrink_222 F P xS0 rec_186 241 v1 v3 v4 v5 D = (xlet (v5 + 1) fun v5_1 => rec_186 241 v1 v3 v4 v5_1 D) := by
  unfold f_X12_shrink_222
  rfl
set_option maxHeartbeats 2000000 in
theorem e_X12_shrink_231s (F P : Nat) (rec_231 : Nat → Int32 → Int32 → xDt → Option (xDt)) (v4 : Int32) (v5 : Int32) (D : xDt) : f_X12_shrink_231s F P xS0 rec_231 241 v4 v5 D = (if 256 ≤ v5 then (xlet (xup D.1 241 1 v4, D.2) fun D1 => some D1) else (xgrd (xin v5 256) (xgrd (xin v5 256) (xlet (xup D.1 243 (v5).toNatClampNeg (D.1 256 (v5).toNatClampNeg), D.2) fun D4 => xlet (v5 + 1) fun v5_5 => rec_231 241 v4 v5_5 D4)))) := by
  unfold f_X12_shrink_231s
  simp only [ll_243, ll_256, rr_241_24, rr_241_3]
theorem e_X12_shrink_231 (F P n : Nat) (v4 : Int32) (v5 : Int32) (D : xDt) : f_X12_shrink_231 F P xS0 (n + 1) 241 v4 v5 D = (if 256 ≤ v5 then (xlet (xup D.1 241 1 v4, D.2) fun D1 => some D1) else (xgrd (xin v5 256) (xgrd (xin v5 256) (xlet (xup D.1 243 (v5).toNatClampNeg (D.1 256 (v5).toNatClampNeg), D.2) fun D4 => xlet (v5 + 1) fun v5_5 => (f_X12_shrink_231 F P xS0 n) 241 v4 v5_5 D4)))) := e_X12_shrink_231s F P (f_X12_shrink_231 F P xS0 n) v4 v5 D
set_option maxHeartbeats 2000000 in
theorem e_X12_shrink_186s (F P : Nat) (rec_186 : Nat → Int64 → Nat → Int32 → Int32 → xDt → Option (xDt)) (v1 : Int64) (v3 : Nat) (v4 : Int32) (v5 : Int32) (D : xDt) : f_X12_shrink_186s F P xS0 rec_186 241 v1 v3 v4 v5 D = (if (D.1 241 1) ≤ v5 then (f_X12_shrink_231 F P xS0 F 241 v4 0 D) else (if (lg_cmp ((jlushr v1 v5) &&& 1) 1) = 0 then (xgrd (xin v5 (xl xS0 v3)) (xgrd (xin v5 64) (xgrd (xin (D.1 v3 (v5).toNatClampNeg) 64) (xlet (xup D.1 242 (D.1 v3 (v5).toNatClampNeg).toNatClampNeg (D.1 242 (v5).toNatClampNeg), D.2) fun D4 => f_X12_shrink_222 F P xS0 rec_186 241 v1 v3 v4 v5 D4)))) else (f_X12_shrink_222 F P xS0 rec_186 241 v1 v3 v4 v5 D))) := by
  unfold f_X12_shrink_186s
  simp only [ll_242, rr_241_2]
theorem e_X12_shrink_186 (F P n : Nat) (v1 : Int64) (v3 : Nat) (v4 : Int32) (v5 : Int32) (D : xDt) : f_X12_shrink_186 F P xS0 (n + 1) 241 v1 v3 v4 v5 D = (if (D.1 241 1) ≤ v5 then (f_X12_shrink_231 F P xS0 F 241 v4 0 D) else (if (lg_cmp ((jlushr v1 v5) &&& 1) 1) = 0 then (xgrd (xin v5 (xl xS0 v3)) (xgrd (xin v5 64) (xgrd (xin (D.1 v3 (v5).toNatClampNeg) 64) (xlet (xup D.1 242 (D.1 v3 (v5).toNatClampNeg).toNatClampNeg (D.1 242 (v5).toNatClampNeg), D.2) fun D4 => f_X12_shrink_222 F P xS0 (f_X12_shrink_186 F P xS0 n) 241 v1 v3 v4 v5 D4)))) else (f_X12_shrink_222 F P xS0 (f_X12_shrink_186 F P xS0 n) 241 v1 v3 v4 v5 D))) := e_X12_shrink_186s F P (f_X12_shrink_186 F P xS0 n) v1 v3 v4 v5 D
set_option maxHeartbeats 2000000 in
theorem e_X12_shrink_47s (F P : Nat) (rec_47 : Nat → Int64 → Nat → Int32 → Int32 → xDt → Option (xDt)) (v1 : Int64) (v3 : Nat) (v4 : Int32) (v5 : Int32) (D : xDt) : f_X12_shrink_47s F P xS0 rec_47 241 v1 v3 v4 v5 D = (if 4 ≤ v5 then (f_X12_shrink_186 F P xS0 F 241 v1 v3 v4 0 D) else (f_X12_shrink_56 F P xS0 rec_47 F 241 v1 v3 v4 v5 0 D)) := by
  unfold f_X12_shrink_47s
  rfl
theorem e_X12_shrink_47 (F P n : Nat) (v1 : Int64) (v3 : Nat) (v4 : Int32) (v5 : Int32) (D : xDt) : f_X12_shrink_47 F P xS0 (n + 1) 241 v1 v3 v4 v5 D = (if 4 ≤ v5 then (f_X12_shrink_186 F P xS0 F 241 v1 v3 v4 0 D) else (f_X12_shrink_56 F P xS0 (f_X12_shrink_47 F P xS0 n) F 241 v1 v3 v4 v5 0 D)) := e_X12_shrink_47s F P (f_X12_shrink_47 F P xS0 n) v1 v3 v4 v5 D
set_option maxHeartbeats 2000000 in
theorem e_X12_shrink_11s (F P : Nat) (rec_11 : Nat → Int64 → Nat → Int32 → Int32 → xDt → Option (xDt)) (v1 : Int64) (v3 : Nat) (v4 : Int32) (v5 : Int32) (D : xDt) : f_X12_shrink_11s F P xS0 rec_11 241 v1 v3 v4 v5 D = (if (D.1 241 1) ≤ v5 then (f_X12_shrink_47 F P xS0 F 241 v1 v3 v4 0 D) else (xgrd (xin v5 (xl xS0 v3)) (xlet (xup D.1 v3 (v5).toNatClampNeg v4, D.2) fun D2 => xlet (v4 + (((jlushr v1 v5) &&& 1).toInt32)) fun v4_3 => xlet (v5 + 1) fun v5_4 => rec_11 241 v1 v3 v4_3 v5_4 D2))) := by
  unfold f_X12_shrink_11s
  rfl
theorem e_X12_shrink_11 (F P n : Nat) (v1 : Int64) (v3 : Nat) (v4 : Int32) (v5 : Int32) (D : xDt) : f_X12_shrink_11 F P xS0 (n + 1) 241 v1 v3 v4 v5 D = (if (D.1 241 1) ≤ v5 then (f_X12_shrink_47 F P xS0 F 241 v1 v3 v4 0 D) else (xgrd (xin v5 (xl xS0 v3)) (xlet (xup D.1 v3 (v5).toNatClampNeg v4, D.2) fun D2 => xlet (v4 + (((jlushr v1 v5) &&& 1).toInt32)) fun v4_3 => xlet (v5 + 1) fun v5_4 => (f_X12_shrink_11 F P xS0 n) 241 v1 v3 v4_3 v5_4 D2))) := e_X12_shrink_11s F P (f_X12_shrink_11 F P xS0 n) v1 v3 v4 v5 D
set_option maxHeartbeats 2000000 in
theorem e_X12_shrink (F P : Nat) (v1 : Int64) (D : xDt) : f_X12_shrink F P xS0 241 v1 D = (f_X12_shrink_11 F P xS0 F 241 v1 254 0 0 D) := by
  unfold f_X12_shrink
  simp only [rr_241_22]
set_option maxHeartbeats 2000000 in
theorem e_X12_say (F P : Nat) (D : xDt) : f_X12_say F P xS0 241 D = ((f_X12_all F P xS0 241 D).bind fun q1 => (f_X12_where F P xS0 P 241 (D.1 241 14) q1.1 q1.2).bind fun q2 => if (lg_cmp q2.1 0) = 0 then (some (0, q2.2)) else ((f_X12_all F P xS0 241 q2.2).bind fun q3 => if (lg_cmp q2.1 q3.1) = 0 then (some (q3.2.1 241 1, q3.2)) else ((f_X12_keep F P xS0 241 q3.2).bind fun q4 => (f_X12_shrink F P xS0 241 q2.1 q4).bind fun q5 => some (q5.1 241 1, q5)))) := by
  unfold f_X12_say
  rfl
set_option maxHeartbeats 2000000 in
theorem e_X12_isEvent (F P : Nat) (v1 : Int32) (D : xDt) : f_X12_isEvent F P xS0 241 v1 D = ((f_X12_in F P xS0 v1 0 ((D.1 241 25) - 1) D).bind fun q1 => xgrd (xb q1.1) (some (q1.1, q1.2))) := by
  unfold f_X12_isEvent
  rfl
set_option maxHeartbeats 2000000 in
theorem e_X12_event_87s (F P : Nat) (rec_87 : Nat → Int32 → xDt → Option (Int32 × xDt)) (v1 : Int32) (D : xDt) : f_X12_event_87s F P xS0 rec_87 241 v1 D = (if 4 ≤ v1 then (xlet (xup D.1 241 25 ((D.1 241 25) + 1), D.2) fun D1 => some ((D1.1 241 25) - 1, D1)) else (xgrd (xin ((8 * v1) + (D.1 241 25)) 32) (xlet (xup D.1 259 ((8 * v1) + (D.1 241 25)).toNatClampNeg (D.1 241 25), D.2) fun D3 => xlet (v1 + 1) fun v1_4 => rec_87 241 v1_4 D3))) := by
  unfold f_X12_event_87s
  simp only [ll_259, rr_241_28]
theorem e_X12_event_87 (F P n : Nat) (v1 : Int32) (D : xDt) : f_X12_event_87 F P xS0 (n + 1) 241 v1 D = (if 4 ≤ v1 then (xlet (xup D.1 241 25 ((D.1 241 25) + 1), D.2) fun D1 => some ((D1.1 241 25) - 1, D1)) else (xgrd (xin ((8 * v1) + (D.1 241 25)) 32) (xlet (xup D.1 259 ((8 * v1) + (D.1 241 25)).toNatClampNeg (D.1 241 25), D.2) fun D3 => xlet (v1 + 1) fun v1_4 => (f_X12_event_87 F P xS0 n) 241 v1_4 D3))) := e_X12_event_87s F P (f_X12_event_87 F P xS0 n) v1 D
set_option maxHeartbeats 2000000 in
theorem e_X12_event_57s (F P : Nat) (rec_57 : Nat → Int32 → xDt → Option (Int32 × xDt)) (v1 : Int32) (D : xDt) : f_X12_event_57s F P xS0 rec_57 241 v1 D = (if 8 ≤ v1 then (f_X12_event_87 F P xS0 F 241 0 D) else (xgrd (xin ((8 * (D.1 241 25)) + v1) 64) (xlet (xup D.1 258 ((8 * (D.1 241 25)) + v1).toNatClampNeg (-2), D.2) fun D2 => xlet (v1 + 1) fun v1_3 => rec_57 241 v1_3 D2))) := by
  unfold f_X12_event_57s
  simp only [ll_258, rr_241_27]
theorem e_X12_event_57 (F P n : Nat) (v1 : Int32) (D : xDt) : f_X12_event_57 F P xS0 (n + 1) 241 v1 D = (if 8 ≤ v1 then (f_X12_event_87 F P xS0 F 241 0 D) else (xgrd (xin ((8 * (D.1 241 25)) + v1) 64) (xlet (xup D.1 258 ((8 * (D.1 241 25)) + v1).toNatClampNeg (-2), D.2) fun D2 => xlet (v1 + 1) fun v1_3 => (f_X12_event_57 F P xS0 n) 241 v1_3 D2))) := e_X12_event_57s F P (f_X12_event_57 F P xS0 n) v1 D
set_option maxHeartbeats 2000000 in
theorem e_X12_event (F P : Nat) (D : xDt) : f_X12_event F P xS0 241 D = (if (D.1 241 25) = 8 then (some ((-1), D)) else (xgrd (xin (D.1 241 14) 92800) (if (D.1 251 (D.1 241 14).toNatClampNeg) ≤ 150 then ((f_X12_laid F P xS0 241 (D.1 241 14) (2000 + (1350 * (D.1 241 25))) D).bind fun q2 => xgrd (xin (D.1 241 25) 8) (xlet (xup q2.2.1 257 (D.1 241 25).toNatClampNeg q2.1, q2.2.2) fun D4 => f_X12_event_57 F P xS0 F 241 0 D4)) else (some ((-1), D))))) := by
  unfold f_X12_event
  simp only [ll_251, ll_257, rr_241_12, rr_241_26]
set_option maxHeartbeats 2000000 in
theorem e_X12_tieEvents_127 (F P : Nat) (rec_61 : Nat → Int32 → Int32 → Int32 → Int32 → Int32 → xDt → Option (Int32 × xDt)) (v4 : Int32) (v5 : Int32) (v6 : Int32) (v7 : Int32) (v8 : Int32) (D : xDt) : f_X12_tieEvents_127 F P xS0 rec_61 241 v4 v5 v6 v7 v8 D = (xlet (v8 + 1) fun v8_1 => rec_61 241 v4 v5 v6 v7 v8_1 D) := by
  unfold f_X12_tieEvents_127
  rfl
set_option maxHeartbeats 2000000 in
theorem e_X12_tieEvents_123 (F P : Nat) (rec_61 : Nat → Int32 → Int32 → Int32 → Int32 → Int32 → xDt → Option (Int32 × xDt)) (v4 : Int32) (v5 : Int32) (v6 : Int32) (v7 : Int32) (v8 : Int32) (s0 : Int32) (s1 : Int32) (s2 : Nat) (D : xDt) : f_X12_tieEvents_123 F P xS0 rec_61 241 v4 v5 v6 v7 v8 s0 s1 s2 D = (xgrd (xin s1 (xl xS0 s2)) (xlet (xup D.1 s2 (s1).toNatClampNeg s0, D.2) fun D2 => xlet (v7 + 1) fun v7_3 => f_X12_tieEvents_127 F P xS0 rec_61 241 v4 v5 v6 v7_3 v8 D2)) := by
  unfold f_X12_tieEvents_123
  rfl
set_option maxHeartbeats 2000000 in
theorem e_X12_tieEvents_100 (F P : Nat) (rec_61 : Nat → Int32 → Int32 → Int32 → Int32 → Int32 → xDt → Option (Int32 × xDt)) (v4 : Int32) (v5 : Int32) (v6 : Int32) (v7 : Int32) (v8 : Int32) (D : xDt) : f_X12_tieEvents_100 F P xS0 rec_61 241 v4 v5 v6 v7 v8 D = (if v6 ≤ v5 then (f_X12_tieEvents_123 F P xS0 rec_61 241 v4 v5 v6 v7 v8 v6 (v4 + v8) 259 D) else (f_X12_tieEvents_123 F P xS0 rec_61 241 v4 v5 v6 v7 v8 v5 (v4 + v8) 259 D)) := by
  unfold f_X12_tieEvents_100
  simp only [rr_241_28]
set_option maxHeartbeats 2000000 in
theorem e_X12_tieEvents_61s (F P : Nat) (rec_61 : Nat → Int32 → Int32 → Int32 → Int32 → Int32 → xDt → Option (Int32 × xDt)) (v4 : Int32) (v5 : Int32) (v6 : Int32) (v7 : Int32) (v8 : Int32) (D : xDt) : f_X12_tieEvents_61s F P xS0 rec_61 241 v4 v5 v6 v7 v8 D = (if (D.1 241 25) ≤ v8 then (some (v7, D)) else (xgrd (xin (v4 + v8) 32) (if (D.1 259 (v4 + v8).toNatClampNeg) = v5 then (f_X12_tieEvents_100 F P xS0 rec_61 241 v4 v5 v6 v7 v8 D) else (xgrd (xin (v4 + v8) 32) (if (D.1 259 (v4 + v8).toNatClampNeg) = v6 then (f_X12_tieEvents_100 F P xS0 rec_61 241 v4 v5 v6 v7 v8 D) else (f_X12_tieEvents_127 F P xS0 rec_61 241 v4 v5 v6 v7 v8 D)))))) := by
  unfold f_X12_tieEvents_61s
  simp only [ll_259, rr_241_28]
theorem e_X12_tieEvents_61 (F P n : Nat) (v4 : Int32) (v5 : Int32) (v6 : Int32) (v7 : Int32) (v8 : Int32) (D : xDt) : f_X12_tieEvents_61 F P xS0 (n + 1) 241 v4 v5 v6 v7 v8 D = (if (D.1 241 25) ≤ v8 then (some (v7, D)) else (xgrd (xin (v4 + v8) 32) (if (D.1 259 (v4 + v8).toNatClampNeg) = v5 then (f_X12_tieEvents_100 F P xS0 (f_X12_tieEvents_61 F P xS0 n) 241 v4 v5 v6 v7 v8 D) else (xgrd (xin (v4 + v8) 32) (if (D.1 259 (v4 + v8).toNatClampNeg) = v6 then (f_X12_tieEvents_100 F P xS0 (f_X12_tieEvents_61 F P xS0 n) 241 v4 v5 v6 v7 v8 D) else (f_X12_tieEvents_127 F P xS0 (f_X12_tieEvents_61 F P xS0 n) 241 v4 v5 v6 v7 v8 D)))))) := e_X12_tieEvents_61s F P (f_X12_tieEvents_61 F P xS0 n) v4 v5 v6 v7 v8 D
set_option maxHeartbeats 2000000 in
theorem e_X12_tieEvents (F P : Nat) (v1 : Int32) (v2 : Int32) (v3 : Int32) (D : xDt) : f_X12_tieEvents F P xS0 241 v1 v2 v3 D = ((f_X12_isAgent F P xS0 v1 D).bind fun q1 => if q1.1 = 0 then (some ((-1), q1.2)) else ((f_X12_isEvent F P xS0 241 v2 q1.2).bind fun q2 => if q2.1 = 0 then (some ((-1), q2.2)) else ((f_X12_isEvent F P xS0 241 v3 q2.2).bind fun q3 => if q3.1 = 0 then (some ((-1), q3.2)) else (xlet (8 * (v1 - 1)) fun v4_4 => xgrd (xin (v4_4 + v2) 32) (xlet (q3.2.1 259 (v4_4 + v2).toNatClampNeg) fun v5_6 => xgrd (xin (v4_4 + v3) 32) (xlet (q3.2.1 259 (v4_4 + v3).toNatClampNeg) fun v6_8 => f_X12_tieEvents_61 F P xS0 F 241 v4_4 v5_6 v6_8 0 0 q3.2)))))) := by
  unfold f_X12_tieEvents
  simp only [ll_259, rr_241_28]
set_option maxHeartbeats 2000000 in
theorem e_X12_change (F P : Nat) (v1 : Int32) (v2 : Int32) (D : xDt) : f_X12_change F P xS0 241 v1 v2 D = ((f_X12_isEvent F P xS0 241 v1 D).bind fun q1 => if q1.1 = 0 then (some ((-1), q1.2)) else ((f_X12_in F P xS0 v2 0 7 q1.2).bind fun q2 => if q2.1 = 0 then (some ((-1), q2.2)) else (xgrd (xin (q2.2.1 241 14) 92800) (if (q2.2.1 251 (q2.2.1 241 14).toNatClampNeg) ≤ 150 then ((f_X12_laid F P xS0 241 (q2.2.1 241 14) (2000 + (150 * (((9 * v1) + 1) + v2))) q2.2).bind fun q4 => xgrd (xin ((8 * v1) + v2) 64) (xlet (xup q4.2.1 258 ((8 * v1) + v2).toNatClampNeg q4.1, q4.2.2) fun D6 => some (0, D6))) else (some ((-1), q2.2)))))) := by
  unfold f_X12_change
  simp only [ll_251, ll_258, rr_241_12, rr_241_27]
set_option maxHeartbeats 2000000 in
theorem e_X12_noEvents (F P : Nat) (D : xDt) : f_X12_noEvents F P xS0 241 D = (xlet (D.1 241 25) fun v1_1 => xlet (xup D.1 241 25 0, D.2) fun D2 => some (v1_1, D2)) := by
  unfold f_X12_noEvents
  rfl
set_option maxHeartbeats 2000000 in
theorem e_X12_happen_103 (F P : Nat) (rec_4 : Nat → Int32 → Int32 → xDt → Option (Int32 × xDt)) (rec_46 : Nat → Int32 → Int32 → Int32 → xDt → Option (Int32 × xDt)) (v1 : Int32) (v2 : Int32) (v3 : Int32) (s0 : Int64) (s1 : Int32) (s2 : Nat) (D : xDt) : f_X12_happen_103 F P xS0 rec_4 rec_46 241 v1 v2 v3 s0 s1 s2 D = (xgrd (xin s1 (xl xS0 s2)) (xlet (D.1, xup D.2 s2 (s1).toNatClampNeg s0) fun D2 => xlet (v3 + 1) fun v3_3 => rec_46 241 v1 v2 v3_3 D2)) := by
  unfold f_X12_happen_103
  rfl
set_option maxHeartbeats 2000000 in
theorem e_X12_happen_46s (F P : Nat) (rec_4 : Nat → Int32 → Int32 → xDt → Option (Int32 × xDt)) (rec_46 : Nat → Int32 → Int32 → Int32 → xDt → Option (Int32 × xDt)) (v1 : Int32) (v2 : Int32) (v3 : Int32) (D : xDt) : f_X12_happen_46s F P xS0 rec_4 rec_46 241 v1 v2 v3 D = (if 8 ≤ v3 then (xlet (v2 + 1) fun v2_1 => rec_4 241 v1 v2_1 D) else (xgrd (xin ((8 * v2) + v3) 64) (if 0 ≤ (D.1 258 ((8 * v2) + v3).toNatClampNeg) then (xgrd (xin ((8 * v2) + v3) 64) ((f_X12_all F P xS0 241 D).bind fun q4 => (f_X12_where F P xS0 P 241 (D.1 258 ((8 * v2) + v3).toNatClampNeg) q4.1 q4.2).bind fun q5 => f_X12_happen_103 F P xS0 rec_4 rec_46 241 v1 v2 v3 q5.1 ((8 * v2) + v3) 261 q5.2)) else ((f_X12_ofAtom F P xS0 241 v3 D).bind fun q6 => f_X12_happen_103 F P xS0 rec_4 rec_46 241 v1 v2 v3 q6.1 ((8 * v2) + v3) 261 q6.2)))) := by
  unfold f_X12_happen_46s
  simp only [ll_258, rr_241_27, rr_241_30]
theorem e_X12_happen_46 (F P n : Nat) (rec_4 : Nat → Int32 → Int32 → xDt → Option (Int32 × xDt)) (v1 : Int32) (v2 : Int32) (v3 : Int32) (D : xDt) : f_X12_happen_46 F P xS0 rec_4 (n + 1) 241 v1 v2 v3 D = (if 8 ≤ v3 then (xlet (v2 + 1) fun v2_1 => rec_4 241 v1 v2_1 D) else (xgrd (xin ((8 * v2) + v3) 64) (if 0 ≤ (D.1 258 ((8 * v2) + v3).toNatClampNeg) then (xgrd (xin ((8 * v2) + v3) 64) ((f_X12_all F P xS0 241 D).bind fun q4 => (f_X12_where F P xS0 P 241 (D.1 258 ((8 * v2) + v3).toNatClampNeg) q4.1 q4.2).bind fun q5 => f_X12_happen_103 F P xS0 rec_4 (f_X12_happen_46 F P xS0 rec_4 n) 241 v1 v2 v3 q5.1 ((8 * v2) + v3) 261 q5.2)) else ((f_X12_ofAtom F P xS0 241 v3 D).bind fun q6 => f_X12_happen_103 F P xS0 rec_4 (f_X12_happen_46 F P xS0 rec_4 n) 241 v1 v2 v3 q6.1 ((8 * v2) + v3) 261 q6.2)))) := e_X12_happen_46s F P rec_4 (f_X12_happen_46 F P xS0 rec_4 n) v1 v2 v3 D
set_option maxHeartbeats 2000000 in
theorem e_X12_happen_250 (F P : Nat) (rec_145 : Nat → Int32 → Int32 → Int32 → xDt → Option (Int32 × xDt)) (rec_156 : Nat → Int32 → Int32 → Int32 → Int32 → xDt → Option (Int32 × xDt)) (rec_206 : Nat → Int32 → Int32 → Int32 → Int32 → Int32 → xDt → Option (Int32 × xDt)) (v1 : Int32) (v2 : Int32) (v3 : Int32) (v4 : Int32) (v5 : Int32) (s0 : Int32) (s1 : Int32) (s2 : Int32) (s3 : Nat) (D : xDt) : f_X12_happen_250 F P xS0 rec_145 rec_156 rec_206 241 v1 v2 v3 v4 v5 s0 s1 s2 s3 D = (xgrd (xin s2 (xl xS0 s3)) (xlet (xup D.1 s3 (s2).toNatClampNeg (s1 ||| s0), D.2) fun D2 => xlet (v5 + 1) fun v5_3 => rec_206 241 v1 v2 v3 v4 v5_3 D2)) := by
  unfold f_X12_happen_250
  rfl
set_option maxHeartbeats 2000000 in
theorem e_X12_happen_261 (F P : Nat) (rec_145 : Nat → Int32 → Int32 → Int32 → xDt → Option (Int32 × xDt)) (rec_156 : Nat → Int32 → Int32 → Int32 → Int32 → xDt → Option (Int32 × xDt)) (v1 : Int32) (v2 : Int32) (v3 : Int32) (v4 : Int32) (D : xDt) : f_X12_happen_261 F P xS0 rec_145 rec_156 241 v1 v2 v3 v4 D = (xlet (v4 + 1) fun v4_1 => rec_156 241 v1 v2 v3 v4_1 D) := by
  unfold f_X12_happen_261
  rfl
set_option maxHeartbeats 2000000 in
theorem e_X12_happen_206s (F P : Nat) (rec_145 : Nat → Int32 → Int32 → Int32 → xDt → Option (Int32 × xDt)) (rec_156 : Nat → Int32 → Int32 → Int32 → Int32 → xDt → Option (Int32 × xDt)) (rec_206 : Nat → Int32 → Int32 → Int32 → Int32 → Int32 → xDt → Option (Int32 × xDt)) (v1 : Int32) (v2 : Int32) (v3 : Int32) (v4 : Int32) (v5 : Int32) (D : xDt) : f_X12_happen_206s F P xS0 rec_145 rec_156 rec_206 241 v1 v2 v3 v4 v5 D = (if 8 ≤ v5 then (xlet (v2 + 1) fun v2_1 => f_X12_happen_261 F P xS0 rec_145 rec_156 241 v1 v2_1 v3 v4 D) else (xgrd (xin v2 64) (xgrd (xin ((8 * v4) + v5) 64) (if (lg_cmp ((jlushr (D.2 261 ((8 * v4) + v5).toNatClampNeg) v3) &&& 1) 1) = 0 then (f_X12_happen_250 F P xS0 rec_145 rec_156 rec_206 241 v1 v2 v3 v4 v5 (jishl 1 v5) (D.1 264 (v2).toNatClampNeg) v2 264 D) else (f_X12_happen_250 F P xS0 rec_145 rec_156 rec_206 241 v1 v2 v3 v4 v5 0 (D.1 264 (v2).toNatClampNeg) v2 264 D))))) := by
  unfold f_X12_happen_206s
  simp only [ll_261, ll_264, rr_241_30, rr_241_33]
theorem e_X12_happen_206 (F P n : Nat) (rec_145 : Nat → Int32 → Int32 → Int32 → xDt → Option (Int32 × xDt)) (rec_156 : Nat → Int32 → Int32 → Int32 → Int32 → xDt → Option (Int32 × xDt)) (v1 : Int32) (v2 : Int32) (v3 : Int32) (v4 : Int32) (v5 : Int32) (D : xDt) : f_X12_happen_206 F P xS0 rec_145 rec_156 (n + 1) 241 v1 v2 v3 v4 v5 D = (if 8 ≤ v5 then (xlet (v2 + 1) fun v2_1 => f_X12_happen_261 F P xS0 rec_145 rec_156 241 v1 v2_1 v3 v4 D) else (xgrd (xin v2 64) (xgrd (xin ((8 * v4) + v5) 64) (if (lg_cmp ((jlushr (D.2 261 ((8 * v4) + v5).toNatClampNeg) v3) &&& 1) 1) = 0 then (f_X12_happen_250 F P xS0 rec_145 rec_156 (f_X12_happen_206 F P xS0 rec_145 rec_156 n) 241 v1 v2 v3 v4 v5 (jishl 1 v5) (D.1 264 (v2).toNatClampNeg) v2 264 D) else (f_X12_happen_250 F P xS0 rec_145 rec_156 (f_X12_happen_206 F P xS0 rec_145 rec_156 n) 241 v1 v2 v3 v4 v5 0 (D.1 264 (v2).toNatClampNeg) v2 264 D))))) := e_X12_happen_206s F P rec_145 rec_156 (f_X12_happen_206 F P xS0 rec_145 rec_156 n) v1 v2 v3 v4 v5 D
set_option maxHeartbeats 2000000 in
theorem e_X12_happen_156s (F P : Nat) (rec_145 : Nat → Int32 → Int32 → Int32 → xDt → Option (Int32 × xDt)) (rec_156 : Nat → Int32 → Int32 → Int32 → Int32 → xDt → Option (Int32 × xDt)) (v1 : Int32) (v2 : Int32) (v3 : Int32) (v4 : Int32) (D : xDt) : f_X12_happen_156s F P xS0 rec_145 rec_156 241 v1 v2 v3 v4 D = (if (D.1 241 25) ≤ v4 then (xlet (v3 + 1) fun v3_1 => rec_145 241 v1 v2 v3_1 D) else (xgrd (xin v4 8) (if (lg_cmp ((jlushr (D.2 260 (v4).toNatClampNeg) v3) &&& 1) 1) = 0 then (xgrd (xin v2 64) (xlet (xup D.1 262 (v2).toNatClampNeg v3, D.2) fun D4 => xgrd (xin v2 64) (xlet (xup D4.1 263 (v2).toNatClampNeg v4, D4.2) fun D6 => xgrd (xin v2 64) (xlet (xup D6.1 264 (v2).toNatClampNeg 0, D6.2) fun D8 => f_X12_happen_206 F P xS0 rec_145 rec_156 F 241 v1 v2 v3 v4 0 D8)))) else (f_X12_happen_261 F P xS0 rec_145 rec_156 241 v1 v2 v3 v4 D)))) := by
  unfold f_X12_happen_156s
  simp only [ll_260, ll_262, ll_263, ll_264, rr_241_29, rr_241_31, rr_241_32, rr_241_33]
theorem e_X12_happen_156 (F P n : Nat) (rec_145 : Nat → Int32 → Int32 → Int32 → xDt → Option (Int32 × xDt)) (v1 : Int32) (v2 : Int32) (v3 : Int32) (v4 : Int32) (D : xDt) : f_X12_happen_156 F P xS0 rec_145 (n + 1) 241 v1 v2 v3 v4 D = (if (D.1 241 25) ≤ v4 then (xlet (v3 + 1) fun v3_1 => rec_145 241 v1 v2 v3_1 D) else (xgrd (xin v4 8) (if (lg_cmp ((jlushr (D.2 260 (v4).toNatClampNeg) v3) &&& 1) 1) = 0 then (xgrd (xin v2 64) (xlet (xup D.1 262 (v2).toNatClampNeg v3, D.2) fun D4 => xgrd (xin v2 64) (xlet (xup D4.1 263 (v2).toNatClampNeg v4, D4.2) fun D6 => xgrd (xin v2 64) (xlet (xup D6.1 264 (v2).toNatClampNeg 0, D6.2) fun D8 => f_X12_happen_206 F P xS0 rec_145 (f_X12_happen_156 F P xS0 rec_145 n) F 241 v1 v2 v3 v4 0 D8)))) else (f_X12_happen_261 F P xS0 rec_145 (f_X12_happen_156 F P xS0 rec_145 n) 241 v1 v2 v3 v4 D)))) := e_X12_happen_156s F P rec_145 (f_X12_happen_156 F P xS0 rec_145 n) v1 v2 v3 v4 D
set_option maxHeartbeats 2000000 in
theorem e_X12_happen_395 (F P : Nat) (rec_275 : Nat → Int32 → Int32 → xDt → Option (Int32 × xDt)) (rec_283 : Nat → Int32 → Int32 → Int32 → xDt → Option (Int32 × xDt)) (rec_297 : Nat → Int32 → Int32 → Int32 → Int32 → Int32 → xDt → Option (Int32 × xDt)) (v1 : Int32) (v3 : Int32) (v4 : Int32) (v6 : Int32) (s0 : Int32) (D : xDt) : f_X12_happen_395 F P xS0 rec_275 rec_283 rec_297 241 v1 v3 v4 v6 s0 D = (xlet (v6 + (-1)) fun v6_1 => rec_297 241 v1 v3 v4 s0 v6_1 D) := by
  unfold f_X12_happen_395
  rfl
set_option maxHeartbeats 2000000 in
theorem e_X12_happen_381 (F P : Nat) (rec_275 : Nat → Int32 → Int32 → xDt → Option (Int32 × xDt)) (rec_283 : Nat → Int32 → Int32 → Int32 → xDt → Option (Int32 × xDt)) (rec_297 : Nat → Int32 → Int32 → Int32 → Int32 → Int32 → xDt → Option (Int32 × xDt)) (v1 : Int32) (v3 : Int32) (v4 : Int32) (v5 : Int32) (v6 : Int32) (s0 : Int32) (D : xDt) : f_X12_happen_381 F P xS0 rec_275 rec_283 rec_297 241 v1 v3 v4 v5 v6 s0 D = (if s0 = 0 then (f_X12_happen_395 F P xS0 rec_275 rec_283 rec_297 241 v1 v3 v4 v6 v5 D) else (f_X12_happen_395 F P xS0 rec_275 rec_283 rec_297 241 v1 v3 v4 v6 v6 D)) := by
  unfold f_X12_happen_381
  rfl
set_option maxHeartbeats 2000000 in
theorem e_X12_happen_380 (F P : Nat) (rec_275 : Nat → Int32 → Int32 → xDt → Option (Int32 × xDt)) (rec_283 : Nat → Int32 → Int32 → Int32 → xDt → Option (Int32 × xDt)) (rec_297 : Nat → Int32 → Int32 → Int32 → Int32 → Int32 → xDt → Option (Int32 × xDt)) (v1 : Int32) (v3 : Int32) (v4 : Int32) (v5 : Int32) (v6 : Int32) (D : xDt) : f_X12_happen_380 F P xS0 rec_275 rec_283 rec_297 241 v1 v3 v4 v5 v6 D = (f_X12_happen_381 F P xS0 rec_275 rec_283 rec_297 241 v1 v3 v4 v5 v6 0 D) := by
  unfold f_X12_happen_380
  rfl
set_option maxHeartbeats 2000000 in
theorem e_X12_happen_297s (F P : Nat) (rec_275 : Nat → Int32 → Int32 → xDt → Option (Int32 × xDt)) (rec_283 : Nat → Int32 → Int32 → Int32 → xDt → Option (Int32 × xDt)) (rec_297 : Nat → Int32 → Int32 → Int32 → Int32 → Int32 → xDt → Option (Int32 × xDt)) (v1 : Int32) (v3 : Int32) (v4 : Int32) (v5 : Int32) (v6 : Int32) (D : xDt) : f_X12_happen_297s F P xS0 rec_275 rec_283 rec_297 241 v1 v3 v4 v5 v6 D = (if v6 < 0 then (xgrd (xin ((64 * v3) + v4) 256) (xlet (xup D.1 256 ((64 * v3) + v4).toNatClampNeg v5, D.2) fun D2 => xlet (v4 + 1) fun v4_3 => rec_283 241 v1 v3 v4_3 D2)) else (xgrd (xin v4 64) (xgrd (xin ((64 * v3) + (D.1 262 (v4).toNatClampNeg)) 256) (xgrd (xin v6 64) (xgrd (xin ((64 * v3) + (D.1 262 (v6).toNatClampNeg)) 256) (if (D.1 243 ((64 * v3) + (D.1 262 (v4).toNatClampNeg)).toNatClampNeg) = (D.1 243 ((64 * v3) + (D.1 262 (v6).toNatClampNeg)).toNatClampNeg) then (xgrd (xin v4 64) (xgrd (xin ((8 * v3) + (D.1 263 (v4).toNatClampNeg)) 32) (xgrd (xin v6 64) (xgrd (xin ((8 * v3) + (D.1 263 (v6).toNatClampNeg)) 32) (if (D.1 259 ((8 * v3) + (D.1 263 (v4).toNatClampNeg)).toNatClampNeg) = (D.1 259 ((8 * v3) + (D.1 263 (v6).toNatClampNeg)).toNatClampNeg) then (f_X12_happen_381 F P xS0 rec_275 rec_283 rec_297 241 v1 v3 v4 v5 v6 1 D) else (f_X12_happen_380 F P xS0 rec_275 rec_283 rec_297 241 v1 v3 v4 v5 v6 D)))))) else (f_X12_happen_380 F P xS0 rec_275 rec_283 rec_297 241 v1 v3 v4 v5 v6 D))))))) := by
  unfold f_X12_happen_297s
  simp only [ll_243, ll_256, ll_259, ll_262, ll_263, rr_241_24, rr_241_28, rr_241_3, rr_241_31, rr_241_32]
theorem e_X12_happen_297 (F P n : Nat) (rec_275 : Nat → Int32 → Int32 → xDt → Option (Int32 × xDt)) (rec_283 : Nat → Int32 → Int32 → Int32 → xDt → Option (Int32 × xDt)) (v1 : Int32) (v3 : Int32) (v4 : Int32) (v5 : Int32) (v6 : Int32) (D : xDt) : f_X12_happen_297 F P xS0 rec_275 rec_283 (n + 1) 241 v1 v3 v4 v5 v6 D = (if v6 < 0 then (xgrd (xin ((64 * v3) + v4) 256) (xlet (xup D.1 256 ((64 * v3) + v4).toNatClampNeg v5, D.2) fun D2 => xlet (v4 + 1) fun v4_3 => rec_283 241 v1 v3 v4_3 D2)) else (xgrd (xin v4 64) (xgrd (xin ((64 * v3) + (D.1 262 (v4).toNatClampNeg)) 256) (xgrd (xin v6 64) (xgrd (xin ((64 * v3) + (D.1 262 (v6).toNatClampNeg)) 256) (if (D.1 243 ((64 * v3) + (D.1 262 (v4).toNatClampNeg)).toNatClampNeg) = (D.1 243 ((64 * v3) + (D.1 262 (v6).toNatClampNeg)).toNatClampNeg) then (xgrd (xin v4 64) (xgrd (xin ((8 * v3) + (D.1 263 (v4).toNatClampNeg)) 32) (xgrd (xin v6 64) (xgrd (xin ((8 * v3) + (D.1 263 (v6).toNatClampNeg)) 32) (if (D.1 259 ((8 * v3) + (D.1 263 (v4).toNatClampNeg)).toNatClampNeg) = (D.1 259 ((8 * v3) + (D.1 263 (v6).toNatClampNeg)).toNatClampNeg) then (f_X12_happen_381 F P xS0 rec_275 rec_283 (f_X12_happen_297 F P xS0 rec_275 rec_283 n) 241 v1 v3 v4 v5 v6 1 D) else (f_X12_happen_380 F P xS0 rec_275 rec_283 (f_X12_happen_297 F P xS0 rec_275 rec_283 n) 241 v1 v3 v4 v5 v6 D)))))) else (f_X12_happen_380 F P xS0 rec_275 rec_283 (f_X12_happen_297 F P xS0 rec_275 rec_283 n) 241 v1 v3 v4 v5 v6 D))))))) := e_X12_happen_297s F P rec_275 rec_283 (f_X12_happen_297 F P xS0 rec_275 rec_283 n) v1 v3 v4 v5 v6 D
set_option maxHeartbeats 2000000 in
theorem e_X12_happen_283s (F P : Nat) (rec_275 : Nat → Int32 → Int32 → xDt → Option (Int32 × xDt)) (rec_283 : Nat → Int32 → Int32 → Int32 → xDt → Option (Int32 × xDt)) (v1 : Int32) (v3 : Int32) (v4 : Int32) (D : xDt) : f_X12_happen_283s F P xS0 rec_275 rec_283 241 v1 v3 v4 D = (if v1 ≤ v4 then (xlet (v3 + 1) fun v3_1 => rec_275 241 v1 v3_1 D) else (f_X12_happen_297 F P xS0 rec_275 rec_283 F 241 v1 v3 v4 v4 v4 D)) := by
  unfold f_X12_happen_283s
  rfl
theorem e_X12_happen_283 (F P n : Nat) (rec_275 : Nat → Int32 → Int32 → xDt → Option (Int32 × xDt)) (v1 : Int32) (v3 : Int32) (v4 : Int32) (D : xDt) : f_X12_happen_283 F P xS0 rec_275 (n + 1) 241 v1 v3 v4 D = (if v1 ≤ v4 then (xlet (v3 + 1) fun v3_1 => rec_275 241 v1 v3_1 D) else (f_X12_happen_297 F P xS0 rec_275 (f_X12_happen_283 F P xS0 rec_275 n) F 241 v1 v3 v4 v4 v4 D)) := e_X12_happen_283s F P rec_275 (f_X12_happen_283 F P xS0 rec_275 n) v1 v3 v4 D
set_option maxHeartbeats 2000000 in
theorem e_X12_happen_463s (F P : Nat) (rec_463 : Nat → Int32 → Int32 → xDt → Option (Int32 × xDt)) (v1 : Int32) (v3 : Int32) (D : xDt) : f_X12_happen_463s F P xS0 rec_463 241 v1 v3 D = (if v1 ≤ v3 then (some (v1, D)) else (xgrd (xin v3 64) (xgrd (xin v3 64) (xlet (xup D.1 242 (v3).toNatClampNeg (D.1 264 (v3).toNatClampNeg), D.2) fun D3 => xlet (v3 + 1) fun v3_4 => rec_463 241 v1 v3_4 D3)))) := by
  unfold f_X12_happen_463s
  simp only [ll_242, ll_264, rr_241_2, rr_241_33]
theorem e_X12_happen_463 (F P n : Nat) (v1 : Int32) (v3 : Int32) (D : xDt) : f_X12_happen_463 F P xS0 (n + 1) 241 v1 v3 D = (if v1 ≤ v3 then (some (v1, D)) else (xgrd (xin v3 64) (xgrd (xin v3 64) (xlet (xup D.1 242 (v3).toNatClampNeg (D.1 264 (v3).toNatClampNeg), D.2) fun D3 => xlet (v3 + 1) fun v3_4 => (f_X12_happen_463 F P xS0 n) 241 v1 v3_4 D3)))) := e_X12_happen_463s F P (f_X12_happen_463 F P xS0 n) v1 v3 D
set_option maxHeartbeats 2000000 in
theorem e_X12_happen_436s (F P : Nat) (rec_436 : Nat → Int32 → Int32 → xDt → Option (Int32 × xDt)) (v1 : Int32) (v3 : Int32) (D : xDt) : f_X12_happen_436s F P xS0 rec_436 241 v1 v3 D = (if 256 ≤ v3 then (f_X12_happen_463 F P xS0 F 241 v1 0 D) else (xgrd (xin v3 256) (xgrd (xin v3 256) (xlet (xup D.1 243 (v3).toNatClampNeg (D.1 256 (v3).toNatClampNeg), D.2) fun D3 => xlet (v3 + 1) fun v3_4 => rec_436 241 v1 v3_4 D3)))) := by
  unfold f_X12_happen_436s
  simp only [ll_243, ll_256, rr_241_24, rr_241_3]
theorem e_X12_happen_436 (F P n : Nat) (v1 : Int32) (v3 : Int32) (D : xDt) : f_X12_happen_436 F P xS0 (n + 1) 241 v1 v3 D = (if 256 ≤ v3 then (f_X12_happen_463 F P xS0 F 241 v1 0 D) else (xgrd (xin v3 256) (xgrd (xin v3 256) (xlet (xup D.1 243 (v3).toNatClampNeg (D.1 256 (v3).toNatClampNeg), D.2) fun D3 => xlet (v3 + 1) fun v3_4 => (f_X12_happen_436 F P xS0 n) 241 v1 v3_4 D3)))) := e_X12_happen_436s F P (f_X12_happen_436 F P xS0 n) v1 v3 D
set_option maxHeartbeats 2000000 in
theorem e_X12_happen_275s (F P : Nat) (rec_275 : Nat → Int32 → Int32 → xDt → Option (Int32 × xDt)) (v1 : Int32) (v3 : Int32) (D : xDt) : f_X12_happen_275s F P xS0 rec_275 241 v1 v3 D = (if 4 ≤ v3 then (xlet (xup D.1 241 1 v1, D.2) fun D1 => f_X12_happen_436 F P xS0 F 241 v1 0 D1) else (f_X12_happen_283 F P xS0 rec_275 F 241 v1 v3 0 D)) := by
  unfold f_X12_happen_275s
  rfl
theorem e_X12_happen_275 (F P n : Nat) (v1 : Int32) (v3 : Int32) (D : xDt) : f_X12_happen_275 F P xS0 (n + 1) 241 v1 v3 D = (if 4 ≤ v3 then (xlet (xup D.1 241 1 v1, D.2) fun D1 => f_X12_happen_436 F P xS0 F 241 v1 0 D1) else (f_X12_happen_283 F P xS0 (f_X12_happen_275 F P xS0 n) F 241 v1 v3 0 D)) := e_X12_happen_275s F P (f_X12_happen_275 F P xS0 n) v1 v3 D
set_option maxHeartbeats 2000000 in
theorem e_X12_happen_145s (F P : Nat) (rec_145 : Nat → Int32 → Int32 → Int32 → xDt → Option (Int32 × xDt)) (v1 : Int32) (v2 : Int32) (v3 : Int32) (D : xDt) : f_X12_happen_145s F P xS0 rec_145 241 v1 v2 v3 D = (if (D.1 241 1) ≤ v3 then (f_X12_happen_275 F P xS0 F 241 v1 0 D) else (f_X12_happen_156 F P xS0 rec_145 F 241 v1 v2 v3 0 D)) := by
  unfold f_X12_happen_145s
  rfl
theorem e_X12_happen_145 (F P n : Nat) (v1 : Int32) (v2 : Int32) (v3 : Int32) (D : xDt) : f_X12_happen_145 F P xS0 (n + 1) 241 v1 v2 v3 D = (if (D.1 241 1) ≤ v3 then (f_X12_happen_275 F P xS0 F 241 v1 0 D) else (f_X12_happen_156 F P xS0 (f_X12_happen_145 F P xS0 n) F 241 v1 v2 v3 0 D)) := e_X12_happen_145s F P (f_X12_happen_145 F P xS0 n) v1 v2 v3 D
set_option maxHeartbeats 2000000 in
theorem e_X12_happen_4s (F P : Nat) (rec_4 : Nat → Int32 → Int32 → xDt → Option (Int32 × xDt)) (v1 : Int32) (v2 : Int32) (D : xDt) : f_X12_happen_4s F P xS0 rec_4 241 v1 v2 D = (if (D.1 241 25) ≤ v2 then (if v1 = 0 then (f_X12_happen_126 F P xS0 v1 D) else (if v1 ≤ 64 then ((f_X12_keep F P xS0 241 D).bind fun q1 => f_X12_happen_145 F P xS0 F 241 v1 0 0 q1) else (f_X12_happen_126 F P xS0 v1 D))) else (xgrd (xin v2 8) ((f_X12_all F P xS0 241 D).bind fun q3 => (f_X12_where F P xS0 P 241 (D.1 257 (v2).toNatClampNeg) q3.1 q3.2).bind fun q4 => xgrd (xin v2 8) (xlet (q4.2.1, xup q4.2.2 260 (v2).toNatClampNeg q4.1) fun D6 => xgrd (xin v2 8) ((f_X12_size F P xS0 (D6.2 260 (v2).toNatClampNeg) D6).bind fun q8 => xlet (v1 + q8.1) fun v1_9 => f_X12_happen_46 F P xS0 rec_4 F 241 v1_9 v2 0 q8.2))))) := by
  unfold f_X12_happen_4s
  simp only [ll_257, ll_260, rr_241_26, rr_241_29]
theorem e_X12_happen_4 (F P n : Nat) (v1 : Int32) (v2 : Int32) (D : xDt) : f_X12_happen_4 F P xS0 (n + 1) 241 v1 v2 D = (if (D.1 241 25) ≤ v2 then (if v1 = 0 then (f_X12_happen_126 F P xS0 v1 D) else (if v1 ≤ 64 then ((f_X12_keep F P xS0 241 D).bind fun q1 => f_X12_happen_145 F P xS0 F 241 v1 0 0 q1) else (f_X12_happen_126 F P xS0 v1 D))) else (xgrd (xin v2 8) ((f_X12_all F P xS0 241 D).bind fun q3 => (f_X12_where F P xS0 P 241 (D.1 257 (v2).toNatClampNeg) q3.1 q3.2).bind fun q4 => xgrd (xin v2 8) (xlet (q4.2.1, xup q4.2.2 260 (v2).toNatClampNeg q4.1) fun D6 => xgrd (xin v2 8) ((f_X12_size F P xS0 (D6.2 260 (v2).toNatClampNeg) D6).bind fun q8 => xlet (v1 + q8.1) fun v1_9 => f_X12_happen_46 F P xS0 (f_X12_happen_4 F P xS0 n) F 241 v1_9 v2 0 q8.2))))) := e_X12_happen_4s F P (f_X12_happen_4 F P xS0 n) v1 v2 D
set_option maxHeartbeats 2000000 in
theorem e_X12_happen (F P : Nat) (D : xDt) : f_X12_happen F P xS0 241 D = (f_X12_happen_4 F P xS0 F 241 0 0 D) := by
  unfold f_X12_happen
  rfl
set_option maxHeartbeats 2000000 in
theorem e_X12_sortsIn_44 (F P : Nat) (rec_5 : Nat → Int32 → Int32 → Int64 → Int32 → xDt → Option (Int64 × xDt)) (v1 : Int32) (v2 : Int32) (v5 : Int32) (s0 : Int64) (s1 : Int64) (D : xDt) : f_X12_sortsIn_44 F P xS0 rec_5 241 v1 v2 v5 s0 s1 D = (xlet (s1 ||| s0) fun v3_1 => xlet (v5 + 1) fun v5_2 => rec_5 241 v1 v2 v3_1 v5_2 D) := by
  unfold f_X12_sortsIn_44
  rfl
set_option maxHeartbeats 2000000 in
theorem e_X12_sortsIn_5s (F P : Nat) (rec_5 : Nat → Int32 → Int32 → Int64 → Int32 → xDt → Option (Int64 × xDt)) (v1 : Int32) (v2 : Int32) (v3 : Int64) (v5 : Int32) (D : xDt) : f_X12_sortsIn_5s F P xS0 rec_5 241 v1 v2 v3 v5 D = (if (D.1 241 1) ≤ v5 then (some (v3, D)) else ((f_X12_cell F P xS0 241 v1 v5 D).bind fun q1 => (f_X12_cell F P xS0 241 v1 v2 q1.2).bind fun q2 => if q1.1 = q2.1 then (xgrd (xin v5 64) (f_X12_sortsIn_44 F P xS0 rec_5 241 v1 v2 v5 (jlshl 1 (q2.2.1 265 (v5).toNatClampNeg)) v3 q2.2)) else (f_X12_sortsIn_44 F P xS0 rec_5 241 v1 v2 v5 0 v3 q2.2))) := by
  unfold f_X12_sortsIn_5s
  simp only [ll_265, rr_241_34]
theorem e_X12_sortsIn_5 (F P n : Nat) (v1 : Int32) (v2 : Int32) (v3 : Int64) (v5 : Int32) (D : xDt) : f_X12_sortsIn_5 F P xS0 (n + 1) 241 v1 v2 v3 v5 D = (if (D.1 241 1) ≤ v5 then (some (v3, D)) else ((f_X12_cell F P xS0 241 v1 v5 D).bind fun q1 => (f_X12_cell F P xS0 241 v1 v2 q1.2).bind fun q2 => if q1.1 = q2.1 then (xgrd (xin v5 64) (f_X12_sortsIn_44 F P xS0 (f_X12_sortsIn_5 F P xS0 n) 241 v1 v2 v5 (jlshl 1 (q2.2.1 265 (v5).toNatClampNeg)) v3 q2.2)) else (f_X12_sortsIn_44 F P xS0 (f_X12_sortsIn_5 F P xS0 n) 241 v1 v2 v5 0 v3 q2.2))) := e_X12_sortsIn_5s F P (f_X12_sortsIn_5 F P xS0 n) v1 v2 v3 v5 D
set_option maxHeartbeats 2000000 in
theorem e_X12_sortsIn (F P : Nat) (v1 : Int32) (v2 : Int32) (D : xDt) : f_X12_sortsIn F P xS0 241 v1 v2 D = (f_X12_sortsIn_5 F P xS0 F 241 v1 v2 0 0 D) := by
  unfold f_X12_sortsIn
  rfl
set_option maxHeartbeats 2000000 in
theorem e_X12_areAsBefore_57 (F P : Nat) (rec_24 : Nat → Int32 → Int32 → Int32 → Int32 → xDt → Option (Int32 × xDt)) (v1 : Int32) (v2 : Int32) (v4 : Int32) (s0 : Int32) (D : xDt) : f_X12_areAsBefore_57 F P xS0 rec_24 241 v1 v2 v4 s0 D = (xlet (v4 + 1) fun v4_1 => rec_24 241 v1 v2 s0 v4_1 D) := by
  unfold f_X12_areAsBefore_57
  rfl
set_option maxHeartbeats 2000000 in
theorem e_X12_areAsBefore_24s (F P : Nat) (rec_24 : Nat → Int32 → Int32 → Int32 → Int32 → xDt → Option (Int32 × xDt)) (v1 : Int32) (v2 : Int32) (v3 : Int32) (v4 : Int32) (D : xDt) : f_X12_areAsBefore_24s F P xS0 rec_24 241 v1 v2 v3 v4 D = (if 4 < v4 then (xgrd (xb v3) (some (v3, D))) else (if v3 = 0 then (xgrd (xb v3) (some (v3, D))) else ((f_X12_sortsIn F P xS0 241 v4 v1 D).bind fun q3 => (f_X12_sortsIn F P xS0 241 v4 v2 q3.2).bind fun q4 => if (lg_cmp q3.1 q4.1) = 0 then (f_X12_areAsBefore_57 F P xS0 rec_24 241 v1 v2 v4 1 q4.2) else (f_X12_areAsBefore_57 F P xS0 rec_24 241 v1 v2 v4 0 q4.2)))) := by
  unfold f_X12_areAsBefore_24s
  rfl
theorem e_X12_areAsBefore_24 (F P n : Nat) (v1 : Int32) (v2 : Int32) (v3 : Int32) (v4 : Int32) (D : xDt) : f_X12_areAsBefore_24 F P xS0 (n + 1) 241 v1 v2 v3 v4 D = (if 4 < v4 then (xgrd (xb v3) (some (v3, D))) else (if v3 = 0 then (xgrd (xb v3) (some (v3, D))) else ((f_X12_sortsIn F P xS0 241 v4 v1 D).bind fun q3 => (f_X12_sortsIn F P xS0 241 v4 v2 q3.2).bind fun q4 => if (lg_cmp q3.1 q4.1) = 0 then (f_X12_areAsBefore_57 F P xS0 (f_X12_areAsBefore_24 F P xS0 n) 241 v1 v2 v4 1 q4.2) else (f_X12_areAsBefore_57 F P xS0 (f_X12_areAsBefore_24 F P xS0 n) 241 v1 v2 v4 0 q4.2)))) := e_X12_areAsBefore_24s F P (f_X12_areAsBefore_24 F P xS0 n) v1 v2 v3 v4 D
set_option maxHeartbeats 2000000 in
theorem e_X12_areAsBefore_20 (F P : Nat) (v1 : Int32) (v2 : Int32) (s0 : Int32) (D : xDt) : f_X12_areAsBefore_20 F P xS0 241 v1 v2 s0 D = (f_X12_areAsBefore_24 F P xS0 F 241 v1 v2 s0 1 D) := by
  unfold f_X12_areAsBefore_20
  rfl
set_option maxHeartbeats 2000000 in
theorem e_X12_areAsBefore (F P : Nat) (v1 : Int32) (v2 : Int32) (D : xDt) : f_X12_areAsBefore F P xS0 241 v1 v2 D = (xgrd (xin v1 64) (xgrd (xin v2 64) (if (D.1 265 (v1).toNatClampNeg) = (D.1 265 (v2).toNatClampNeg) then (f_X12_areAsBefore_20 F P xS0 241 v1 v2 1 D) else (f_X12_areAsBefore_20 F P xS0 241 v1 v2 0 D)))) := by
  unfold f_X12_areAsBefore
  simp only [ll_265, rr_241_34]
set_option maxHeartbeats 2000000 in
theorem e_X12_beginLike_38 (F P : Nat) (rec_2 : Nat → Int32 → xDt → Option (xDt)) (rec_14 : Nat → Int32 → Int32 → Int32 → xDt → Option (xDt)) (v1 : Int32) (v3 : Int32) (s0 : Int32) (D : xDt) : f_X12_beginLike_38 F P xS0 rec_2 rec_14 241 v1 v3 s0 D = (xlet (v3 + (-1)) fun v3_1 => rec_14 241 v1 s0 v3_1 D) := by
  unfold f_X12_beginLike_38
  rfl
set_option maxHeartbeats 2000000 in
theorem e_X12_beginLike_14s (F P : Nat) (rec_2 : Nat → Int32 → xDt → Option (xDt)) (rec_14 : Nat → Int32 → Int32 → Int32 → xDt → Option (xDt)) (v1 : Int32) (v2 : Int32) (v3 : Int32) (D : xDt) : f_X12_beginLike_14s F P xS0 rec_2 rec_14 241 v1 v2 v3 D = (if v3 < 0 then (xgrd (xin v1 64) (xlet (xup D.1 265 (v1).toNatClampNeg v2, D.2) fun D2 => xlet (v1 + 1) fun v1_3 => rec_2 241 v1_3 D2)) else (xgrd (xin v3 64) (xgrd (xin v1 64) (if (D.1 242 (v3).toNatClampNeg) = (D.1 242 (v1).toNatClampNeg) then (f_X12_beginLike_38 F P xS0 rec_2 rec_14 241 v1 v3 v3 D) else (f_X12_beginLike_38 F P xS0 rec_2 rec_14 241 v1 v3 v2 D))))) := by
  unfold f_X12_beginLike_14s
  simp only [ll_242, ll_265, rr_241_2, rr_241_34]
theorem e_X12_beginLike_14 (F P n : Nat) (rec_2 : Nat → Int32 → xDt → Option (xDt)) (v1 : Int32) (v2 : Int32) (v3 : Int32) (D : xDt) : f_X12_beginLike_14 F P xS0 rec_2 (n + 1) 241 v1 v2 v3 D = (if v3 < 0 then (xgrd (xin v1 64) (xlet (xup D.1 265 (v1).toNatClampNeg v2, D.2) fun D2 => xlet (v1 + 1) fun v1_3 => rec_2 241 v1_3 D2)) else (xgrd (xin v3 64) (xgrd (xin v1 64) (if (D.1 242 (v3).toNatClampNeg) = (D.1 242 (v1).toNatClampNeg) then (f_X12_beginLike_38 F P xS0 rec_2 (f_X12_beginLike_14 F P xS0 rec_2 n) 241 v1 v3 v3 D) else (f_X12_beginLike_38 F P xS0 rec_2 (f_X12_beginLike_14 F P xS0 rec_2 n) 241 v1 v3 v2 D))))) := e_X12_beginLike_14s F P rec_2 (f_X12_beginLike_14 F P xS0 rec_2 n) v1 v2 v3 D
set_option maxHeartbeats 2000000 in
theorem e_X12_beginLike_2s (F P : Nat) (rec_2 : Nat → Int32 → xDt → Option (xDt)) (v1 : Int32) (D : xDt) : f_X12_beginLike_2s F P xS0 rec_2 241 v1 D = (if (D.1 241 1) ≤ v1 then (some D) else (f_X12_beginLike_14 F P xS0 rec_2 F 241 v1 v1 v1 D)) := by
  unfold f_X12_beginLike_2s
  rfl
theorem e_X12_beginLike_2 (F P n : Nat) (v1 : Int32) (D : xDt) : f_X12_beginLike_2 F P xS0 (n + 1) 241 v1 D = (if (D.1 241 1) ≤ v1 then (some D) else (f_X12_beginLike_14 F P xS0 (f_X12_beginLike_2 F P xS0 n) F 241 v1 v1 v1 D)) := e_X12_beginLike_2s F P (f_X12_beginLike_2 F P xS0 n) v1 D
set_option maxHeartbeats 2000000 in
theorem e_X12_beginLike (F P : Nat) (D : xDt) : f_X12_beginLike F P xS0 241 D = (f_X12_beginLike_2 F P xS0 F 241 0 D) := by
  unfold f_X12_beginLike
  rfl
set_option maxHeartbeats 2000000 in
theorem e_X12_refine_32 (F P : Nat) (rec_2 : Nat → Int32 → xDt → Option (Int32 × xDt)) (rec_14 : Nat → Int32 → Int32 → Int32 → xDt → Option (Int32 × xDt)) (v1 : Int32) (v3 : Int32) (s0 : Int32) (D : xDt) : f_X12_refine_32 F P xS0 rec_2 rec_14 241 v1 v3 s0 D = (xlet (v3 + (-1)) fun v3_1 => rec_14 241 v1 s0 v3_1 D) := by
  unfold f_X12_refine_32
  rfl
set_option maxHeartbeats 2000000 in
theorem e_X12_refine_14s (F P : Nat) (rec_2 : Nat → Int32 → xDt → Option (Int32 × xDt)) (rec_14 : Nat → Int32 → Int32 → Int32 → xDt → Option (Int32 × xDt)) (v1 : Int32) (v2 : Int32) (v3 : Int32) (D : xDt) : f_X12_refine_14s F P xS0 rec_2 rec_14 241 v1 v2 v3 D = (if v3 < 0 then (xgrd (xin v1 64) (xlet (xup D.1 266 (v1).toNatClampNeg v2, D.2) fun D2 => xlet (v1 + 1) fun v1_3 => rec_2 241 v1_3 D2)) else ((f_X12_areAsBefore F P xS0 241 v3 v1 D).bind fun q4 => if q4.1 = 0 then (f_X12_refine_32 F P xS0 rec_2 rec_14 241 v1 v3 v2 q4.2) else (f_X12_refine_32 F P xS0 rec_2 rec_14 241 v1 v3 v3 q4.2))) := by
  unfold f_X12_refine_14s
  simp only [ll_266, rr_241_35]
theorem e_X12_refine_14 (F P n : Nat) (rec_2 : Nat → Int32 → xDt → Option (Int32 × xDt)) (v1 : Int32) (v2 : Int32) (v3 : Int32) (D : xDt) : f_X12_refine_14 F P xS0 rec_2 (n + 1) 241 v1 v2 v3 D = (if v3 < 0 then (xgrd (xin v1 64) (xlet (xup D.1 266 (v1).toNatClampNeg v2, D.2) fun D2 => xlet (v1 + 1) fun v1_3 => rec_2 241 v1_3 D2)) else ((f_X12_areAsBefore F P xS0 241 v3 v1 D).bind fun q4 => if q4.1 = 0 then (f_X12_refine_32 F P xS0 rec_2 (f_X12_refine_14 F P xS0 rec_2 n) 241 v1 v3 v2 q4.2) else (f_X12_refine_32 F P xS0 rec_2 (f_X12_refine_14 F P xS0 rec_2 n) 241 v1 v3 v3 q4.2))) := e_X12_refine_14s F P rec_2 (f_X12_refine_14 F P xS0 rec_2 n) v1 v2 v3 D
set_option maxHeartbeats 2000000 in
theorem e_X12_refine_88 (F P : Nat) (rec_56 : Nat → Int32 → Int32 → xDt → Option (Int32 × xDt)) (v2 : Int32) (s0 : Int32) (D : xDt) : f_X12_refine_88 F P xS0 rec_56 241 v2 s0 D = (xgrd (xin v2 64) (xgrd (xin v2 64) (xlet (xup D.1 265 (v2).toNatClampNeg (D.1 266 (v2).toNatClampNeg), D.2) fun D3 => xlet (v2 + 1) fun v2_4 => rec_56 241 s0 v2_4 D3))) := by
  unfold f_X12_refine_88
  simp only [ll_265, ll_266, rr_241_34, rr_241_35]
set_option maxHeartbeats 2000000 in
theorem e_X12_refine_83 (F P : Nat) (rec_56 : Nat → Int32 → Int32 → xDt → Option (Int32 × xDt)) (v2 : Int32) (D : xDt) : f_X12_refine_83 F P xS0 rec_56 241 v2 D = (f_X12_refine_88 F P xS0 rec_56 241 v2 1 D) := by
  unfold f_X12_refine_83
  rfl
set_option maxHeartbeats 2000000 in
theorem e_X12_refine_56s (F P : Nat) (rec_56 : Nat → Int32 → Int32 → xDt → Option (Int32 × xDt)) (v1 : Int32) (v2 : Int32) (D : xDt) : f_X12_refine_56s F P xS0 rec_56 241 v1 v2 D = (if (D.1 241 1) ≤ v2 then (xgrd (xb v1) (some (v1, D))) else (if v1 = 0 then (xgrd (xin v2 64) (xgrd (xin v2 64) (if (D.1 265 (v2).toNatClampNeg) = (D.1 266 (v2).toNatClampNeg) then (f_X12_refine_88 F P xS0 rec_56 241 v2 0 D) else (f_X12_refine_83 F P xS0 rec_56 241 v2 D)))) else (f_X12_refine_83 F P xS0 rec_56 241 v2 D))) := by
  unfold f_X12_refine_56s
  simp only [ll_265, ll_266, rr_241_34, rr_241_35]
theorem e_X12_refine_56 (F P n : Nat) (v1 : Int32) (v2 : Int32) (D : xDt) : f_X12_refine_56 F P xS0 (n + 1) 241 v1 v2 D = (if (D.1 241 1) ≤ v2 then (xgrd (xb v1) (some (v1, D))) else (if v1 = 0 then (xgrd (xin v2 64) (xgrd (xin v2 64) (if (D.1 265 (v2).toNatClampNeg) = (D.1 266 (v2).toNatClampNeg) then (f_X12_refine_88 F P xS0 (f_X12_refine_56 F P xS0 n) 241 v2 0 D) else (f_X12_refine_83 F P xS0 (f_X12_refine_56 F P xS0 n) 241 v2 D)))) else (f_X12_refine_83 F P xS0 (f_X12_refine_56 F P xS0 n) 241 v2 D))) := e_X12_refine_56s F P (f_X12_refine_56 F P xS0 n) v1 v2 D
set_option maxHeartbeats 2000000 in
theorem e_X12_refine_2s (F P : Nat) (rec_2 : Nat → Int32 → xDt → Option (Int32 × xDt)) (v1 : Int32) (D : xDt) : f_X12_refine_2s F P xS0 rec_2 241 v1 D = (if (D.1 241 1) ≤ v1 then (f_X12_refine_56 F P xS0 F 241 0 0 D) else (f_X12_refine_14 F P xS0 rec_2 F 241 v1 v1 v1 D)) := by
  unfold f_X12_refine_2s
  rfl
theorem e_X12_refine_2 (F P n : Nat) (v1 : Int32) (D : xDt) : f_X12_refine_2 F P xS0 (n + 1) 241 v1 D = (if (D.1 241 1) ≤ v1 then (f_X12_refine_56 F P xS0 F 241 0 0 D) else (f_X12_refine_14 F P xS0 (f_X12_refine_2 F P xS0 n) F 241 v1 v1 v1 D)) := e_X12_refine_2s F P (f_X12_refine_2 F P xS0 n) v1 D
set_option maxHeartbeats 2000000 in
theorem e_X12_refine (F P : Nat) (D : xDt) : f_X12_refine F P xS0 241 D = (f_X12_refine_2 F P xS0 F 241 0 D) := by
  unfold f_X12_refine
  rfl
set_option maxHeartbeats 2000000 in
theorem e_X12_contract_53 (F P : Nat) (rec_23 : Nat → Int64 → Int32 → xDt → Option (Int32 × xDt)) (v4 : Int32) (s0 : Int64) (s1 : Int64) (D : xDt) : f_X12_contract_53 F P xS0 rec_23 241 v4 s0 s1 D = (xlet (s1 ||| s0) fun v2_1 => xlet (v4 + 1) fun v4_2 => rec_23 241 v2_1 v4_2 D) := by
  unfold f_X12_contract_53
  rfl
set_option maxHeartbeats 2000000 in
theorem e_X12_contract_91s (F P : Nat) (rec_82 : Nat → Int64 → Int32 → xDt → Option (Int32 × xDt)) (rec_91 : Nat → Int64 → Int32 → Int32 → xDt → Option (Int32 × xDt)) (v2 : Int64) (v4 : Int32) (v5 : Int32) (D : xDt) : f_X12_contract_91s F P xS0 rec_82 rec_91 241 v2 v4 v5 D = (if (D.1 241 1) ≤ v5 then (xlet (v4 + 1) fun v4_1 => rec_82 241 v2 v4_1 D) else ((f_X12_sortsIn F P xS0 241 v4 v5 D).bind fun q2 => (f_X12_least F P xS0 q2.1 q2.2).bind fun q3 => xgrd (xin ((64 * (v4 - 1)) + v5) 256) (xlet (xup q3.2.1 256 ((64 * (v4 - 1)) + v5).toNatClampNeg q3.1, q3.2.2) fun D5 => xlet (v5 + 1) fun v5_6 => rec_91 241 v2 v4 v5_6 D5))) := by
  unfold f_X12_contract_91s
  simp only [ll_256, rr_241_24]
theorem e_X12_contract_91 (F P n : Nat) (rec_82 : Nat → Int64 → Int32 → xDt → Option (Int32 × xDt)) (v2 : Int64) (v4 : Int32) (v5 : Int32) (D : xDt) : f_X12_contract_91 F P xS0 rec_82 (n + 1) 241 v2 v4 v5 D = (if (D.1 241 1) ≤ v5 then (xlet (v4 + 1) fun v4_1 => rec_82 241 v2 v4_1 D) else ((f_X12_sortsIn F P xS0 241 v4 v5 D).bind fun q2 => (f_X12_least F P xS0 q2.1 q2.2).bind fun q3 => xgrd (xin ((64 * (v4 - 1)) + v5) 256) (xlet (xup q3.2.1 256 ((64 * (v4 - 1)) + v5).toNatClampNeg q3.1, q3.2.2) fun D5 => xlet (v5 + 1) fun v5_6 => (f_X12_contract_91 F P xS0 rec_82 n) 241 v2 v4 v5_6 D5))) := e_X12_contract_91s F P rec_82 (f_X12_contract_91 F P xS0 rec_82 n) v2 v4 v5 D
set_option maxHeartbeats 2000000 in
theorem e_X12_contract_141s (F P : Nat) (rec_141 : Nat → Int64 → Int32 → xDt → Option (Int32 × xDt)) (v2 : Int64) (v4 : Int32) (D : xDt) : f_X12_contract_141s F P xS0 rec_141 241 v2 v4 D = (if 256 ≤ v4 then ((f_X12_shrink F P xS0 241 v2 D).bind fun q1 => some (q1.1 241 1, q1)) else (xgrd (xin v4 256) (xgrd (xin v4 256) (xlet (xup D.1 243 (v4).toNatClampNeg (D.1 256 (v4).toNatClampNeg), D.2) fun D4 => xlet (v4 + 1) fun v4_5 => rec_141 241 v2 v4_5 D4)))) := by
  unfold f_X12_contract_141s
  simp only [ll_243, ll_256, rr_241_24, rr_241_3]
theorem e_X12_contract_141 (F P n : Nat) (v2 : Int64) (v4 : Int32) (D : xDt) : f_X12_contract_141 F P xS0 (n + 1) 241 v2 v4 D = (if 256 ≤ v4 then ((f_X12_shrink F P xS0 241 v2 D).bind fun q1 => some (q1.1 241 1, q1)) else (xgrd (xin v4 256) (xgrd (xin v4 256) (xlet (xup D.1 243 (v4).toNatClampNeg (D.1 256 (v4).toNatClampNeg), D.2) fun D4 => xlet (v4 + 1) fun v4_5 => (f_X12_contract_141 F P xS0 n) 241 v2 v4_5 D4)))) := e_X12_contract_141s F P (f_X12_contract_141 F P xS0 n) v2 v4 D
set_option maxHeartbeats 2000000 in
theorem e_X12_contract_82s (F P : Nat) (rec_82 : Nat → Int64 → Int32 → xDt → Option (Int32 × xDt)) (v2 : Int64) (v4 : Int32) (D : xDt) : f_X12_contract_82s F P xS0 rec_82 241 v2 v4 D = (if 4 < v4 then (f_X12_contract_141 F P xS0 F 241 v2 0 D) else (f_X12_contract_91 F P xS0 rec_82 F 241 v2 v4 0 D)) := by
  unfold f_X12_contract_82s
  rfl
theorem e_X12_contract_82 (F P n : Nat) (v2 : Int64) (v4 : Int32) (D : xDt) : f_X12_contract_82 F P xS0 (n + 1) 241 v2 v4 D = (if 4 < v4 then (f_X12_contract_141 F P xS0 F 241 v2 0 D) else (f_X12_contract_91 F P xS0 (f_X12_contract_82 F P xS0 n) F 241 v2 v4 0 D)) := e_X12_contract_82s F P (f_X12_contract_82 F P xS0 n) v2 v4 D
set_option maxHeartbeats 2000000 in
theorem e_X12_contract_23s (F P : Nat) (rec_23 : Nat → Int64 → Int32 → xDt → Option (Int32 × xDt)) (v2 : Int64) (v4 : Int32) (D : xDt) : f_X12_contract_23s F P xS0 rec_23 241 v2 v4 D = (if (D.1 241 1) ≤ v4 then ((f_X12_all F P xS0 241 D).bind fun q1 => if (lg_cmp v2 q1.1) = 0 then (some (q1.2.1 241 1, q1.2)) else ((f_X12_keep F P xS0 241 q1.2).bind fun q2 => f_X12_contract_82 F P xS0 F 241 v2 1 q2)) else (xgrd (xin v4 64) (if (D.1 265 (v4).toNatClampNeg) = v4 then (f_X12_contract_53 F P xS0 rec_23 241 v4 (jlshl 1 v4) v2 D) else (f_X12_contract_53 F P xS0 rec_23 241 v4 0 v2 D)))) := by
  unfold f_X12_contract_23s
  simp only [ll_265, rr_241_34]
theorem e_X12_contract_23 (F P n : Nat) (v2 : Int64) (v4 : Int32) (D : xDt) : f_X12_contract_23 F P xS0 (n + 1) 241 v2 v4 D = (if (D.1 241 1) ≤ v4 then ((f_X12_all F P xS0 241 D).bind fun q1 => if (lg_cmp v2 q1.1) = 0 then (some (q1.2.1 241 1, q1.2)) else ((f_X12_keep F P xS0 241 q1.2).bind fun q2 => f_X12_contract_82 F P xS0 F 241 v2 1 q2)) else (xgrd (xin v4 64) (if (D.1 265 (v4).toNatClampNeg) = v4 then (f_X12_contract_53 F P xS0 (f_X12_contract_23 F P xS0 n) 241 v4 (jlshl 1 v4) v2 D) else (f_X12_contract_53 F P xS0 (f_X12_contract_23 F P xS0 n) 241 v4 0 v2 D)))) := e_X12_contract_23s F P (f_X12_contract_23 F P xS0 n) v2 v4 D
set_option maxHeartbeats 2000000 in
theorem e_X12_contract_6s (F P : Nat) (rec_6 : Nat → Int32 → xDt → Option (Int32 × xDt)) (v1 : Int32) (D : xDt) : f_X12_contract_6s F P xS0 rec_6 241 v1 D = (if v1 = 0 then (f_X12_contract_23 F P xS0 F 241 0 0 D) else ((f_X12_refine F P xS0 241 D).bind fun q1 => rec_6 241 q1.1 q1.2)) := by
  unfold f_X12_contract_6s
  rfl
theorem e_X12_contract_6 (F P n : Nat) (v1 : Int32) (D : xDt) : f_X12_contract_6 F P xS0 (n + 1) 241 v1 D = (if v1 = 0 then (f_X12_contract_23 F P xS0 F 241 0 0 D) else ((f_X12_refine F P xS0 241 D).bind fun q1 => (f_X12_contract_6 F P xS0 n) 241 q1.1 q1.2)) := e_X12_contract_6s F P (f_X12_contract_6 F P xS0 n) v1 D
set_option maxHeartbeats 2000000 in
theorem e_X12_contract (F P : Nat) (D : xDt) : f_X12_contract F P xS0 241 D = ((f_X12_beginLike F P xS0 241 D).bind fun q1 => f_X12_contract_6 F P xS0 F 241 1 q1) := by
  unfold f_X12_contract
  rfl
set_option maxHeartbeats 2000000 in
theorem e_X12_differ_46s (F P : Nat) (rec_46 : Nat → Int32 → Int32 → Int32 → Int32 → xDt → Option (Int32 × xDt)) (v1 : Int32) (v2 : Int32) (v3 : Int32) (v4 : Int32) (D : xDt) : f_X12_differ_46s F P xS0 rec_46 241 v1 v2 v3 v4 D = (if v4 = 0 then (xgrd (xin v1 64) (xgrd (xin v2 64) (if (D.1 265 (v1).toNatClampNeg) = (D.1 265 (v2).toNatClampNeg) then (some ((-2), D)) else (some (0, D))))) else ((f_X12_refine F P xS0 241 D).bind fun q3 => xlet (v3 + 1) fun v3_4 => xgrd (xin v1 64) (xgrd (xin v2 64) (if (q3.2.1 265 (v1).toNatClampNeg) = (q3.2.1 265 (v2).toNatClampNeg) then (rec_46 241 v1 v2 v3_4 q3.1 q3.2) else (some (v3_4, q3.2)))))) := by
  unfold f_X12_differ_46s
  simp only [ll_265, rr_241_34]
theorem e_X12_differ_46 (F P n : Nat) (v1 : Int32) (v2 : Int32) (v3 : Int32) (v4 : Int32) (D : xDt) : f_X12_differ_46 F P xS0 (n + 1) 241 v1 v2 v3 v4 D = (if v4 = 0 then (xgrd (xin v1 64) (xgrd (xin v2 64) (if (D.1 265 (v1).toNatClampNeg) = (D.1 265 (v2).toNatClampNeg) then (some ((-2), D)) else (some (0, D))))) else ((f_X12_refine F P xS0 241 D).bind fun q3 => xlet (v3 + 1) fun v3_4 => xgrd (xin v1 64) (xgrd (xin v2 64) (if (q3.2.1 265 (v1).toNatClampNeg) = (q3.2.1 265 (v2).toNatClampNeg) then ((f_X12_differ_46 F P xS0 n) 241 v1 v2 v3_4 q3.1 q3.2) else (some (v3_4, q3.2)))))) := e_X12_differ_46s F P (f_X12_differ_46 F P xS0 n) v1 v2 v3 v4 D
set_option maxHeartbeats 2000000 in
theorem e_X12_differ_44 (F P : Nat) (v1 : Int32) (v2 : Int32) (v3 : Int32) (s0 : Int32) (D : xDt) : f_X12_differ_44 F P xS0 241 v1 v2 v3 s0 D = (f_X12_differ_46 F P xS0 F 241 v1 v2 v3 s0 D) := by
  unfold f_X12_differ_44
  rfl
set_option maxHeartbeats 2000000 in
theorem e_X12_differ (F P : Nat) (v1 : Int32) (v2 : Int32) (D : xDt) : f_X12_differ F P xS0 241 v1 v2 D = ((f_X12_isWorld F P xS0 241 v1 D).bind fun q1 => if q1.1 = 0 then (some ((-1), q1.2)) else ((f_X12_isWorld F P xS0 241 v2 q1.2).bind fun q2 => if q2.1 = 0 then (some ((-1), q2.2)) else ((f_X12_beginLike F P xS0 241 q2.2).bind fun q3 => xgrd (xin v1 64) (xgrd (xin v2 64) (if (q3.1 265 (v1).toNatClampNeg) = (q3.1 265 (v2).toNatClampNeg) then (f_X12_differ_44 F P xS0 241 v1 v2 0 1 q3) else (f_X12_differ_44 F P xS0 241 v1 v2 0 0 q3)))))) := by
  unfold f_X12_differ
  simp only [ll_265, rr_241_34]
set_option maxHeartbeats 2000000 in
theorem e_X12_has_37 (F P : Nat) (self_X12_has : Nat → Int32 → Int32 → xDt → Option (Int32 × xDt)) (v1 : Int32) (v2 : Int32) (D : xDt) : f_X12_has_37 F P xS0 self_X12_has 241 v1 v2 D = (xgrd (xin v1 92800) (if (D.1 249 (v1).toNatClampNeg) < 0 then (f_X12_has_64 F P xS0 self_X12_has D) else (xgrd (xin v1 92800) ((self_X12_has 241 (D.1 249 (v1).toNatClampNeg) v2 D).bind fun q3 => if q3.1 = 0 then (f_X12_has_64 F P xS0 self_X12_has q3.2) else (f_X12_has_60 F P xS0 self_X12_has q3.2))))) := by
  unfold f_X12_has_37
  simp only [ll_249, rr_241_10]
set_option maxHeartbeats 2000000 in
theorem e_X12_has_o (F P : Nat) (self_X12_has : Nat → Int32 → Int32 → xDt → Option (Int32 × xDt)) (v1 : Int32) (v2 : Int32) (D : xDt) : f_X12_has_o F P xS0 self_X12_has 241 v1 v2 D = (xgrd (xin v1 92800) (if ((jishr v2 (D.1 247 (v1).toNatClampNeg)) &&& 1) = 1 then (f_X12_has_60 F P xS0 self_X12_has D) else (xgrd (xin v1 92800) (if (D.1 248 (v1).toNatClampNeg) < 0 then (f_X12_has_37 F P xS0 self_X12_has 241 v1 v2 D) else (xgrd (xin v1 92800) ((self_X12_has 241 (D.1 248 (v1).toNatClampNeg) v2 D).bind fun q4 => if q4.1 = 0 then (f_X12_has_37 F P xS0 self_X12_has 241 v1 v2 q4.2) else (f_X12_has_60 F P xS0 self_X12_has q4.2))))))) := by
  unfold f_X12_has_o
  simp only [ll_247, ll_248, rr_241_8, rr_241_9]
set_option maxHeartbeats 2000000 in
theorem e_X12_made (F P : Nat) (v1 : Int32) (v2 : Int32) (v3 : Int32) (v4 : Int32) (D : xDt) : f_X12_made F P xS0 241 v1 v2 v3 v4 D = (if (D.1 241 36) = 0 then (if (D.1 241 13) = 92800 then (xlet (xup D.1 241 36 1, D.2) fun D6 => some (12800, D6)) else ((f_X12_node F P xS0 241 v1 v2 v3 v4 D).bind fun q2 => xgrd (xin q2.1 92800) (if (q2.2.1 251 (q2.1).toNatClampNeg) ≤ 2000 then (xlet (xup q2.2.1 241 36 0, q2.2.2) fun D4 => some (q2.1, D4)) else (xlet (xup q2.2.1 241 36 1, q2.2.2) fun D5 => some (q2.1, D5))))) else (xlet (xup D.1 241 36 1, D.2) fun D1 => some (12800, D1))) := by
  unfold f_X12_made
  simp only [ll_251, rr_241_12]
set_option maxHeartbeats 2000000 in
theorem e_X12_reduced_81 (F P : Nat) (self_X12_reduced : Nat → Int32 → xDt → Option (Int32 × xDt)) (self_X12_pushed : Nat → Int32 → Int32 → xDt → Option (Int32 × xDt)) (v1 : Int32) (v2 : Int32) (v3 : Int32) (s0 : Int32) (D : xDt) : f_X12_reduced_81 F P xS0 self_X12_reduced self_X12_pushed 241 v1 v2 v3 s0 D = (if v2 = 14 then ((self_X12_pushed 241 v3 s0 D).bind fun q7 => some (q7.1, q7.2)) else (if v2 = 15 then ((self_X12_pushed 241 v3 s0 D).bind fun q3 => (f_X12_made F P xS0 241 4 q3.1 (-2) 0 q3.2).bind fun q4 => (f_X12_made F P xS0 241 11 v3 q4.1 0 q4.2).bind fun q5 => (f_X12_made F P xS0 241 4 q5.1 (-2) 0 q5.2).bind fun q6 => some (q6.1, q6.2)) else (xgrd (xin v1 92800) ((f_X12_made F P xS0 241 v2 v3 s0 (D.1 250 (v1).toNatClampNeg) D).bind fun q2 => some (q2.1, q2.2))))) := by
  unfold f_X12_reduced_81
  simp only [ll_250, rr_241_11]
set_option maxHeartbeats 2000000 in
theorem e_X12_reduced_66 (F P : Nat) (self_X12_reduced : Nat → Int32 → xDt → Option (Int32 × xDt)) (self_X12_pushed : Nat → Int32 → Int32 → xDt → Option (Int32 × xDt)) (v1 : Int32) (v2 : Int32) (v3 : Int32) (D : xDt) : f_X12_reduced_66 F P xS0 self_X12_reduced self_X12_pushed 241 v1 v2 v3 D = (f_X12_reduced_81 F P xS0 self_X12_reduced self_X12_pushed 241 v1 v2 v3 (-2) D) := by
  unfold f_X12_reduced_66
  rfl
set_option maxHeartbeats 2000000 in
theorem e_X12_reduced_o (F P : Nat) (self_X12_reduced : Nat → Int32 → xDt → Option (Int32 × xDt)) (self_X12_pushed : Nat → Int32 → Int32 → xDt → Option (Int32 × xDt)) (v1 : Int32) (D : xDt) : f_X12_reduced_o F P xS0 self_X12_reduced self_X12_pushed 241 v1 D = (if (D.1 241 36) = 0 then (xgrd (xin v1 92800) (xlet (D.1 247 (v1).toNatClampNeg) fun v2_2 => if 4 ≤ v2_2 then (xgrd (xin v1 92800) ((self_X12_reduced 241 (D.1 248 (v1).toNatClampNeg) D).bind fun q4 => xgrd (xin v1 92800) (if (q4.2.1 249 (v1).toNatClampNeg) < 0 then (f_X12_reduced_66 F P xS0 self_X12_reduced self_X12_pushed 241 v1 v2_2 q4.1 q4.2) else (if (q4.2.1 241 36) = 0 then (xgrd (xin v1 92800) ((self_X12_reduced 241 (q4.2.1 249 (v1).toNatClampNeg) q4.2).bind fun q7 => f_X12_reduced_81 F P xS0 self_X12_reduced self_X12_pushed 241 v1 v2_2 q4.1 q7.1 q7.2)) else (f_X12_reduced_66 F P xS0 self_X12_reduced self_X12_pushed 241 v1 v2_2 q4.1 q4.2))))) else (xgrd (xin v1 92800) ((f_X12_made F P xS0 241 v2_2 (-2) (-2) (D.1 250 (v1).toNatClampNeg) D).bind fun q9 => some (q9.1, q9.2))))) else (some (12800, D))) := by
  unfold f_X12_reduced_o
  simp only [ll_247, ll_248, ll_249, ll_250, rr_241_10, rr_241_11, rr_241_8, rr_241_9]
set_option maxHeartbeats 2000000 in
theorem e_X12_pushed_o (F P : Nat) (self_X12_pushed : Nat → Int32 → Int32 → xDt → Option (Int32 × xDt)) (v1 : Int32) (v2 : Int32) (D : xDt) : f_X12_pushed_o F P xS0 self_X12_pushed 241 v1 v2 D = (if (D.1 241 36) = 0 then (xgrd (xin v2 92800) (if (D.1 247 (v2).toNatClampNeg) = 4 then (xgrd (xin v2 92800) ((self_X12_pushed 241 v1 (D.1 248 (v2).toNatClampNeg) D).bind fun q3 => (f_X12_made F P xS0 241 4 q3.1 (-2) 0 q3.2).bind fun q4 => (f_X12_made F P xS0 241 11 v1 q4.1 0 q4.2).bind fun q5 => some (q5.1, q5.2))) else (if (D.1 247 (v2).toNatClampNeg) = 5 then (xgrd (xin v2 92800) ((self_X12_pushed 241 v1 (D.1 248 (v2).toNatClampNeg) D).bind fun q7 => xgrd (xin v2 92800) ((f_X12_made F P xS0 241 5 q7.1 (-2) (q7.2.1 250 (v2).toNatClampNeg) q7.2).bind fun q9 => (f_X12_made F P xS0 241 11 v1 q9.1 0 q9.2).bind fun q10 => some (q10.1, q10.2)))) else (if (D.1 247 (v2).toNatClampNeg) = 6 then (xgrd (xin v2 92800) ((self_X12_pushed 241 v1 (D.1 248 (v2).toNatClampNeg) D).bind fun q12 => (f_X12_made F P xS0 241 13 v1 q12.1 0 q12.2).bind fun q13 => xgrd (xin v2 92800) ((f_X12_made F P xS0 241 6 q13.1 (-2) (q13.2.1 250 (v2).toNatClampNeg) q13.2).bind fun q15 => (f_X12_made F P xS0 241 11 v1 q15.1 0 q15.2).bind fun q16 => some (q16.1, q16.2)))) else (if (D.1 247 (v2).toNatClampNeg) = 7 then ((f_X12_made F P xS0 241 11 v1 v2 0 D).bind fun q17 => some (q17.1, q17.2)) else (if (D.1 247 (v2).toNatClampNeg) = 8 then ((f_X12_made F P xS0 241 11 v1 v2 0 D).bind fun q18 => some (q18.1, q18.2)) else (if (D.1 247 (v2).toNatClampNeg) = 9 then ((f_X12_made F P xS0 241 11 v1 v2 0 D).bind fun q19 => some (q19.1, q19.2)) else (if (D.1 247 (v2).toNatClampNeg) = 10 then (xgrd (xin v2 92800) ((self_X12_pushed 241 v1 (D.1 248 (v2).toNatClampNeg) D).bind fun q21 => xgrd (xin v2 92800) (xgrd (xin v2 92800) ((self_X12_pushed 241 v1 (q21.2.1 249 (v2).toNatClampNeg) q21.2).bind fun q24 => (f_X12_made F P xS0 241 (q21.2.1 247 (v2).toNatClampNeg) q21.1 q24.1 0 q24.2).bind fun q25 => some (q25.1, q25.2))))) else (if (D.1 247 (v2).toNatClampNeg) = 11 then (xgrd (xin v2 92800) ((self_X12_pushed 241 v1 (D.1 248 (v2).toNatClampNeg) D).bind fun q27 => xgrd (xin v2 92800) (xgrd (xin v2 92800) ((self_X12_pushed 241 v1 (q27.2.1 249 (v2).toNatClampNeg) q27.2).bind fun q30 => (f_X12_made F P xS0 241 (q27.2.1 247 (v2).toNatClampNeg) q27.1 q30.1 0 q30.2).bind fun q31 => some (q31.1, q31.2))))) else (if (D.1 247 (v2).toNatClampNeg) = 12 then (xgrd (xin v2 92800) ((self_X12_pushed 241 v1 (D.1 248 (v2).toNatClampNeg) D).bind fun q33 => xgrd (xin v2 92800) (xgrd (xin v2 92800) ((self_X12_pushed 241 v1 (q33.2.1 249 (v2).toNatClampNeg) q33.2).bind fun q36 => (f_X12_made F P xS0 241 (q33.2.1 247 (v2).toNatClampNeg) q33.1 q36.1 0 q36.2).bind fun q37 => some (q37.1, q37.2))))) else (if (D.1 247 (v2).toNatClampNeg) = 13 then (xgrd (xin v2 92800) ((self_X12_pushed 241 v1 (D.1 248 (v2).toNatClampNeg) D).bind fun q39 => xgrd (xin v2 92800) (xgrd (xin v2 92800) ((self_X12_pushed 241 v1 (q39.2.1 249 (v2).toNatClampNeg) q39.2).bind fun q42 => (f_X12_made F P xS0 241 (q39.2.1 247 (v2).toNatClampNeg) q39.1 q42.1 0 q42.2).bind fun q43 => some (q43.1, q43.2))))) else ((f_X12_made F P xS0 241 11 v1 v2 0 D).bind fun q44 => some (q44.1, q44.2))))))))))))) else (some (12800, D))) := by
  unfold f_X12_pushed_o
  simp only [ll_247, ll_248, ll_249, ll_250, rr_241_10, rr_241_11, rr_241_8, rr_241_9]
set_option maxHeartbeats 2000000 in
theorem e_X12_reduce (F P : Nat) (D : xDt) : f_X12_reduce F P xS0 241 D = ((f_X12_has F P xS0 P 241 (D.1 241 14) 896 D).bind fun q1 => if q1.1 = 0 then (xlet (xup q1.2.1 241 13 12800, q1.2.2) fun D2 => xlet (xup D2.1 241 36 0, D2.2) fun D3 => (f_X12_reduced F P xS0 P 241 (D3.1 241 14) D3).bind fun q4 => if (q4.2.1 241 36) = 0 then (xgrd (xin q4.1 92800) (if (q4.2.1 251 (q4.1).toNatClampNeg) ≤ 2000 then (xlet (q4.2.1 241 13) fun v2_6 => xgrd (xin q4.1 92800) (xlet (q4.2.1 251 (q4.1).toNatClampNeg) fun v3_8 => (f_X12_moved F P xS0 241 q4.1 v2_6 v3_8 q4.2).bind fun q9 => xlet (xup q9.2.1 241 14 q9.1, q9.2.2) fun D10 => some (v3_8, D10))) else (some ((-3), q4.2)))) else (some ((-3), q4.2))) else (some ((-1), q1.2))) := by
  unfold f_X12_reduce
  simp only [ll_251, rr_241_12]
set_option maxHeartbeats 2000000 in
theorem e_X12_shared_62 (F P : Nat) (rec_5 : Nat → Int32 → Int32 → Int32 → Int32 → Int32 → xDt → Option (Int32 × xDt)) (v1 : Int32) (v2 : Int32) (v3 : Int32) (v4 : Int32) (v5 : Int32) (D : xDt) : f_X12_shared_62 F P xS0 rec_5 241 v1 v2 v3 v4 v5 D = (xlet (v5 + 1) fun v5_1 => rec_5 241 v1 v2 v3 v4 v5_1 D) := by
  unfold f_X12_shared_62
  rfl
set_option maxHeartbeats 2000000 in
theorem e_X12_shared_5s (F P : Nat) (rec_5 : Nat → Int32 → Int32 → Int32 → Int32 → Int32 → xDt → Option (Int32 × xDt)) (v1 : Int32) (v2 : Int32) (v3 : Int32) (v4 : Int32) (v5 : Int32) (D : xDt) : f_X12_shared_5s F P xS0 rec_5 241 v1 v2 v3 v4 v5 D = (if (D.1 241 13) ≤ v5 then ((f_X12_node F P xS0 241 v1 v2 v3 v4 D).bind fun q1 => some (q1.1, q1.2)) else (xgrd (xin v5 92800) (if (D.1 247 (v5).toNatClampNeg) = v1 then (xgrd (xin v5 92800) (if (D.1 248 (v5).toNatClampNeg) = v2 then (xgrd (xin v5 92800) (if (D.1 249 (v5).toNatClampNeg) = v3 then (xgrd (xin v5 92800) (if (D.1 250 (v5).toNatClampNeg) = v4 then (some (v5, D)) else (f_X12_shared_62 F P xS0 rec_5 241 v1 v2 v3 v4 v5 D))) else (f_X12_shared_62 F P xS0 rec_5 241 v1 v2 v3 v4 v5 D))) else (f_X12_shared_62 F P xS0 rec_5 241 v1 v2 v3 v4 v5 D))) else (f_X12_shared_62 F P xS0 rec_5 241 v1 v2 v3 v4 v5 D)))) := by
  unfold f_X12_shared_5s
  simp only [ll_247, ll_248, ll_249, ll_250, rr_241_10, rr_241_11, rr_241_8, rr_241_9]
theorem e_X12_shared_5 (F P n : Nat) (v1 : Int32) (v2 : Int32) (v3 : Int32) (v4 : Int32) (v5 : Int32) (D : xDt) : f_X12_shared_5 F P xS0 (n + 1) 241 v1 v2 v3 v4 v5 D = (if (D.1 241 13) ≤ v5 then ((f_X12_node F P xS0 241 v1 v2 v3 v4 D).bind fun q1 => some (q1.1, q1.2)) else (xgrd (xin v5 92800) (if (D.1 247 (v5).toNatClampNeg) = v1 then (xgrd (xin v5 92800) (if (D.1 248 (v5).toNatClampNeg) = v2 then (xgrd (xin v5 92800) (if (D.1 249 (v5).toNatClampNeg) = v3 then (xgrd (xin v5 92800) (if (D.1 250 (v5).toNatClampNeg) = v4 then (some (v5, D)) else (f_X12_shared_62 F P xS0 (f_X12_shared_5 F P xS0 n) 241 v1 v2 v3 v4 v5 D))) else (f_X12_shared_62 F P xS0 (f_X12_shared_5 F P xS0 n) 241 v1 v2 v3 v4 v5 D))) else (f_X12_shared_62 F P xS0 (f_X12_shared_5 F P xS0 n) 241 v1 v2 v3 v4 v5 D))) else (f_X12_shared_62 F P xS0 (f_X12_shared_5 F P xS0 n) 241 v1 v2 v3 v4 v5 D)))) := e_X12_shared_5s F P (f_X12_shared_5 F P xS0 n) v1 v2 v3 v4 v5 D
set_option maxHeartbeats 2000000 in
theorem e_X12_shared (F P : Nat) (v1 : Int32) (v2 : Int32) (v3 : Int32) (v4 : Int32) (D : xDt) : f_X12_shared F P xS0 241 v1 v2 v3 v4 D = (f_X12_shared_5 F P xS0 F 241 v1 v2 v3 v4 12800 D) := by
  unfold f_X12_shared
  rfl
set_option maxHeartbeats 2000000 in
theorem e_X12_plain_181 (F P : Nat) (self_X12_plain : Nat → Int32 → xDt → Option (Int32 × xDt)) (rec_123 : Nat → Int32 → Int32 → Int32 → Int32 → xDt → Option (Int32 × xDt)) (v1 : Int32) (v3 : Int32) (v5 : Int32) (v6 : Int32) (D : xDt) : f_X12_plain_181 F P xS0 self_X12_plain rec_123 241 v1 v3 v5 v6 D = (xlet (v6 + 1) fun v6_1 => rec_123 241 v1 v3 v5 v6_1 D) := by
  unfold f_X12_plain_181
  rfl
set_option maxHeartbeats 2000000 in
theorem e_X12_plain_179 (F P : Nat) (self_X12_plain : Nat → Int32 → xDt → Option (Int32 × xDt)) (rec_123 : Nat → Int32 → Int32 → Int32 → Int32 → xDt → Option (Int32 × xDt)) (v1 : Int32) (v3 : Int32) (v6 : Int32) (s0 : Int32) (D : xDt) : f_X12_plain_179 F P xS0 self_X12_plain rec_123 241 v1 v3 v6 s0 D = (f_X12_plain_181 F P xS0 self_X12_plain rec_123 241 v1 v3 s0 v6 D) := by
  unfold f_X12_plain_179
  rfl
set_option maxHeartbeats 2000000 in
theorem e_X12_plain_123s (F P : Nat) (self_X12_plain : Nat → Int32 → xDt → Option (Int32 × xDt)) (rec_123 : Nat → Int32 → Int32 → Int32 → Int32 → xDt → Option (Int32 × xDt)) (v1 : Int32) (v3 : Int32) (v5 : Int32) (v6 : Int32) (D : xDt) : f_X12_plain_123s F P xS0 self_X12_plain rec_123 241 v1 v3 v5 v6 D = (if 4 ≤ v6 then (some (v5, D)) else (xgrd (xin v1 92800) (if ((jishr (D.1 250 (v1).toNatClampNeg) v6) &&& 1) = 1 then ((f_X12_shared F P xS0 241 5 v3 (-2) (jishl 1 v6) D).bind fun q2 => if 0 ≤ v5 then ((f_X12_shared F P xS0 241 13 v5 q2.1 0 q2.2).bind fun q3 => f_X12_plain_179 F P xS0 self_X12_plain rec_123 241 v1 v3 v6 q3.1 q3.2) else (f_X12_plain_179 F P xS0 self_X12_plain rec_123 241 v1 v3 v6 q2.1 q2.2)) else (f_X12_plain_181 F P xS0 self_X12_plain rec_123 241 v1 v3 v5 v6 D)))) := by
  unfold f_X12_plain_123s
  simp only [ll_250, rr_241_11]
theorem e_X12_plain_123 (F P n : Nat) (self_X12_plain : Nat → Int32 → xDt → Option (Int32 × xDt)) (v1 : Int32) (v3 : Int32) (v5 : Int32) (v6 : Int32) (D : xDt) : f_X12_plain_123 F P xS0 self_X12_plain (n + 1) 241 v1 v3 v5 v6 D = (if 4 ≤ v6 then (some (v5, D)) else (xgrd (xin v1 92800) (if ((jishr (D.1 250 (v1).toNatClampNeg) v6) &&& 1) = 1 then ((f_X12_shared F P xS0 241 5 v3 (-2) (jishl 1 v6) D).bind fun q2 => if 0 ≤ v5 then ((f_X12_shared F P xS0 241 13 v5 q2.1 0 q2.2).bind fun q3 => f_X12_plain_179 F P xS0 self_X12_plain (f_X12_plain_123 F P xS0 self_X12_plain n) 241 v1 v3 v6 q3.1 q3.2) else (f_X12_plain_179 F P xS0 self_X12_plain (f_X12_plain_123 F P xS0 self_X12_plain n) 241 v1 v3 v6 q2.1 q2.2)) else (f_X12_plain_181 F P xS0 self_X12_plain (f_X12_plain_123 F P xS0 self_X12_plain n) 241 v1 v3 v5 v6 D)))) := e_X12_plain_123s F P self_X12_plain (f_X12_plain_123 F P xS0 self_X12_plain n) v1 v3 v5 v6 D
set_option maxHeartbeats 2000000 in
theorem e_X12_plain_56 (F P : Nat) (self_X12_plain : Nat → Int32 → xDt → Option (Int32 × xDt)) (v1 : Int32) (v2 : Int32) (v3 : Int32) (s0 : Int32) (D : xDt) : f_X12_plain_56 F P xS0 self_X12_plain 241 v1 v2 v3 s0 D = (if v2 = 6 then ((f_X12_shared F P xS0 241 4 v3 (-2) 0 D).bind fun q3 => xgrd (xin v1 92800) ((f_X12_shared F P xS0 241 5 q3.1 (-2) (q3.2.1 250 (v1).toNatClampNeg) q3.2).bind fun q5 => (f_X12_shared F P xS0 241 4 q5.1 (-2) 0 q5.2).bind fun q6 => some (q6.1, q6.2))) else (if v2 = 7 then (f_X12_plain_123 F P xS0 self_X12_plain F 241 v1 v3 (-2) 0 D) else (xgrd (xin v1 92800) ((f_X12_shared F P xS0 241 v2 v3 s0 (D.1 250 (v1).toNatClampNeg) D).bind fun q2 => some (q2.1, q2.2))))) := by
  unfold f_X12_plain_56
  simp only [ll_250, rr_241_11]
set_option maxHeartbeats 2000000 in
theorem e_X12_plain_31 (F P : Nat) (self_X12_plain : Nat → Int32 → xDt → Option (Int32 × xDt)) (v1 : Int32) (v2 : Int32) (s0 : Int32) (D : xDt) : f_X12_plain_31 F P xS0 self_X12_plain 241 v1 v2 s0 D = (xgrd (xin v1 92800) (if 0 ≤ (D.1 249 (v1).toNatClampNeg) then (xgrd (xin v1 92800) ((self_X12_plain 241 (D.1 249 (v1).toNatClampNeg) D).bind fun q3 => f_X12_plain_56 F P xS0 self_X12_plain 241 v1 v2 s0 q3.1 q3.2)) else (f_X12_plain_56 F P xS0 self_X12_plain 241 v1 v2 s0 (-2) D))) := by
  unfold f_X12_plain_31
  simp only [ll_249, rr_241_10]
set_option maxHeartbeats 2000000 in
theorem e_X12_plain_o (F P : Nat) (self_X12_plain : Nat → Int32 → xDt → Option (Int32 × xDt)) (v1 : Int32) (D : xDt) : f_X12_plain_o F P xS0 self_X12_plain 241 v1 D = (xgrd (xin v1 92800) (xlet (D.1 247 (v1).toNatClampNeg) fun v2_2 => xgrd (xin v1 92800) (if 0 ≤ (D.1 248 (v1).toNatClampNeg) then (xgrd (xin v1 92800) ((self_X12_plain 241 (D.1 248 (v1).toNatClampNeg) D).bind fun q5 => f_X12_plain_31 F P xS0 self_X12_plain 241 v1 v2_2 q5.1 q5.2)) else (f_X12_plain_31 F P xS0 self_X12_plain 241 v1 v2_2 (-2) D)))) := by
  unfold f_X12_plain_o
  simp only [ll_247, ll_248, rr_241_8, rr_241_9]
set_option maxHeartbeats 2000000 in
theorem e_X12_inBase_2s (F P : Nat) (rec_2 : Nat → Int32 → Int32 → xDt → Option (xDt)) (v1 : Int32) (v2 : Int32) (D : xDt) : f_X12_inBase_2s F P xS0 rec_2 241 v1 v2 D = (if (D.1 241 38) ≤ v2 then (xgrd (xin (D.1 241 38) 2100) (xlet (xup D.1 267 (D.1 241 38).toNatClampNeg v1, D.2) fun D2 => xlet (xup D2.1 241 38 ((D2.1 241 38) + 1), D2.2) fun D3 => some D3)) else (xgrd (xin v2 2100) (if (D.1 267 (v2).toNatClampNeg) = v1 then (some D) else (xlet (v2 + 1) fun v2_5 => rec_2 241 v1 v2_5 D)))) := by
  unfold f_X12_inBase_2s
  simp only [ll_267, rr_241_37]
theorem e_X12_inBase_2 (F P n : Nat) (v1 : Int32) (v2 : Int32) (D : xDt) : f_X12_inBase_2 F P xS0 (n + 1) 241 v1 v2 D = (if (D.1 241 38) ≤ v2 then (xgrd (xin (D.1 241 38) 2100) (xlet (xup D.1 267 (D.1 241 38).toNatClampNeg v1, D.2) fun D2 => xlet (xup D2.1 241 38 ((D2.1 241 38) + 1), D2.2) fun D3 => some D3)) else (xgrd (xin v2 2100) (if (D.1 267 (v2).toNatClampNeg) = v1 then (some D) else (xlet (v2 + 1) fun v2_5 => (f_X12_inBase_2 F P xS0 n) 241 v1 v2_5 D)))) := e_X12_inBase_2s F P (f_X12_inBase_2 F P xS0 n) v1 v2 D
set_option maxHeartbeats 2000000 in
theorem e_X12_inBase (F P : Nat) (v1 : Int32) (D : xDt) : f_X12_inBase F P xS0 241 v1 D = (f_X12_inBase_2 F P xS0 F 241 v1 0 D) := by
  unfold f_X12_inBase
  rfl
set_option maxHeartbeats 2000000 in
theorem e_X12_placeInBase_28 (F P : Nat) (rec_5 : Nat → Int32 → Int32 → Int32 → xDt → Option (Int32 × xDt)) (v1 : Int32) (v3 : Int32) (s0 : Int32) (D : xDt) : f_X12_placeInBase_28 F P xS0 rec_5 241 v1 v3 s0 D = (xlet (v3 + 1) fun v3_1 => rec_5 241 v1 s0 v3_1 D) := by
  unfold f_X12_placeInBase_28
  rfl
set_option maxHeartbeats 2000000 in
theorem e_X12_placeInBase_5s (F P : Nat) (rec_5 : Nat → Int32 → Int32 → Int32 → xDt → Option (Int32 × xDt)) (v1 : Int32) (v2 : Int32) (v3 : Int32) (D : xDt) : f_X12_placeInBase_5s F P xS0 rec_5 241 v1 v2 v3 D = (if (D.1 241 38) ≤ v3 then (some (v2, D)) else (xgrd (xin v3 2100) (if (D.1 267 (v3).toNatClampNeg) = v1 then (f_X12_placeInBase_28 F P xS0 rec_5 241 v1 v3 v3 D) else (f_X12_placeInBase_28 F P xS0 rec_5 241 v1 v3 v2 D)))) := by
  unfold f_X12_placeInBase_5s
  simp only [ll_267, rr_241_37]
theorem e_X12_placeInBase_5 (F P n : Nat) (v1 : Int32) (v2 : Int32) (v3 : Int32) (D : xDt) : f_X12_placeInBase_5 F P xS0 (n + 1) 241 v1 v2 v3 D = (if (D.1 241 38) ≤ v3 then (some (v2, D)) else (xgrd (xin v3 2100) (if (D.1 267 (v3).toNatClampNeg) = v1 then (f_X12_placeInBase_28 F P xS0 (f_X12_placeInBase_5 F P xS0 n) 241 v1 v3 v3 D) else (f_X12_placeInBase_28 F P xS0 (f_X12_placeInBase_5 F P xS0 n) 241 v1 v3 v2 D)))) := e_X12_placeInBase_5s F P (f_X12_placeInBase_5 F P xS0 n) v1 v2 v3 D
set_option maxHeartbeats 2000000 in
theorem e_X12_placeInBase (F P : Nat) (v1 : Int32) (D : xDt) : f_X12_placeInBase F P xS0 241 v1 D = (f_X12_placeInBase_5 F P xS0 F 241 v1 (-2) 0 D) := by
  unfold f_X12_placeInBase
  rfl
set_option maxHeartbeats 2000000 in
theorem e_X12_reckon_213 (F P : Nat) (rec_4 : Nat → Int32 → Int32 → Int32 → xDt → Option (xDt)) (v1 : Int32) (v2 : Int32) (v3 : Int32) (v7 : Int32) (D : xDt) : f_X12_reckon_213 F P xS0 rec_4 241 v1 v2 v3 v7 D = (xgrd (xin (v3 - 12800) 8000) (xlet (xup D.1 272 (v3 - 12800).toNatClampNeg (v7 &&& 1), D.2) fun D2 => xlet (v3 + 1) fun v3_3 => rec_4 241 v1 v2 v3_3 D2)) := by
  unfold f_X12_reckon_213
  simp only [ll_272, rr_241_43]
set_option maxHeartbeats 2000000 in
theorem e_X12_reckon_211 (F P : Nat) (rec_4 : Nat → Int32 → Int32 → Int32 → xDt → Option (xDt)) (v1 : Int32) (v2 : Int32) (v3 : Int32) (s0 : Int32) (D : xDt) : f_X12_reckon_211 F P xS0 rec_4 241 v1 v2 v3 s0 D = (f_X12_reckon_213 F P xS0 rec_4 241 v1 v2 v3 s0 D) := by
  unfold f_X12_reckon_211
  rfl
set_option maxHeartbeats 2000000 in
theorem e_X12_reckon_193 (F P : Nat) (rec_4 : Nat → Int32 → Int32 → Int32 → xDt → Option (xDt)) (v1 : Int32) (v2 : Int32) (v3 : Int32) (D : xDt) : f_X12_reckon_193 F P xS0 rec_4 241 v1 v2 v3 D = ((f_X12_placeInBase F P xS0 241 v3 D).bind fun q1 => if ((jishr v1 q1.1) &&& 1) = 1 then (f_X12_reckon_211 F P xS0 rec_4 241 v1 v2 v3 1 q1.2) else (f_X12_reckon_211 F P xS0 rec_4 241 v1 v2 v3 0 q1.2)) := by
  unfold f_X12_reckon_193
  rfl
set_option maxHeartbeats 2000000 in
theorem e_X12_reckon_172 (F P : Nat) (rec_4 : Nat → Int32 → Int32 → Int32 → xDt → Option (xDt)) (v1 : Int32) (v2 : Int32) (v3 : Int32) (v6 : Int32) (s0 : Int32) (D : xDt) : f_X12_reckon_172 F P xS0 rec_4 241 v1 v2 v3 v6 s0 D = (if v6 = 1 then (f_X12_reckon_193 F P xS0 rec_4 241 v1 v2 v3 D) else (if v6 = 5 then (f_X12_reckon_193 F P xS0 rec_4 241 v1 v2 v3 D) else (if v6 = 8 then (f_X12_reckon_193 F P xS0 rec_4 241 v1 v2 v3 D) else (f_X12_reckon_213 F P xS0 rec_4 241 v1 v2 v3 s0 D)))) := by
  unfold f_X12_reckon_172
  rfl
set_option maxHeartbeats 2000000 in
theorem e_X12_reckon_167 (F P : Nat) (rec_4 : Nat → Int32 → Int32 → Int32 → xDt → Option (xDt)) (v1 : Int32) (v2 : Int32) (v3 : Int32) (v6 : Int32) (D : xDt) : f_X12_reckon_167 F P xS0 rec_4 241 v1 v2 v3 v6 D = (f_X12_reckon_172 F P xS0 rec_4 241 v1 v2 v3 v6 1 D) := by
  unfold f_X12_reckon_167
  rfl
set_option maxHeartbeats 2000000 in
theorem e_X12_reckon_171 (F P : Nat) (rec_4 : Nat → Int32 → Int32 → Int32 → xDt → Option (xDt)) (v1 : Int32) (v2 : Int32) (v3 : Int32) (v6 : Int32) (D : xDt) : f_X12_reckon_171 F P xS0 rec_4 241 v1 v2 v3 v6 D = (f_X12_reckon_172 F P xS0 rec_4 241 v1 v2 v3 v6 0 D) := by
  unfold f_X12_reckon_171
  rfl
set_option maxHeartbeats 2000000 in
theorem e_X12_reckon_150 (F P : Nat) (rec_4 : Nat → Int32 → Int32 → Int32 → xDt → Option (xDt)) (v1 : Int32) (v2 : Int32) (v3 : Int32) (v4 : Int32) (v5 : Int32) (v6 : Int32) (D : xDt) : f_X12_reckon_150 F P xS0 rec_4 241 v1 v2 v3 v4 v5 v6 D = (if v6 = 13 then (if v4 = 0 then (f_X12_reckon_171 F P xS0 rec_4 241 v1 v2 v3 v6 D) else (if v5 = 0 then (f_X12_reckon_171 F P xS0 rec_4 241 v1 v2 v3 v6 D) else (f_X12_reckon_167 F P xS0 rec_4 241 v1 v2 v3 v6 D))) else (f_X12_reckon_171 F P xS0 rec_4 241 v1 v2 v3 v6 D)) := by
  unfold f_X12_reckon_150
  rfl
set_option maxHeartbeats 2000000 in
theorem e_X12_reckon_133 (F P : Nat) (rec_4 : Nat → Int32 → Int32 → Int32 → xDt → Option (xDt)) (v1 : Int32) (v2 : Int32) (v3 : Int32) (v4 : Int32) (v5 : Int32) (v6 : Int32) (D : xDt) : f_X12_reckon_133 F P xS0 rec_4 241 v1 v2 v3 v4 v5 v6 D = (if v6 = 12 then (if v4 = 0 then (if v5 = 0 then (f_X12_reckon_150 F P xS0 rec_4 241 v1 v2 v3 v4 v5 v6 D) else (f_X12_reckon_167 F P xS0 rec_4 241 v1 v2 v3 v6 D)) else (f_X12_reckon_167 F P xS0 rec_4 241 v1 v2 v3 v6 D)) else (f_X12_reckon_150 F P xS0 rec_4 241 v1 v2 v3 v4 v5 v6 D)) := by
  unfold f_X12_reckon_133
  rfl
set_option maxHeartbeats 2000000 in
theorem e_X12_reckon_116 (F P : Nat) (rec_4 : Nat → Int32 → Int32 → Int32 → xDt → Option (xDt)) (v1 : Int32) (v2 : Int32) (v3 : Int32) (v4 : Int32) (v5 : Int32) (v6 : Int32) (D : xDt) : f_X12_reckon_116 F P xS0 rec_4 241 v1 v2 v3 v4 v5 v6 D = (if v6 = 11 then (if v4 = 0 then (f_X12_reckon_167 F P xS0 rec_4 241 v1 v2 v3 v6 D) else (if v5 = 0 then (f_X12_reckon_133 F P xS0 rec_4 241 v1 v2 v3 v4 v5 v6 D) else (f_X12_reckon_167 F P xS0 rec_4 241 v1 v2 v3 v6 D))) else (f_X12_reckon_133 F P xS0 rec_4 241 v1 v2 v3 v4 v5 v6 D)) := by
  unfold f_X12_reckon_116
  rfl
set_option maxHeartbeats 2000000 in
theorem e_X12_reckon_102 (F P : Nat) (rec_4 : Nat → Int32 → Int32 → Int32 → xDt → Option (xDt)) (v1 : Int32) (v2 : Int32) (v3 : Int32) (v4 : Int32) (v5 : Int32) (v6 : Int32) (D : xDt) : f_X12_reckon_102 F P xS0 rec_4 241 v1 v2 v3 v4 v5 v6 D = (if v6 = 10 then (if v4 = v5 then (f_X12_reckon_167 F P xS0 rec_4 241 v1 v2 v3 v6 D) else (f_X12_reckon_116 F P xS0 rec_4 241 v1 v2 v3 v4 v5 v6 D)) else (f_X12_reckon_116 F P xS0 rec_4 241 v1 v2 v3 v4 v5 v6 D)) := by
  unfold f_X12_reckon_102
  rfl
set_option maxHeartbeats 2000000 in
theorem e_X12_reckon_75 (F P : Nat) (rec_4 : Nat → Int32 → Int32 → Int32 → xDt → Option (xDt)) (v1 : Int32) (v2 : Int32) (v3 : Int32) (v4 : Int32) (s0 : Int32) (D : xDt) : f_X12_reckon_75 F P xS0 rec_4 241 v1 v2 v3 v4 s0 D = (xgrd (xin v3 92800) (xlet (D.1 247 (v3).toNatClampNeg) fun v6_2 => if v6_2 = 3 then (f_X12_reckon_167 F P xS0 rec_4 241 v1 v2 v3 v6_2 D) else (if v6_2 = 4 then (if v4 = 0 then (f_X12_reckon_167 F P xS0 rec_4 241 v1 v2 v3 v6_2 D) else (f_X12_reckon_102 F P xS0 rec_4 241 v1 v2 v3 v4 s0 v6_2 D)) else (f_X12_reckon_102 F P xS0 rec_4 241 v1 v2 v3 v4 s0 v6_2 D)))) := by
  unfold f_X12_reckon_75
  simp only [ll_247, rr_241_8]
set_option maxHeartbeats 2000000 in
theorem e_X12_reckon_74 (F P : Nat) (rec_4 : Nat → Int32 → Int32 → Int32 → xDt → Option (xDt)) (v1 : Int32) (v2 : Int32) (v3 : Int32) (v4 : Int32) (D : xDt) : f_X12_reckon_74 F P xS0 rec_4 241 v1 v2 v3 v4 D = (f_X12_reckon_75 F P xS0 rec_4 241 v1 v2 v3 v4 0 D) := by
  unfold f_X12_reckon_74
  rfl
set_option maxHeartbeats 2000000 in
theorem e_X12_reckon_41 (F P : Nat) (rec_4 : Nat → Int32 → Int32 → Int32 → xDt → Option (xDt)) (v1 : Int32) (v2 : Int32) (v3 : Int32) (s0 : Int32) (D : xDt) : f_X12_reckon_41 F P xS0 rec_4 241 v1 v2 v3 s0 D = (xgrd (xin v3 92800) (if (D.1 249 (v3).toNatClampNeg) < 0 then (f_X12_reckon_74 F P xS0 rec_4 241 v1 v2 v3 s0 D) else (xgrd (xin v3 92800) (xgrd (xin ((D.1 249 (v3).toNatClampNeg) - 12800) 8000) (if (D.1 272 ((D.1 249 (v3).toNatClampNeg) - 12800).toNatClampNeg) = 0 then (f_X12_reckon_74 F P xS0 rec_4 241 v1 v2 v3 s0 D) else (f_X12_reckon_75 F P xS0 rec_4 241 v1 v2 v3 s0 1 D)))))) := by
  unfold f_X12_reckon_41
  simp only [ll_249, ll_272, rr_241_10, rr_241_43]
set_option maxHeartbeats 2000000 in
theorem e_X12_reckon_40 (F P : Nat) (rec_4 : Nat → Int32 → Int32 → Int32 → xDt → Option (xDt)) (v1 : Int32) (v2 : Int32) (v3 : Int32) (D : xDt) : f_X12_reckon_40 F P xS0 rec_4 241 v1 v2 v3 D = (f_X12_reckon_41 F P xS0 rec_4 241 v1 v2 v3 0 D) := by
  unfold f_X12_reckon_40
  rfl
set_option maxHeartbeats 2000000 in
theorem e_X12_reckon_4s (F P : Nat) (rec_4 : Nat → Int32 → Int32 → Int32 → xDt → Option (xDt)) (v1 : Int32) (v2 : Int32) (v3 : Int32) (D : xDt) : f_X12_reckon_4s F P xS0 rec_4 241 v1 v2 v3 D = (if v2 ≤ v3 then (some D) else (xgrd (xin v3 92800) (if (D.1 248 (v3).toNatClampNeg) < 0 then (f_X12_reckon_40 F P xS0 rec_4 241 v1 v2 v3 D) else (xgrd (xin v3 92800) (xgrd (xin ((D.1 248 (v3).toNatClampNeg) - 12800) 8000) (if (D.1 272 ((D.1 248 (v3).toNatClampNeg) - 12800).toNatClampNeg) = 0 then (f_X12_reckon_40 F P xS0 rec_4 241 v1 v2 v3 D) else (f_X12_reckon_41 F P xS0 rec_4 241 v1 v2 v3 1 D))))))) := by
  unfold f_X12_reckon_4s
  simp only [ll_248, ll_272, rr_241_43, rr_241_9]
theorem e_X12_reckon_4 (F P n : Nat) (v1 : Int32) (v2 : Int32) (v3 : Int32) (D : xDt) : f_X12_reckon_4 F P xS0 (n + 1) 241 v1 v2 v3 D = (if v2 ≤ v3 then (some D) else (xgrd (xin v3 92800) (if (D.1 248 (v3).toNatClampNeg) < 0 then (f_X12_reckon_40 F P xS0 (f_X12_reckon_4 F P xS0 n) 241 v1 v2 v3 D) else (xgrd (xin v3 92800) (xgrd (xin ((D.1 248 (v3).toNatClampNeg) - 12800) 8000) (if (D.1 272 ((D.1 248 (v3).toNatClampNeg) - 12800).toNatClampNeg) = 0 then (f_X12_reckon_40 F P xS0 (f_X12_reckon_4 F P xS0 n) 241 v1 v2 v3 D) else (f_X12_reckon_41 F P xS0 (f_X12_reckon_4 F P xS0 n) 241 v1 v2 v3 1 D))))))) := e_X12_reckon_4s F P (f_X12_reckon_4 F P xS0 n) v1 v2 v3 D
set_option maxHeartbeats 2000000 in
theorem e_X12_reckon (F P : Nat) (v1 : Int32) (v2 : Int32) (D : xDt) : f_X12_reckon F P xS0 241 v1 v2 D = (f_X12_reckon_4 F P xS0 F 241 v1 v2 12800 D) := by
  unfold f_X12_reckon
  rfl
set_option maxHeartbeats 2000000 in
theorem e_X12_agentsBits_52 (F P : Nat) (rec_4 : Nat → Int32 → Int32 → Int32 → xDt → Option (Int32 × xDt)) (v1 : Int32) (v3 : Int32) (s0 : Int32) (s1 : Int32) (D : xDt) : f_X12_agentsBits_52 F P xS0 rec_4 241 v1 v3 s0 s1 D = (xlet (s1 ||| s0) fun v2_1 => xlet (v3 + 1) fun v3_2 => rec_4 241 v1 v2_1 v3_2 D) := by
  unfold f_X12_agentsBits_52
  rfl
set_option maxHeartbeats 2000000 in
theorem e_X12_agentsBits_51 (F P : Nat) (rec_4 : Nat → Int32 → Int32 → Int32 → xDt → Option (Int32 × xDt)) (v1 : Int32) (v3 : Int32) (s0 : Int32) (D : xDt) : f_X12_agentsBits_51 F P xS0 rec_4 241 v1 v3 s0 D = (f_X12_agentsBits_52 F P xS0 rec_4 241 v1 v3 0 s0 D) := by
  unfold f_X12_agentsBits_51
  rfl
set_option maxHeartbeats 2000000 in
theorem e_X12_agentsBits_4s (F P : Nat) (rec_4 : Nat → Int32 → Int32 → Int32 → xDt → Option (Int32 × xDt)) (v1 : Int32) (v2 : Int32) (v3 : Int32) (D : xDt) : f_X12_agentsBits_4s F P xS0 rec_4 241 v1 v2 v3 D = (if (D.1 241 38) ≤ v3 then (some (v2, D)) else (xgrd (xin v3 2100) (xgrd (xin (D.1 267 (v3).toNatClampNeg) 92800) (if (D.1 247 (D.1 267 (v3).toNatClampNeg).toNatClampNeg) = 5 then (xgrd (xin v3 2100) (xgrd (xin (D.1 267 (v3).toNatClampNeg) 92800) (if (D.1 250 (D.1 267 (v3).toNatClampNeg).toNatClampNeg) = (jishl 1 v1) then (f_X12_agentsBits_52 F P xS0 rec_4 241 v1 v3 (jishl 1 v3) v2 D) else (f_X12_agentsBits_51 F P xS0 rec_4 241 v1 v3 v2 D)))) else (f_X12_agentsBits_51 F P xS0 rec_4 241 v1 v3 v2 D))))) := by
  unfold f_X12_agentsBits_4s
  simp only [ll_247, ll_250, ll_267, rr_241_11, rr_241_37, rr_241_8]
theorem e_X12_agentsBits_4 (F P n : Nat) (v1 : Int32) (v2 : Int32) (v3 : Int32) (D : xDt) : f_X12_agentsBits_4 F P xS0 (n + 1) 241 v1 v2 v3 D = (if (D.1 241 38) ≤ v3 then (some (v2, D)) else (xgrd (xin v3 2100) (xgrd (xin (D.1 267 (v3).toNatClampNeg) 92800) (if (D.1 247 (D.1 267 (v3).toNatClampNeg).toNatClampNeg) = 5 then (xgrd (xin v3 2100) (xgrd (xin (D.1 267 (v3).toNatClampNeg) 92800) (if (D.1 250 (D.1 267 (v3).toNatClampNeg).toNatClampNeg) = (jishl 1 v1) then (f_X12_agentsBits_52 F P xS0 (f_X12_agentsBits_4 F P xS0 n) 241 v1 v3 (jishl 1 v3) v2 D) else (f_X12_agentsBits_51 F P xS0 (f_X12_agentsBits_4 F P xS0 n) 241 v1 v3 v2 D)))) else (f_X12_agentsBits_51 F P xS0 (f_X12_agentsBits_4 F P xS0 n) 241 v1 v3 v2 D))))) := e_X12_agentsBits_4s F P (f_X12_agentsBits_4 F P xS0 n) v1 v2 v3 D
set_option maxHeartbeats 2000000 in
theorem e_X12_agentsBits (F P : Nat) (v1 : Int32) (D : xDt) : f_X12_agentsBits F P xS0 241 v1 D = (f_X12_agentsBits_4 F P xS0 F 241 v1 0 0 D) := by
  unfold f_X12_agentsBits
  rfl
set_option maxHeartbeats 2000000 in
theorem e_X12_isType_117 (F P : Nat) (rec_2 : Nat → Int32 → Int32 → xDt → Option (Int32 × xDt)) (rec_59 : Nat → Int32 → Int32 → Int32 → Int32 → xDt → Option (Int32 × xDt)) (v1 : Int32) (v2 : Int32) (v3 : Int32) (v4 : Int32) (D : xDt) : f_X12_isType_117 F P xS0 rec_2 rec_59 241 v1 v2 v3 v4 D = (xlet (v4 + 1) fun v4_1 => rec_59 241 v1 v2 v3 v4_1 D) := by
  unfold f_X12_isType_117
  rfl
set_option maxHeartbeats 2000000 in
theorem e_X12_isType_123 (F P : Nat) (rec_2 : Nat → Int32 → Int32 → xDt → Option (Int32 × xDt)) (v1 : Int32) (v2 : Int32) (D : xDt) : f_X12_isType_123 F P xS0 rec_2 241 v1 v2 D = (xlet (v2 + 1) fun v2_1 => rec_2 241 v1 v2_1 D) := by
  unfold f_X12_isType_123
  rfl
set_option maxHeartbeats 2000000 in
theorem e_X12_isType_59s (F P : Nat) (rec_2 : Nat → Int32 → Int32 → xDt → Option (Int32 × xDt)) (rec_59 : Nat → Int32 → Int32 → Int32 → Int32 → xDt → Option (Int32 × xDt)) (v1 : Int32) (v2 : Int32) (v3 : Int32) (v4 : Int32) (D : xDt) : f_X12_isType_59s F P xS0 rec_2 rec_59 241 v1 v2 v3 v4 D = (if 4 ≤ v4 then (f_X12_isType_123 F P xS0 rec_2 241 v1 v2 D) else (xgrd (xin v3 92800) (if (D.1 247 (v3).toNatClampNeg) = 8 then (xgrd (xin v3 92800) (if ((jishr (D.1 250 (v3).toNatClampNeg) v4) &&& 1) = 1 then ((f_X12_shared F P xS0 241 5 v3 (-2) (jishl 1 v4) D).bind fun q3 => xgrd (xin (q3.1 - 12800) 8000) (if (q3.2.1 272 (q3.1 - 12800).toNatClampNeg) = 0 then (some (0, q3.2)) else (f_X12_isType_117 F P xS0 rec_2 rec_59 241 v1 v2 v3 v4 q3.2))) else (f_X12_isType_117 F P xS0 rec_2 rec_59 241 v1 v2 v3 v4 D))) else (f_X12_isType_123 F P xS0 rec_2 241 v1 v2 D)))) := by
  unfold f_X12_isType_59s
  simp only [ll_247, ll_250, ll_272, rr_241_11, rr_241_43, rr_241_8]
theorem e_X12_isType_59 (F P n : Nat) (rec_2 : Nat → Int32 → Int32 → xDt → Option (Int32 × xDt)) (v1 : Int32) (v2 : Int32) (v3 : Int32) (v4 : Int32) (D : xDt) : f_X12_isType_59 F P xS0 rec_2 (n + 1) 241 v1 v2 v3 v4 D = (if 4 ≤ v4 then (f_X12_isType_123 F P xS0 rec_2 241 v1 v2 D) else (xgrd (xin v3 92800) (if (D.1 247 (v3).toNatClampNeg) = 8 then (xgrd (xin v3 92800) (if ((jishr (D.1 250 (v3).toNatClampNeg) v4) &&& 1) = 1 then ((f_X12_shared F P xS0 241 5 v3 (-2) (jishl 1 v4) D).bind fun q3 => xgrd (xin (q3.1 - 12800) 8000) (if (q3.2.1 272 (q3.1 - 12800).toNatClampNeg) = 0 then (some (0, q3.2)) else (f_X12_isType_117 F P xS0 rec_2 (f_X12_isType_59 F P xS0 rec_2 n) 241 v1 v2 v3 v4 q3.2))) else (f_X12_isType_117 F P xS0 rec_2 (f_X12_isType_59 F P xS0 rec_2 n) 241 v1 v2 v3 v4 D))) else (f_X12_isType_123 F P xS0 rec_2 241 v1 v2 D)))) := e_X12_isType_59s F P rec_2 (f_X12_isType_59 F P xS0 rec_2 n) v1 v2 v3 v4 D
set_option maxHeartbeats 2000000 in
theorem e_X12_isType_2s (F P : Nat) (rec_2 : Nat → Int32 → Int32 → xDt → Option (Int32 × xDt)) (v1 : Int32) (v2 : Int32) (D : xDt) : f_X12_isType_2s F P xS0 rec_2 241 v1 v2 D = (if (D.1 241 38) ≤ v2 then (some (1, D)) else (xgrd (xin v2 2100) (xlet (D.1 267 (v2).toNatClampNeg) fun v3_2 => xgrd (xin v3_2 92800) (if (D.1 247 (v3_2).toNatClampNeg) = 1 then (f_X12_isType_123 F P xS0 rec_2 241 v1 v2 D) else (if ((jishr v1 v2) &&& 1) = 1 then (xgrd (xin v3_2 92800) (xgrd (xin ((D.1 248 (v3_2).toNatClampNeg) - 12800) 8000) (if (D.1 272 ((D.1 248 (v3_2).toNatClampNeg) - 12800).toNatClampNeg) = 0 then (some (0, D)) else (f_X12_isType_59 F P xS0 rec_2 F 241 v1 v2 v3_2 0 D)))) else (f_X12_isType_123 F P xS0 rec_2 241 v1 v2 D)))))) := by
  unfold f_X12_isType_2s
  simp only [ll_247, ll_248, ll_267, ll_272, rr_241_37, rr_241_43, rr_241_8, rr_241_9]
theorem e_X12_isType_2 (F P n : Nat) (v1 : Int32) (v2 : Int32) (D : xDt) : f_X12_isType_2 F P xS0 (n + 1) 241 v1 v2 D = (if (D.1 241 38) ≤ v2 then (some (1, D)) else (xgrd (xin v2 2100) (xlet (D.1 267 (v2).toNatClampNeg) fun v3_2 => xgrd (xin v3_2 92800) (if (D.1 247 (v3_2).toNatClampNeg) = 1 then (f_X12_isType_123 F P xS0 (f_X12_isType_2 F P xS0 n) 241 v1 v2 D) else (if ((jishr v1 v2) &&& 1) = 1 then (xgrd (xin v3_2 92800) (xgrd (xin ((D.1 248 (v3_2).toNatClampNeg) - 12800) 8000) (if (D.1 272 ((D.1 248 (v3_2).toNatClampNeg) - 12800).toNatClampNeg) = 0 then (some (0, D)) else (f_X12_isType_59 F P xS0 (f_X12_isType_2 F P xS0 n) F 241 v1 v2 v3_2 0 D)))) else (f_X12_isType_123 F P xS0 (f_X12_isType_2 F P xS0 n) 241 v1 v2 D)))))) := e_X12_isType_2s F P (f_X12_isType_2 F P xS0 n) v1 v2 D
set_option maxHeartbeats 2000000 in
theorem e_X12_isType (F P : Nat) (v1 : Int32) (D : xDt) : f_X12_isType F P xS0 241 v1 D = (f_X12_isType_2 F P xS0 F 241 v1 0 D) := by
  unfold f_X12_isType
  rfl
set_option maxHeartbeats 2000000 in
theorem e_X12_root_2s (F P : Nat) (rec_2 : Nat → Int32 → xDt → Option (Int32 × xDt)) (v2 : Int32) (D : xDt) : f_X12_root_2s F P xS0 rec_2 241 v2 D = (xgrd (xin v2 8192) (if (D.1 270 (v2).toNatClampNeg) = v2 then (some (v2, D)) else (xgrd (xin v2 8192) (xgrd (xin (D.1 270 (v2).toNatClampNeg) 8192) (xgrd (xin v2 8192) (xlet (xup D.1 270 (v2).toNatClampNeg (D.1 270 (D.1 270 (v2).toNatClampNeg).toNatClampNeg), D.2) fun D5 => xgrd (xin v2 8192) (xlet (D5.1 270 (v2).toNatClampNeg) fun v2_7 => rec_2 241 v2_7 D5))))))) := by
  unfold f_X12_root_2s
  simp only [ll_270, rr_241_41]
theorem e_X12_root_2 (F P n : Nat) (v2 : Int32) (D : xDt) : f_X12_root_2 F P xS0 (n + 1) 241 v2 D = (xgrd (xin v2 8192) (if (D.1 270 (v2).toNatClampNeg) = v2 then (some (v2, D)) else (xgrd (xin v2 8192) (xgrd (xin (D.1 270 (v2).toNatClampNeg) 8192) (xgrd (xin v2 8192) (xlet (xup D.1 270 (v2).toNatClampNeg (D.1 270 (D.1 270 (v2).toNatClampNeg).toNatClampNeg), D.2) fun D5 => xgrd (xin v2 8192) (xlet (D5.1 270 (v2).toNatClampNeg) fun v2_7 => (f_X12_root_2 F P xS0 n) 241 v2_7 D5))))))) := e_X12_root_2s F P (f_X12_root_2 F P xS0 n) v2 D
set_option maxHeartbeats 2000000 in
theorem e_X12_root (F P : Nat) (v1 : Int32) (D : xDt) : f_X12_root F P xS0 241 v1 D = (f_X12_root_2 F P xS0 F 241 v1 D) := by
  unfold f_X12_root
  rfl
set_option maxHeartbeats 2000000 in
theorem e_X12_unite_99 (F P : Nat) (rec_33 : Nat → Int32 → Int32 → Int32 → xDt → Option (xDt)) (v2 : Int32) (v3 : Int32) (v4 : Int32) (D : xDt) : f_X12_unite_99 F P xS0 rec_33 241 v2 v3 v4 D = (xlet (v4 + 1) fun v4_1 => rec_33 241 v2 v3 v4_1 D) := by
  unfold f_X12_unite_99
  rfl
set_option maxHeartbeats 2000000 in
theorem e_X12_unite_33s (F P : Nat) (rec_33 : Nat → Int32 → Int32 → Int32 → xDt → Option (xDt)) (v2 : Int32) (v3 : Int32) (v4 : Int32) (D : xDt) : f_X12_unite_33s F P xS0 rec_33 241 v2 v3 v4 D = (if v2 ≤ v4 then (some D) else (xgrd (xin v4 8192) (if (D.1 268 (v4).toNatClampNeg) = 0 then (f_X12_unite_99 F P xS0 rec_33 241 v2 v3 v4 D) else (xlet (v4 &&& v3) fun v5_2 => xgrd (xin v5_2 8192) (if 0 ≤ (D.1 271 (v5_2).toNatClampNeg) then ((f_X12_root F P xS0 241 v4 D).bind fun q4 => xgrd (xin v5_2 8192) ((f_X12_root F P xS0 241 (q4.2.1 271 (v5_2).toNatClampNeg) q4.2).bind fun q6 => xgrd (xin q4.1 8192) (xlet (xup q6.2.1 270 (q4.1).toNatClampNeg q6.1, q6.2.2) fun D8 => f_X12_unite_99 F P xS0 rec_33 241 v2 v3 v4 D8))) else (xgrd (xin v5_2 8192) (xlet (xup D.1 271 (v5_2).toNatClampNeg v4, D.2) fun D10 => f_X12_unite_99 F P xS0 rec_33 241 v2 v3 v4 D10))))))) := by
  unfold f_X12_unite_33s
  simp only [ll_268, ll_270, ll_271, rr_241_39, rr_241_41, rr_241_42]
theorem e_X12_unite_33 (F P n : Nat) (v2 : Int32) (v3 : Int32) (v4 : Int32) (D : xDt) : f_X12_unite_33 F P xS0 (n + 1) 241 v2 v3 v4 D = (if v2 ≤ v4 then (some D) else (xgrd (xin v4 8192) (if (D.1 268 (v4).toNatClampNeg) = 0 then (f_X12_unite_99 F P xS0 (f_X12_unite_33 F P xS0 n) 241 v2 v3 v4 D) else (xlet (v4 &&& v3) fun v5_2 => xgrd (xin v5_2 8192) (if 0 ≤ (D.1 271 (v5_2).toNatClampNeg) then ((f_X12_root F P xS0 241 v4 D).bind fun q4 => xgrd (xin v5_2 8192) ((f_X12_root F P xS0 241 (q4.2.1 271 (v5_2).toNatClampNeg) q4.2).bind fun q6 => xgrd (xin q4.1 8192) (xlet (xup q6.2.1 270 (q4.1).toNatClampNeg q6.1, q6.2.2) fun D8 => f_X12_unite_99 F P xS0 (f_X12_unite_33 F P xS0 n) 241 v2 v3 v4 D8))) else (xgrd (xin v5_2 8192) (xlet (xup D.1 271 (v5_2).toNatClampNeg v4, D.2) fun D10 => f_X12_unite_99 F P xS0 (f_X12_unite_33 F P xS0 n) 241 v2 v3 v4 D10))))))) := e_X12_unite_33s F P (f_X12_unite_33 F P xS0 n) v2 v3 v4 D
set_option maxHeartbeats 2000000 in
theorem e_X12_unite_9s (F P : Nat) (rec_9 : Nat → Int32 → Int32 → Int32 → xDt → Option (xDt)) (v2 : Int32) (v3 : Int32) (v4 : Int32) (D : xDt) : f_X12_unite_9s F P xS0 rec_9 241 v2 v3 v4 D = (if v2 ≤ v4 then (f_X12_unite_33 F P xS0 F 241 v2 v3 0 D) else (xgrd (xin v4 8192) (xlet (xup D.1 271 (v4).toNatClampNeg (-2), D.2) fun D2 => xlet (v4 + 1) fun v4_3 => rec_9 241 v2 v3 v4_3 D2))) := by
  unfold f_X12_unite_9s
  simp only [ll_271, rr_241_42]
theorem e_X12_unite_9 (F P n : Nat) (v2 : Int32) (v3 : Int32) (v4 : Int32) (D : xDt) : f_X12_unite_9 F P xS0 (n + 1) 241 v2 v3 v4 D = (if v2 ≤ v4 then (f_X12_unite_33 F P xS0 F 241 v2 v3 0 D) else (xgrd (xin v4 8192) (xlet (xup D.1 271 (v4).toNatClampNeg (-2), D.2) fun D2 => xlet (v4 + 1) fun v4_3 => (f_X12_unite_9 F P xS0 n) 241 v2 v3 v4_3 D2))) := e_X12_unite_9s F P (f_X12_unite_9 F P xS0 n) v2 v3 v4 D
set_option maxHeartbeats 2000000 in
theorem e_X12_unite (F P : Nat) (v1 : Int32) (v2 : Int32) (D : xDt) : f_X12_unite F P xS0 241 v1 v2 D = ((f_X12_agentsBits F P xS0 241 v1 D).bind fun q1 => f_X12_unite_9 F P xS0 F 241 v2 q1.1 0 q1.2) := by
  unfold f_X12_unite
  rfl
set_option maxHeartbeats 2000000 in
theorem e_X12_sift_62 (F P : Nat) (rec_34 : Nat → Int32 → Int32 → Int32 → Int32 → xDt → Option (Int32 × xDt)) (v1 : Int32) (v2 : Int32) (v3 : Int32) (v4 : Int32) (D : xDt) : f_X12_sift_62 F P xS0 rec_34 241 v1 v2 v3 v4 D = (xlet (v4 + 1) fun v4_1 => rec_34 241 v1 v2 v3 v4_1 D) := by
  unfold f_X12_sift_62
  rfl
set_option maxHeartbeats 2000000 in
theorem e_X12_sift_138 (F P : Nat) (rec_95 : Nat → Int32 → Int32 → Int32 → xDt → Option (Int32 × xDt)) (v1 : Int32) (v2 : Int32) (v4 : Int32) (D : xDt) : f_X12_sift_138 F P xS0 rec_95 241 v1 v2 v4 D = (xlet (v4 + 1) fun v4_1 => rec_95 241 v1 v2 v4_1 D) := by
  unfold f_X12_sift_138
  rfl
set_option maxHeartbeats 2000000 in
theorem e_X12_sift_200 (F P : Nat) (rec_150 : Nat → Int32 → Int32 → Int32 → Int32 → xDt → Option (Int32 × xDt)) (v1 : Int32) (v2 : Int32) (v4 : Int32) (v5 : Int32) (D : xDt) : f_X12_sift_200 F P xS0 rec_150 241 v1 v2 v4 v5 D = (xlet (v5 + 1) fun v5_1 => rec_150 241 v1 v2 v4 v5_1 D) := by
  unfold f_X12_sift_200
  rfl
set_option maxHeartbeats 2000000 in
theorem e_X12_sift_150s (F P : Nat) (rec_150 : Nat → Int32 → Int32 → Int32 → Int32 → xDt → Option (Int32 × xDt)) (v1 : Int32) (v2 : Int32) (v4 : Int32) (v5 : Int32) (D : xDt) : f_X12_sift_150s F P xS0 rec_150 241 v1 v2 v4 v5 D = (if v2 ≤ v5 then (xgrd (xb v4) (some (v4, D))) else (xgrd (xin v5 8192) (if (D.1 268 (v5).toNatClampNeg) = 0 then (f_X12_sift_200 F P xS0 rec_150 241 v1 v2 v4 v5 D) else (if ((jishr v5 v1) &&& 1) = 0 then ((f_X12_root F P xS0 241 v5 D).bind fun q3 => xgrd (xin q3.1 8192) (if 0 ≤ (q3.2.1 271 (q3.1).toNatClampNeg) then (f_X12_sift_200 F P xS0 rec_150 241 v1 v2 v4 v5 q3.2) else (xgrd (xin v5 8192) (xlet (xup q3.2.1 268 (v5).toNatClampNeg (0 &&& 1), q3.2.2) fun D6 => f_X12_sift_200 F P xS0 rec_150 241 v1 v2 1 v5 D6)))) else (f_X12_sift_200 F P xS0 rec_150 241 v1 v2 v4 v5 D))))) := by
  unfold f_X12_sift_150s
  simp only [ll_268, ll_271, rr_241_39, rr_241_42]
theorem e_X12_sift_150 (F P n : Nat) (v1 : Int32) (v2 : Int32) (v4 : Int32) (v5 : Int32) (D : xDt) : f_X12_sift_150 F P xS0 (n + 1) 241 v1 v2 v4 v5 D = (if v2 ≤ v5 then (xgrd (xb v4) (some (v4, D))) else (xgrd (xin v5 8192) (if (D.1 268 (v5).toNatClampNeg) = 0 then (f_X12_sift_200 F P xS0 (f_X12_sift_150 F P xS0 n) 241 v1 v2 v4 v5 D) else (if ((jishr v5 v1) &&& 1) = 0 then ((f_X12_root F P xS0 241 v5 D).bind fun q3 => xgrd (xin q3.1 8192) (if 0 ≤ (q3.2.1 271 (q3.1).toNatClampNeg) then (f_X12_sift_200 F P xS0 (f_X12_sift_150 F P xS0 n) 241 v1 v2 v4 v5 q3.2) else (xgrd (xin v5 8192) (xlet (xup q3.2.1 268 (v5).toNatClampNeg (0 &&& 1), q3.2.2) fun D6 => f_X12_sift_200 F P xS0 (f_X12_sift_150 F P xS0 n) 241 v1 v2 1 v5 D6)))) else (f_X12_sift_200 F P xS0 (f_X12_sift_150 F P xS0 n) 241 v1 v2 v4 v5 D))))) := e_X12_sift_150s F P (f_X12_sift_150 F P xS0 n) v1 v2 v4 v5 D
set_option maxHeartbeats 2000000 in
theorem e_X12_sift_95s (F P : Nat) (rec_95 : Nat → Int32 → Int32 → Int32 → xDt → Option (Int32 × xDt)) (v1 : Int32) (v2 : Int32) (v4 : Int32) (D : xDt) : f_X12_sift_95s F P xS0 rec_95 241 v1 v2 v4 D = (if v2 ≤ v4 then (f_X12_sift_150 F P xS0 F 241 v1 v2 0 0 D) else (xgrd (xin v4 8192) (if (D.1 268 (v4).toNatClampNeg) = 0 then (f_X12_sift_138 F P xS0 rec_95 241 v1 v2 v4 D) else (xgrd (xin v4 8192) (if ((jishr (D.1 269 (v4).toNatClampNeg) v1) &&& 1) = 0 then ((f_X12_root F P xS0 241 v4 D).bind fun q3 => xgrd (xin q3.1 8192) (xlet (xup q3.2.1 271 (q3.1).toNatClampNeg v4, q3.2.2) fun D5 => f_X12_sift_138 F P xS0 rec_95 241 v1 v2 v4 D5)) else (f_X12_sift_138 F P xS0 rec_95 241 v1 v2 v4 D)))))) := by
  unfold f_X12_sift_95s
  simp only [ll_268, ll_269, ll_271, rr_241_39, rr_241_40, rr_241_42]
theorem e_X12_sift_95 (F P n : Nat) (v1 : Int32) (v2 : Int32) (v4 : Int32) (D : xDt) : f_X12_sift_95 F P xS0 (n + 1) 241 v1 v2 v4 D = (if v2 ≤ v4 then (f_X12_sift_150 F P xS0 F 241 v1 v2 0 0 D) else (xgrd (xin v4 8192) (if (D.1 268 (v4).toNatClampNeg) = 0 then (f_X12_sift_138 F P xS0 (f_X12_sift_95 F P xS0 n) 241 v1 v2 v4 D) else (xgrd (xin v4 8192) (if ((jishr (D.1 269 (v4).toNatClampNeg) v1) &&& 1) = 0 then ((f_X12_root F P xS0 241 v4 D).bind fun q3 => xgrd (xin q3.1 8192) (xlet (xup q3.2.1 271 (q3.1).toNatClampNeg v4, q3.2.2) fun D5 => f_X12_sift_138 F P xS0 (f_X12_sift_95 F P xS0 n) 241 v1 v2 v4 D5)) else (f_X12_sift_138 F P xS0 (f_X12_sift_95 F P xS0 n) 241 v1 v2 v4 D)))))) := e_X12_sift_95s F P (f_X12_sift_95 F P xS0 n) v1 v2 v4 D
set_option maxHeartbeats 2000000 in
theorem e_X12_sift_71s (F P : Nat) (rec_71 : Nat → Int32 → Int32 → Int32 → xDt → Option (Int32 × xDt)) (v1 : Int32) (v2 : Int32) (v4 : Int32) (D : xDt) : f_X12_sift_71s F P xS0 rec_71 241 v1 v2 v4 D = (if v2 ≤ v4 then (f_X12_sift_95 F P xS0 F 241 v1 v2 0 D) else (xgrd (xin v4 8192) (xlet (xup D.1 271 (v4).toNatClampNeg (-2), D.2) fun D2 => xlet (v4 + 1) fun v4_3 => rec_71 241 v1 v2 v4_3 D2))) := by
  unfold f_X12_sift_71s
  simp only [ll_271, rr_241_42]
theorem e_X12_sift_71 (F P n : Nat) (v1 : Int32) (v2 : Int32) (v4 : Int32) (D : xDt) : f_X12_sift_71 F P xS0 (n + 1) 241 v1 v2 v4 D = (if v2 ≤ v4 then (f_X12_sift_95 F P xS0 F 241 v1 v2 0 D) else (xgrd (xin v4 8192) (xlet (xup D.1 271 (v4).toNatClampNeg (-2), D.2) fun D2 => xlet (v4 + 1) fun v4_3 => (f_X12_sift_71 F P xS0 n) 241 v1 v2 v4_3 D2))) := e_X12_sift_71s F P (f_X12_sift_71 F P xS0 n) v1 v2 v4 D
set_option maxHeartbeats 2000000 in
theorem e_X12_sift_34s (F P : Nat) (rec_34 : Nat → Int32 → Int32 → Int32 → Int32 → xDt → Option (Int32 × xDt)) (v1 : Int32) (v2 : Int32) (v3 : Int32) (v4 : Int32) (D : xDt) : f_X12_sift_34s F P xS0 rec_34 241 v1 v2 v3 v4 D = (if 4 ≤ v4 then (f_X12_sift_71 F P xS0 F 241 v1 v2 0 D) else (xgrd (xin v3 92800) (if ((jishr (D.1 250 (v3).toNatClampNeg) v4) &&& 1) = 1 then ((f_X12_unite F P xS0 241 v4 v2 D).bind fun q2 => f_X12_sift_62 F P xS0 rec_34 241 v1 v2 v3 v4 q2) else (f_X12_sift_62 F P xS0 rec_34 241 v1 v2 v3 v4 D)))) := by
  unfold f_X12_sift_34s
  simp only [ll_250, rr_241_11]
theorem e_X12_sift_34 (F P n : Nat) (v1 : Int32) (v2 : Int32) (v3 : Int32) (v4 : Int32) (D : xDt) : f_X12_sift_34 F P xS0 (n + 1) 241 v1 v2 v3 v4 D = (if 4 ≤ v4 then (f_X12_sift_71 F P xS0 F 241 v1 v2 0 D) else (xgrd (xin v3 92800) (if ((jishr (D.1 250 (v3).toNatClampNeg) v4) &&& 1) = 1 then ((f_X12_unite F P xS0 241 v4 v2 D).bind fun q2 => f_X12_sift_62 F P xS0 (f_X12_sift_34 F P xS0 n) 241 v1 v2 v3 v4 q2) else (f_X12_sift_62 F P xS0 (f_X12_sift_34 F P xS0 n) 241 v1 v2 v3 v4 D)))) := e_X12_sift_34s F P (f_X12_sift_34 F P xS0 n) v1 v2 v3 v4 D
set_option maxHeartbeats 2000000 in
theorem e_X12_sift_10s (F P : Nat) (rec_10 : Nat → Int32 → Int32 → Int32 → Int32 → xDt → Option (Int32 × xDt)) (v1 : Int32) (v2 : Int32) (v3 : Int32) (v4 : Int32) (D : xDt) : f_X12_sift_10s F P xS0 rec_10 241 v1 v2 v3 v4 D = (if v2 ≤ v4 then (f_X12_sift_34 F P xS0 F 241 v1 v2 v3 0 D) else (xgrd (xin v4 8192) (xlet (xup D.1 270 (v4).toNatClampNeg v4, D.2) fun D2 => xlet (v4 + 1) fun v4_3 => rec_10 241 v1 v2 v3 v4_3 D2))) := by
  unfold f_X12_sift_10s
  simp only [ll_270, rr_241_41]
theorem e_X12_sift_10 (F P n : Nat) (v1 : Int32) (v2 : Int32) (v3 : Int32) (v4 : Int32) (D : xDt) : f_X12_sift_10 F P xS0 (n + 1) 241 v1 v2 v3 v4 D = (if v2 ≤ v4 then (f_X12_sift_34 F P xS0 F 241 v1 v2 v3 0 D) else (xgrd (xin v4 8192) (xlet (xup D.1 270 (v4).toNatClampNeg v4, D.2) fun D2 => xlet (v4 + 1) fun v4_3 => (f_X12_sift_10 F P xS0 n) 241 v1 v2 v3 v4_3 D2))) := e_X12_sift_10s F P (f_X12_sift_10 F P xS0 n) v1 v2 v3 v4 D
set_option maxHeartbeats 2000000 in
theorem e_X12_sift (F P : Nat) (v1 : Int32) (v2 : Int32) (D : xDt) : f_X12_sift F P xS0 241 v1 v2 D = (xgrd (xin v1 2100) (xlet (D.1 267 (v1).toNatClampNeg) fun v3_2 => f_X12_sift_10 F P xS0 F 241 v1 v2 v3_2 0 D)) := by
  unfold f_X12_sift
  simp only [ll_267, rr_241_37]
set_option maxHeartbeats 2000000 in
theorem e_X12_decide_145 (F P : Nat) (rec_56 : Nat → Int32 → Int32 → Int32 → Int32 → xDt → Option (Int32 × xDt)) (rec_99 : Nat → Int32 → Int32 → Int32 → Int32 → Int32 → Int32 → xDt → Option (Int32 × xDt)) (v1 : Int32) (v2 : Int32) (v3 : Int32) (v4 : Int32) (v5 : Int32) (v6 : Int32) (D : xDt) : f_X12_decide_145 F P xS0 rec_56 rec_99 241 v1 v2 v3 v4 v5 v6 D = (xlet (v6 + 1) fun v6_1 => rec_99 241 v1 v2 v3 v4 v5 v6_1 D) := by
  unfold f_X12_decide_145
  rfl
set_option maxHeartbeats 2000000 in
theorem e_X12_decide_151 (F P : Nat) (rec_56 : Nat → Int32 → Int32 → Int32 → Int32 → xDt → Option (Int32 × xDt)) (v1 : Int32) (v2 : Int32) (v3 : Int32) (v4 : Int32) (D : xDt) : f_X12_decide_151 F P xS0 rec_56 241 v1 v2 v3 v4 D = (xlet (v4 + 1) fun v4_1 => rec_56 241 v1 v2 v3 v4_1 D) := by
  unfold f_X12_decide_151
  rfl
set_option maxHeartbeats 2000000 in
theorem e_X12_decide_99s (F P : Nat) (rec_56 : Nat → Int32 → Int32 → Int32 → Int32 → xDt → Option (Int32 × xDt)) (rec_99 : Nat → Int32 → Int32 → Int32 → Int32 → Int32 → Int32 → xDt → Option (Int32 × xDt)) (v1 : Int32) (v2 : Int32) (v3 : Int32) (v4 : Int32) (v5 : Int32) (v6 : Int32) (D : xDt) : f_X12_decide_99s F P xS0 rec_56 rec_99 241 v1 v2 v3 v4 v5 v6 D = (if 4 ≤ v6 then (f_X12_decide_151 F P xS0 rec_56 241 v1 v2 v3 v4 D) else (if v5 = 8 then (xgrd (xin v4 92800) (if ((jishr (D.1 250 (v4).toNatClampNeg) v6) &&& 1) = 1 then ((f_X12_shared F P xS0 241 5 v4 (-2) (jishl 1 v6) D).bind fun q2 => (f_X12_inBase F P xS0 241 q2.1 q2.2).bind fun q3 => f_X12_decide_145 F P xS0 rec_56 rec_99 241 v1 v2 v3 v4 v5 v6 q3) else (f_X12_decide_145 F P xS0 rec_56 rec_99 241 v1 v2 v3 v4 v5 v6 D))) else (f_X12_decide_151 F P xS0 rec_56 241 v1 v2 v3 v4 D))) := by
  unfold f_X12_decide_99s
  simp only [ll_250, rr_241_11]
theorem e_X12_decide_99 (F P n : Nat) (rec_56 : Nat → Int32 → Int32 → Int32 → Int32 → xDt → Option (Int32 × xDt)) (v1 : Int32) (v2 : Int32) (v3 : Int32) (v4 : Int32) (v5 : Int32) (v6 : Int32) (D : xDt) : f_X12_decide_99 F P xS0 rec_56 (n + 1) 241 v1 v2 v3 v4 v5 v6 D = (if 4 ≤ v6 then (f_X12_decide_151 F P xS0 rec_56 241 v1 v2 v3 v4 D) else (if v5 = 8 then (xgrd (xin v4 92800) (if ((jishr (D.1 250 (v4).toNatClampNeg) v6) &&& 1) = 1 then ((f_X12_shared F P xS0 241 5 v4 (-2) (jishl 1 v6) D).bind fun q2 => (f_X12_inBase F P xS0 241 q2.1 q2.2).bind fun q3 => f_X12_decide_145 F P xS0 rec_56 (f_X12_decide_99 F P xS0 rec_56 n) 241 v1 v2 v3 v4 v5 v6 q3) else (f_X12_decide_145 F P xS0 rec_56 (f_X12_decide_99 F P xS0 rec_56 n) 241 v1 v2 v3 v4 v5 v6 D))) else (f_X12_decide_151 F P xS0 rec_56 241 v1 v2 v3 v4 D))) := e_X12_decide_99s F P rec_56 (f_X12_decide_99 F P xS0 rec_56 n) v1 v2 v3 v4 v5 v6 D
set_option maxHeartbeats 2000000 in
theorem e_X12_decide_96 (F P : Nat) (rec_56 : Nat → Int32 → Int32 → Int32 → Int32 → xDt → Option (Int32 × xDt)) (v1 : Int32) (v2 : Int32) (v3 : Int32) (v4 : Int32) (v5 : Int32) (D : xDt) : f_X12_decide_96 F P xS0 rec_56 241 v1 v2 v3 v4 v5 D = (f_X12_decide_99 F P xS0 rec_56 F 241 v1 v2 v3 v4 v5 0 D) := by
  unfold f_X12_decide_96
  rfl
set_option maxHeartbeats 2000000 in
theorem e_X12_decide_90 (F P : Nat) (rec_56 : Nat → Int32 → Int32 → Int32 → Int32 → xDt → Option (Int32 × xDt)) (v1 : Int32) (v2 : Int32) (v3 : Int32) (v4 : Int32) (v5 : Int32) (D : xDt) : f_X12_decide_90 F P xS0 rec_56 241 v1 v2 v3 v4 v5 D = ((f_X12_inBase F P xS0 241 v4 D).bind fun q1 => f_X12_decide_96 F P xS0 rec_56 241 v1 v2 v3 v4 v5 q1) := by
  unfold f_X12_decide_90
  rfl
set_option maxHeartbeats 2000000 in
theorem e_X12_decide_330 (F P : Nat) (rec_188 : Nat → Int32 → Int32 → Int32 → Int32 → Int32 → Int32 → xDt → Option (Int32 × xDt)) (rec_265 : Nat → Int32 → Int32 → Int32 → Int32 → Int32 → Int32 → Int32 → xDt → Option (Int32 × xDt)) (v1 : Int32) (v2 : Int32) (v3 : Int32) (v4 : Int32) (v5 : Int32) (v6 : Int32) (v7 : Int32) (s0 : Int32) (s1 : Int32) (s2 : Int32) (s3 : Nat) (D : xDt) : f_X12_decide_330 F P xS0 rec_188 rec_265 241 v1 v2 v3 v4 v5 v6 v7 s0 s1 s2 s3 D = (xgrd (xin s2 (xl xS0 s3)) (xlet (xup D.1 s3 (s2).toNatClampNeg (s1 ||| s0), D.2) fun D2 => xlet (v7 + 1) fun v7_3 => rec_265 241 v1 v2 v3 v4 v5 v6 v7_3 D2)) := by
  unfold f_X12_decide_330
  rfl
set_option maxHeartbeats 2000000 in
theorem e_X12_decide_329 (F P : Nat) (rec_188 : Nat → Int32 → Int32 → Int32 → Int32 → Int32 → Int32 → xDt → Option (Int32 × xDt)) (rec_265 : Nat → Int32 → Int32 → Int32 → Int32 → Int32 → Int32 → Int32 → xDt → Option (Int32 × xDt)) (v1 : Int32) (v2 : Int32) (v3 : Int32) (v4 : Int32) (v5 : Int32) (v6 : Int32) (v7 : Int32) (s0 : Int32) (s1 : Int32) (s2 : Nat) (D : xDt) : f_X12_decide_329 F P xS0 rec_188 rec_265 241 v1 v2 v3 v4 v5 v6 v7 s0 s1 s2 D = (f_X12_decide_330 F P xS0 rec_188 rec_265 241 v1 v2 v3 v4 v5 v6 v7 0 s0 s1 s2 D) := by
  unfold f_X12_decide_329
  rfl
set_option maxHeartbeats 2000000 in
theorem e_X12_decide_265s (F P : Nat) (rec_188 : Nat → Int32 → Int32 → Int32 → Int32 → Int32 → Int32 → xDt → Option (Int32 × xDt)) (rec_265 : Nat → Int32 → Int32 → Int32 → Int32 → Int32 → Int32 → Int32 → xDt → Option (Int32 × xDt)) (v1 : Int32) (v2 : Int32) (v3 : Int32) (v4 : Int32) (v5 : Int32) (v6 : Int32) (v7 : Int32) (D : xDt) : f_X12_decide_265s F P xS0 rec_188 rec_265 241 v1 v2 v3 v4 v5 v6 v7 D = (if (D.1 241 38) ≤ v7 then (xlet (v6 + 1) fun v6_1 => rec_188 241 v1 v2 v3 v4 v5 v6_1 D) else (xgrd (xin v6 8192) (xgrd (xin v7 2100) (xgrd (xin (D.1 267 (v7).toNatClampNeg) 92800) (if (D.1 247 (D.1 267 (v7).toNatClampNeg).toNatClampNeg) = 1 then (f_X12_decide_329 F P xS0 rec_188 rec_265 241 v1 v2 v3 v4 v5 v6 v7 (D.1 269 (v6).toNatClampNeg) v6 269 D) else (xgrd (xin v7 2100) (xgrd (xin (D.1 267 (v7).toNatClampNeg) 92800) (xgrd (xin ((D.1 248 (D.1 267 (v7).toNatClampNeg).toNatClampNeg) - 12800) 8000) (if (D.1 272 ((D.1 248 (D.1 267 (v7).toNatClampNeg).toNatClampNeg) - 12800).toNatClampNeg) = 0 then (f_X12_decide_329 F P xS0 rec_188 rec_265 241 v1 v2 v3 v4 v5 v6 v7 (D.1 269 (v6).toNatClampNeg) v6 269 D) else (f_X12_decide_330 F P xS0 rec_188 rec_265 241 v1 v2 v3 v4 v5 v6 v7 (jishl 1 v7) (D.1 269 (v6).toNatClampNeg) v6 269 D)))))))))) := by
  unfold f_X12_decide_265s
  simp only [ll_247, ll_248, ll_267, ll_269, ll_272, rr_241_37, rr_241_40, rr_241_43, rr_241_8, rr_241_9]
theorem e_X12_decide_265 (F P n : Nat) (rec_188 : Nat → Int32 → Int32 → Int32 → Int32 → Int32 → Int32 → xDt → Option (Int32 × xDt)) (v1 : Int32) (v2 : Int32) (v3 : Int32) (v4 : Int32) (v5 : Int32) (v6 : Int32) (v7 : Int32) (D : xDt) : f_X12_decide_265 F P xS0 rec_188 (n + 1) 241 v1 v2 v3 v4 v5 v6 v7 D = (if (D.1 241 38) ≤ v7 then (xlet (v6 + 1) fun v6_1 => rec_188 241 v1 v2 v3 v4 v5 v6_1 D) else (xgrd (xin v6 8192) (xgrd (xin v7 2100) (xgrd (xin (D.1 267 (v7).toNatClampNeg) 92800) (if (D.1 247 (D.1 267 (v7).toNatClampNeg).toNatClampNeg) = 1 then (f_X12_decide_329 F P xS0 rec_188 (f_X12_decide_265 F P xS0 rec_188 n) 241 v1 v2 v3 v4 v5 v6 v7 (D.1 269 (v6).toNatClampNeg) v6 269 D) else (xgrd (xin v7 2100) (xgrd (xin (D.1 267 (v7).toNatClampNeg) 92800) (xgrd (xin ((D.1 248 (D.1 267 (v7).toNatClampNeg).toNatClampNeg) - 12800) 8000) (if (D.1 272 ((D.1 248 (D.1 267 (v7).toNatClampNeg).toNatClampNeg) - 12800).toNatClampNeg) = 0 then (f_X12_decide_329 F P xS0 rec_188 (f_X12_decide_265 F P xS0 rec_188 n) 241 v1 v2 v3 v4 v5 v6 v7 (D.1 269 (v6).toNatClampNeg) v6 269 D) else (f_X12_decide_330 F P xS0 rec_188 (f_X12_decide_265 F P xS0 rec_188 n) 241 v1 v2 v3 v4 v5 v6 v7 (jishl 1 v7) (D.1 269 (v6).toNatClampNeg) v6 269 D)))))))))) := e_X12_decide_265s F P rec_188 (f_X12_decide_265 F P xS0 rec_188 n) v1 v2 v3 v4 v5 v6 v7 D
set_option maxHeartbeats 2000000 in
theorem e_X12_decide_261 (F P : Nat) (rec_188 : Nat → Int32 → Int32 → Int32 → Int32 → Int32 → Int32 → xDt → Option (Int32 × xDt)) (v1 : Int32) (v2 : Int32) (v3 : Int32) (v4 : Int32) (v5 : Int32) (v6 : Int32) (s0 : Int32) (s1 : Int32) (s2 : Nat) (D : xDt) : f_X12_decide_261 F P xS0 rec_188 241 v1 v2 v3 v4 v5 v6 s0 s1 s2 D = (xgrd (xin s1 (xl xS0 s2)) (xlet (xup D.1 s2 (s1).toNatClampNeg s0, D.2) fun D2 => f_X12_decide_265 F P xS0 rec_188 F 241 v1 v2 v3 v4 v5 v6 0 D2)) := by
  unfold f_X12_decide_261
  rfl
set_option maxHeartbeats 2000000 in
theorem e_X12_decide_232 (F P : Nat) (rec_188 : Nat → Int32 → Int32 → Int32 → Int32 → Int32 → Int32 → xDt → Option (Int32 × xDt)) (v1 : Int32) (v2 : Int32) (v3 : Int32) (v4 : Int32) (v6 : Int32) (s0 : Int32) (s1 : Int32) (D : xDt) : f_X12_decide_232 F P xS0 rec_188 241 v1 v2 v3 v4 v6 s0 s1 D = (xlet (s1 + s0) fun v5_1 => xgrd (xin (v2 - 12800) 8000) (if (D.1 272 (v2 - 12800).toNatClampNeg) = 0 then (f_X12_decide_261 F P xS0 rec_188 241 v1 v2 v3 v4 v5_1 v6 0 v6 269 D) else (f_X12_decide_261 F P xS0 rec_188 241 v1 v2 v3 v4 v5_1 v6 8192 v6 269 D))) := by
  unfold f_X12_decide_232
  simp only [ll_272, rr_241_40, rr_241_43]
set_option maxHeartbeats 2000000 in
theorem e_X12_decide_404 (F P : Nat) (rec_347 : Nat → Int32 → Int32 → Int32 → Int32 → xDt → Option (Int32 × xDt)) (rec_358 : Nat → Int32 → Int32 → Int32 → Int32 → Int32 → xDt → Option (Int32 × xDt)) (v1 : Int32) (v4 : Int32) (v5 : Int32) (v7 : Int32) (s0 : Int32) (D : xDt) : f_X12_decide_404 F P xS0 rec_347 rec_358 241 v1 v4 v5 v7 s0 D = (xlet (v7 + 1) fun v7_1 => rec_358 241 v1 v4 v5 s0 v7_1 D) := by
  unfold f_X12_decide_404
  rfl
set_option maxHeartbeats 2000000 in
theorem e_X12_decide_399 (F P : Nat) (rec_347 : Nat → Int32 → Int32 → Int32 → Int32 → xDt → Option (Int32 × xDt)) (rec_358 : Nat → Int32 → Int32 → Int32 → Int32 → Int32 → xDt → Option (Int32 × xDt)) (v1 : Int32) (v4 : Int32) (v5 : Int32) (v7 : Int32) (D : xDt) : f_X12_decide_399 F P xS0 rec_347 rec_358 241 v1 v4 v5 v7 D = (f_X12_decide_404 F P xS0 rec_347 rec_358 241 v1 v4 v5 v7 1 D) := by
  unfold f_X12_decide_399
  rfl
set_option maxHeartbeats 2000000 in
theorem e_X12_decide_394 (F P : Nat) (rec_347 : Nat → Int32 → Int32 → Int32 → Int32 → xDt → Option (Int32 × xDt)) (rec_358 : Nat → Int32 → Int32 → Int32 → Int32 → Int32 → xDt → Option (Int32 × xDt)) (v1 : Int32) (v4 : Int32) (v5 : Int32) (v6 : Int32) (v7 : Int32) (D : xDt) : f_X12_decide_394 F P xS0 rec_347 rec_358 241 v1 v4 v5 v6 v7 D = (if v6 = 0 then (f_X12_decide_404 F P xS0 rec_347 rec_358 241 v1 v4 v5 v7 0 D) else (f_X12_decide_399 F P xS0 rec_347 rec_358 241 v1 v4 v5 v7 D)) := by
  unfold f_X12_decide_394
  rfl
set_option maxHeartbeats 2000000 in
theorem e_X12_decide_358s (F P : Nat) (rec_347 : Nat → Int32 → Int32 → Int32 → Int32 → xDt → Option (Int32 × xDt)) (rec_358 : Nat → Int32 → Int32 → Int32 → Int32 → Int32 → xDt → Option (Int32 × xDt)) (v1 : Int32) (v4 : Int32) (v5 : Int32) (v6 : Int32) (v7 : Int32) (D : xDt) : f_X12_decide_358s F P xS0 rec_347 rec_358 241 v1 v4 v5 v6 v7 D = (if (D.1 241 38) ≤ v7 then (rec_347 241 v1 v4 v5 v6 D) else (xgrd (xin v7 2100) (xgrd (xin (D.1 267 (v7).toNatClampNeg) 92800) (if (D.1 247 (D.1 267 (v7).toNatClampNeg).toNatClampNeg) = 1 then (f_X12_decide_394 F P xS0 rec_347 rec_358 241 v1 v4 v5 v6 v7 D) else ((f_X12_sift F P xS0 241 v7 v4 D).bind fun q3 => if q3.1 = 0 then (f_X12_decide_394 F P xS0 rec_347 rec_358 241 v1 v4 v5 v6 v7 q3.2) else (f_X12_decide_399 F P xS0 rec_347 rec_358 241 v1 v4 v5 v7 q3.2)))))) := by
  unfold f_X12_decide_358s
  simp only [ll_247, ll_267, rr_241_37, rr_241_8]
theorem e_X12_decide_358 (F P n : Nat) (rec_347 : Nat → Int32 → Int32 → Int32 → Int32 → xDt → Option (Int32 × xDt)) (v1 : Int32) (v4 : Int32) (v5 : Int32) (v6 : Int32) (v7 : Int32) (D : xDt) : f_X12_decide_358 F P xS0 rec_347 (n + 1) 241 v1 v4 v5 v6 v7 D = (if (D.1 241 38) ≤ v7 then (rec_347 241 v1 v4 v5 v6 D) else (xgrd (xin v7 2100) (xgrd (xin (D.1 267 (v7).toNatClampNeg) 92800) (if (D.1 247 (D.1 267 (v7).toNatClampNeg).toNatClampNeg) = 1 then (f_X12_decide_394 F P xS0 rec_347 (f_X12_decide_358 F P xS0 rec_347 n) 241 v1 v4 v5 v6 v7 D) else ((f_X12_sift F P xS0 241 v7 v4 D).bind fun q3 => if q3.1 = 0 then (f_X12_decide_394 F P xS0 rec_347 (f_X12_decide_358 F P xS0 rec_347 n) 241 v1 v4 v5 v6 v7 q3.2) else (f_X12_decide_399 F P xS0 rec_347 (f_X12_decide_358 F P xS0 rec_347 n) 241 v1 v4 v5 v7 q3.2)))))) := e_X12_decide_358s F P rec_347 (f_X12_decide_358 F P xS0 rec_347 n) v1 v4 v5 v6 v7 D
set_option maxHeartbeats 2000000 in
theorem e_X12_decide_482 (F P : Nat) (rec_424 : Nat → Int32 → Int32 → Int32 → Int32 → Int32 → Int32 → xDt → Option (Int32 × xDt)) (v1 : Int32) (v4 : Int32) (v5 : Int32) (v7 : Int32) (v9 : Int32) (s0 : Int32) (s1 : Int32) (D : xDt) : f_X12_decide_482 F P xS0 rec_424 241 v1 v4 v5 v7 v9 s0 s1 D = (xlet (s1 + s0) fun v8_1 => xlet (v9 + 1) fun v9_2 => rec_424 241 v1 v4 v5 v7 v8_1 v9_2 D) := by
  unfold f_X12_decide_482
  rfl
set_option maxHeartbeats 2000000 in
theorem e_X12_decide_481 (F P : Nat) (rec_424 : Nat → Int32 → Int32 → Int32 → Int32 → Int32 → Int32 → xDt → Option (Int32 × xDt)) (v1 : Int32) (v4 : Int32) (v5 : Int32) (v7 : Int32) (v9 : Int32) (s0 : Int32) (D : xDt) : f_X12_decide_481 F P xS0 rec_424 241 v1 v4 v5 v7 v9 s0 D = (f_X12_decide_482 F P xS0 rec_424 241 v1 v4 v5 v7 v9 0 s0 D) := by
  unfold f_X12_decide_481
  rfl
set_option maxHeartbeats 2000000 in
theorem e_X12_decide_448 (F P : Nat) (rec_424 : Nat → Int32 → Int32 → Int32 → Int32 → Int32 → Int32 → xDt → Option (Int32 × xDt)) (v1 : Int32) (v4 : Int32) (v5 : Int32) (v8 : Int32) (v9 : Int32) (s0 : Int32) (s1 : Int32) (D : xDt) : f_X12_decide_448 F P xS0 rec_424 241 v1 v4 v5 v8 v9 s0 s1 D = (xlet (s1 + s0) fun v7_1 => xgrd (xin v9 8192) (if (D.1 268 (v9).toNatClampNeg) = 0 then (f_X12_decide_481 F P xS0 rec_424 241 v1 v4 v5 v7_1 v9 v8 D) else (xgrd (xin v9 8192) (if (jishr (D.1 269 (v9).toNatClampNeg) 13) = 1 then (f_X12_decide_482 F P xS0 rec_424 241 v1 v4 v5 v7_1 v9 1 v8 D) else (f_X12_decide_481 F P xS0 rec_424 241 v1 v4 v5 v7_1 v9 v8 D))))) := by
  unfold f_X12_decide_448
  simp only [ll_268, ll_269, rr_241_39, rr_241_40]
set_option maxHeartbeats 2000000 in
theorem e_X12_decide_424s (F P : Nat) (rec_424 : Nat → Int32 → Int32 → Int32 → Int32 → Int32 → Int32 → xDt → Option (Int32 × xDt)) (v1 : Int32) (v4 : Int32) (v5 : Int32) (v7 : Int32) (v8 : Int32) (v9 : Int32) (D : xDt) : f_X12_decide_424s F P xS0 rec_424 241 v1 v4 v5 v7 v8 v9 D = (if v4 ≤ v9 then (if v1 = 0 then (if v8 ≤ 0 then (some (0, D)) else (some (1, D))) else (if v1 = 1 then (if v8 = v7 then (some (1, D)) else (some (0, D))) else (if v1 = 2 then (some (D.1 241 38, D)) else (if v1 = 3 then (some (v5, D)) else (if v1 = 4 then (some (v7, D)) else (some (v8, D))))))) else (xgrd (xin v9 8192) (if (D.1 268 (v9).toNatClampNeg) = 0 then (f_X12_decide_448 F P xS0 rec_424 241 v1 v4 v5 v8 v9 0 v7 D) else (f_X12_decide_448 F P xS0 rec_424 241 v1 v4 v5 v8 v9 1 v7 D)))) := by
  unfold f_X12_decide_424s
  simp only [ll_268, rr_241_39]
theorem e_X12_decide_424 (F P n : Nat) (v1 : Int32) (v4 : Int32) (v5 : Int32) (v7 : Int32) (v8 : Int32) (v9 : Int32) (D : xDt) : f_X12_decide_424 F P xS0 (n + 1) 241 v1 v4 v5 v7 v8 v9 D = (if v4 ≤ v9 then (if v1 = 0 then (if v8 ≤ 0 then (some (0, D)) else (some (1, D))) else (if v1 = 1 then (if v8 = v7 then (some (1, D)) else (some (0, D))) else (if v1 = 2 then (some (D.1 241 38, D)) else (if v1 = 3 then (some (v5, D)) else (if v1 = 4 then (some (v7, D)) else (some (v8, D))))))) else (xgrd (xin v9 8192) (if (D.1 268 (v9).toNatClampNeg) = 0 then (f_X12_decide_448 F P xS0 (f_X12_decide_424 F P xS0 n) 241 v1 v4 v5 v8 v9 0 v7 D) else (f_X12_decide_448 F P xS0 (f_X12_decide_424 F P xS0 n) 241 v1 v4 v5 v8 v9 1 v7 D)))) := e_X12_decide_424s F P (f_X12_decide_424 F P xS0 n) v1 v4 v5 v7 v8 v9 D
set_option maxHeartbeats 2000000 in
theorem e_X12_decide_347s (F P : Nat) (rec_347 : Nat → Int32 → Int32 → Int32 → Int32 → xDt → Option (Int32 × xDt)) (v1 : Int32) (v4 : Int32) (v5 : Int32) (v6 : Int32) (D : xDt) : f_X12_decide_347s F P xS0 rec_347 241 v1 v4 v5 v6 D = (if v6 = 0 then (f_X12_decide_424 F P xS0 F 241 v1 v4 v5 0 0 0 D) else (f_X12_decide_358 F P xS0 rec_347 F 241 v1 v4 v5 0 0 D)) := by
  unfold f_X12_decide_347s
  rfl
theorem e_X12_decide_347 (F P n : Nat) (v1 : Int32) (v4 : Int32) (v5 : Int32) (v6 : Int32) (D : xDt) : f_X12_decide_347 F P xS0 (n + 1) 241 v1 v4 v5 v6 D = (if v6 = 0 then (f_X12_decide_424 F P xS0 F 241 v1 v4 v5 0 0 0 D) else (f_X12_decide_358 F P xS0 (f_X12_decide_347 F P xS0 n) F 241 v1 v4 v5 0 0 D)) := e_X12_decide_347s F P (f_X12_decide_347 F P xS0 n) v1 v4 v5 v6 D
set_option maxHeartbeats 2000000 in
theorem e_X12_decide_188s (F P : Nat) (rec_188 : Nat → Int32 → Int32 → Int32 → Int32 → Int32 → Int32 → xDt → Option (Int32 × xDt)) (v1 : Int32) (v2 : Int32) (v3 : Int32) (v4 : Int32) (v5 : Int32) (v6 : Int32) (D : xDt) : f_X12_decide_188s F P xS0 rec_188 241 v1 v2 v3 v4 v5 v6 D = (if v4 ≤ v6 then (f_X12_decide_347 F P xS0 F 241 v1 v4 v5 1 D) else ((f_X12_reckon F P xS0 241 v6 v3 D).bind fun q1 => (f_X12_isType F P xS0 241 v6 q1).bind fun q2 => xgrd (xin v6 8192) (xlet (xup q2.2.1 268 (v6).toNatClampNeg (q2.1 &&& 1), q2.2.2) fun D4 => xgrd (xin v6 8192) (if (D4.1 268 (v6).toNatClampNeg) = 0 then (f_X12_decide_232 F P xS0 rec_188 241 v1 v2 v3 v4 v6 0 v5 D4) else (f_X12_decide_232 F P xS0 rec_188 241 v1 v2 v3 v4 v6 1 v5 D4))))) := by
  unfold f_X12_decide_188s
  simp only [ll_268, rr_241_39]
theorem e_X12_decide_188 (F P n : Nat) (v1 : Int32) (v2 : Int32) (v3 : Int32) (v4 : Int32) (v5 : Int32) (v6 : Int32) (D : xDt) : f_X12_decide_188 F P xS0 (n + 1) 241 v1 v2 v3 v4 v5 v6 D = (if v4 ≤ v6 then (f_X12_decide_347 F P xS0 F 241 v1 v4 v5 1 D) else ((f_X12_reckon F P xS0 241 v6 v3 D).bind fun q1 => (f_X12_isType F P xS0 241 v6 q1).bind fun q2 => xgrd (xin v6 8192) (xlet (xup q2.2.1 268 (v6).toNatClampNeg (q2.1 &&& 1), q2.2.2) fun D4 => xgrd (xin v6 8192) (if (D4.1 268 (v6).toNatClampNeg) = 0 then (f_X12_decide_232 F P xS0 (f_X12_decide_188 F P xS0 n) 241 v1 v2 v3 v4 v6 0 v5 D4) else (f_X12_decide_232 F P xS0 (f_X12_decide_188 F P xS0 n) 241 v1 v2 v3 v4 v6 1 v5 D4))))) := e_X12_decide_188s F P (f_X12_decide_188 F P xS0 n) v1 v2 v3 v4 v5 v6 D
set_option maxHeartbeats 2000000 in
theorem e_X12_decide_56s (F P : Nat) (rec_56 : Nat → Int32 → Int32 → Int32 → Int32 → xDt → Option (Int32 × xDt)) (v1 : Int32) (v2 : Int32) (v3 : Int32) (v4 : Int32) (D : xDt) : f_X12_decide_56s F P xS0 rec_56 241 v1 v2 v3 v4 D = (if v3 ≤ v4 then (if (D.1 241 38) ≤ 13 then (xlet (D.1 241 13) fun v3_1 => xlet (jishl 1 (D.1 241 38)) fun v4_2 => f_X12_decide_188 F P xS0 F 241 v1 v2 v3_1 v4_2 0 0 D) else (some ((-3), D))) else (xgrd (xin v4 92800) (xlet (D.1 247 (v4).toNatClampNeg) fun v5_4 => if v5_4 = 1 then (f_X12_decide_90 F P xS0 rec_56 241 v1 v2 v3 v4 v5_4 D) else (if v5_4 = 5 then (f_X12_decide_90 F P xS0 rec_56 241 v1 v2 v3 v4 v5_4 D) else (if v5_4 = 8 then (f_X12_decide_90 F P xS0 rec_56 241 v1 v2 v3 v4 v5_4 D) else (f_X12_decide_96 F P xS0 rec_56 241 v1 v2 v3 v4 v5_4 D)))))) := by
  unfold f_X12_decide_56s
  simp only [ll_247, rr_241_8]
theorem e_X12_decide_56 (F P n : Nat) (v1 : Int32) (v2 : Int32) (v3 : Int32) (v4 : Int32) (D : xDt) : f_X12_decide_56 F P xS0 (n + 1) 241 v1 v2 v3 v4 D = (if v3 ≤ v4 then (if (D.1 241 38) ≤ 13 then (xlet (D.1 241 13) fun v3_1 => xlet (jishl 1 (D.1 241 38)) fun v4_2 => f_X12_decide_188 F P xS0 F 241 v1 v2 v3_1 v4_2 0 0 D) else (some ((-3), D))) else (xgrd (xin v4 92800) (xlet (D.1 247 (v4).toNatClampNeg) fun v5_4 => if v5_4 = 1 then (f_X12_decide_90 F P xS0 (f_X12_decide_56 F P xS0 n) 241 v1 v2 v3 v4 v5_4 D) else (if v5_4 = 5 then (f_X12_decide_90 F P xS0 (f_X12_decide_56 F P xS0 n) 241 v1 v2 v3 v4 v5_4 D) else (if v5_4 = 8 then (f_X12_decide_90 F P xS0 (f_X12_decide_56 F P xS0 n) 241 v1 v2 v3 v4 v5_4 D) else (f_X12_decide_96 F P xS0 (f_X12_decide_56 F P xS0 n) 241 v1 v2 v3 v4 v5_4 D)))))) := e_X12_decide_56s F P (f_X12_decide_56 F P xS0 n) v1 v2 v3 v4 D
set_option maxHeartbeats 2000000 in
theorem e_X12_decide (F P : Nat) (v1 : Int32) (D : xDt) : f_X12_decide F P xS0 241 v1 D = ((f_X12_in F P xS0 v1 0 5 D).bind fun q1 => if q1.1 = 0 then (some ((-1), q1.2)) else ((f_X12_has F P xS0 P 241 (q1.2.1 241 14) 49664 q1.2).bind fun q2 => if q2.1 = 0 then (xlet (xup q2.2.1 241 13 12800, q2.2.2) fun D3 => (f_X12_plain F P xS0 P 241 (D3.1 241 14) D3).bind fun q4 => xlet (q4.2.1 241 13) fun v3_5 => xlet (xup q4.2.1 241 38 0, q4.2.2) fun D6 => f_X12_decide_56 F P xS0 F 241 v1 q4.1 v3_5 12800 D6) else (some ((-1), q2.2)))) := by
  unfold f_X12_decide
  rfl
set_option maxHeartbeats 2000000 in
theorem e_X12_depth_58 (F P : Nat) (self_X12_depth : Nat → Int32 → xDt → Option (Int32 × xDt)) (v1 : Int32) (s0 : Int32) (D : xDt) : f_X12_depth_58 F P xS0 self_X12_depth 241 v1 s0 D = (xgrd (xin v1 92800) (if (D.1 247 (v1).toNatClampNeg) < 5 then (f_X12_depth_88 F P xS0 self_X12_depth s0 D) else (xgrd (xin v1 92800) (if 9 < (D.1 247 (v1).toNatClampNeg) then (f_X12_depth_88 F P xS0 self_X12_depth s0 D) else (some (s0 + 1, D)))))) := by
  unfold f_X12_depth_58
  simp only [ll_247, rr_241_8]
set_option maxHeartbeats 2000000 in
theorem e_X12_depth_47 (F P : Nat) (self_X12_depth : Nat → Int32 → xDt → Option (Int32 × xDt)) (v1 : Int32) (v2 : Int32) (s0 : Int32) (D : xDt) : f_X12_depth_47 F P xS0 self_X12_depth 241 v1 v2 s0 D = (if v2 ≤ s0 then (f_X12_depth_58 F P xS0 self_X12_depth 241 v1 s0 D) else (f_X12_depth_58 F P xS0 self_X12_depth 241 v1 v2 D)) := by
  unfold f_X12_depth_47
  rfl
set_option maxHeartbeats 2000000 in
theorem e_X12_depth_23 (F P : Nat) (self_X12_depth : Nat → Int32 → xDt → Option (Int32 × xDt)) (v1 : Int32) (s0 : Int32) (D : xDt) : f_X12_depth_23 F P xS0 self_X12_depth 241 v1 s0 D = (xgrd (xin v1 92800) (if 0 ≤ (D.1 249 (v1).toNatClampNeg) then (xgrd (xin v1 92800) ((self_X12_depth 241 (D.1 249 (v1).toNatClampNeg) D).bind fun q3 => f_X12_depth_47 F P xS0 self_X12_depth 241 v1 s0 q3.1 q3.2)) else (f_X12_depth_47 F P xS0 self_X12_depth 241 v1 s0 0 D))) := by
  unfold f_X12_depth_23
  simp only [ll_249, rr_241_10]
set_option maxHeartbeats 2000000 in
theorem e_X12_depth_o (F P : Nat) (self_X12_depth : Nat → Int32 → xDt → Option (Int32 × xDt)) (v1 : Int32) (D : xDt) : f_X12_depth_o F P xS0 self_X12_depth 241 v1 D = (xgrd (xin v1 92800) (if 0 ≤ (D.1 248 (v1).toNatClampNeg) then (xgrd (xin v1 92800) ((self_X12_depth 241 (D.1 248 (v1).toNatClampNeg) D).bind fun q3 => f_X12_depth_23 F P xS0 self_X12_depth 241 v1 q3.1 q3.2)) else (f_X12_depth_23 F P xS0 self_X12_depth 241 v1 0 D))) := by
  unfold f_X12_depth_o
  simp only [ll_248, rr_241_9]
set_option maxHeartbeats 2000000 in
theorem e_X12_count (F P : Nat) (v1 : Int32) (D : xDt) : f_X12_count F P xS0 241 v1 D = (if v1 = 0 then (some (D.1 241 1, D)) else (if v1 = 1 then (some (D.1 241 25, D)) else (if v1 = 2 then (xgrd (xin (D.1 241 14) 92800) (some (D.1 251 (D.1 241 14).toNatClampNeg, D))) else (if v1 = 3 then (some (D.1 241 16, D)) else (if v1 = 4 then (some (D.1 241 7, D)) else (if v1 = 5 then ((f_X12_depth F P xS0 P 241 (D.1 241 14) D).bind fun q2 => some (q2.1, q2.2)) else (some ((-1), D)))))))) := by
  unfold f_X12_count
  simp only [ll_251, rr_241_12]
