/-! printed by wip/whole/gen.py: the methods as plain functions, each proved to be what its bytecode does -/
theorem dX12_event_0 : decode cX12_event 0 = .ok (.aload_n 0, 1) := by decide +kernel
theorem dX12_event_1 : decode cX12_event 1 = .ok (.getfield 265, 3) := by decide +kernel
theorem dX12_event_4 : decode cX12_event 4 = .ok (.bipush 8, 2) := by decide +kernel
theorem dX12_event_6 : decode cX12_event 6 = .ok (.if_icmp .eq 18, 3) := by decide +kernel
theorem dX12_event_9 : decode cX12_event 9 = .ok (.aload_n 0, 1) := by decide +kernel
theorem dX12_event_10 : decode cX12_event 10 = .ok (.getfield 84, 3) := by decide +kernel
theorem dX12_event_13 : decode cX12_event 13 = .ok (.aload_n 0, 1) := by decide +kernel
theorem dX12_event_14 : decode cX12_event 14 = .ok (.getfield 160, 3) := by decide +kernel
theorem dX12_event_17 : decode cX12_event 17 = .ok (.iaload, 1) := by decide +kernel
theorem dX12_event_18 : decode cX12_event 18 = .ok (.sipush 150, 3) := by decide +kernel
theorem dX12_event_21 : decode cX12_event 21 = .ok (.if_icmp .le 5, 3) := by decide +kernel
theorem dX12_event_24 : decode cX12_event 24 = .ok (.iconst (-1), 1) := by decide +kernel
theorem dX12_event_25 : decode cX12_event 25 = .ok (.ireturn, 1) := by decide +kernel
theorem dX12_event_26 : decode cX12_event 26 = .ok (.aload_n 0, 1) := by decide +kernel
theorem dX12_event_27 : decode cX12_event 27 = .ok (.getfield 103, 3) := by decide +kernel
theorem dX12_event_30 : decode cX12_event 30 = .ok (.aload_n 0, 1) := by decide +kernel
theorem dX12_event_31 : decode cX12_event 31 = .ok (.getfield 265, 3) := by decide +kernel
theorem dX12_event_34 : decode cX12_event 34 = .ok (.aload_n 0, 1) := by decide +kernel
theorem dX12_event_35 : decode cX12_event 35 = .ok (.aload_n 0, 1) := by decide +kernel
theorem dX12_event_36 : decode cX12_event 36 = .ok (.getfield 160, 3) := by decide +kernel
theorem dX12_event_39 : decode cX12_event 39 = .ok (.sipush 2000, 3) := by decide +kernel
theorem dX12_event_42 : decode cX12_event 42 = .ok (.sipush 1350, 3) := by decide +kernel
theorem dX12_event_45 : decode cX12_event 45 = .ok (.aload_n 0, 1) := by decide +kernel
theorem dX12_event_46 : decode cX12_event 46 = .ok (.getfield 265, 3) := by decide +kernel
theorem dX12_event_49 : decode cX12_event 49 = .ok (.imul, 1) := by decide +kernel
theorem dX12_event_50 : decode cX12_event 50 = .ok (.iadd, 1) := by decide +kernel
theorem dX12_event_51 : decode cX12_event 51 = .ok (.invokevirtual 268, 3) := by decide +kernel
theorem dX12_event_54 : decode cX12_event 54 = .ok (.iastore, 1) := by decide +kernel
theorem dX12_event_55 : decode cX12_event 55 = .ok (.iconst 0, 1) := by decide +kernel
theorem dX12_event_56 : decode cX12_event 56 = .ok (.istore_n 1, 1) := by decide +kernel
theorem dX12_event_57 : decode cX12_event 57 = .ok (.iload_n 1, 1) := by decide +kernel
theorem dX12_event_58 : decode cX12_event 58 = .ok (.bipush 8, 2) := by decide +kernel
theorem dX12_event_60 : decode cX12_event 60 = .ok (.if_icmp .ge 25, 3) := by decide +kernel
theorem dX12_event_63 : decode cX12_event 63 = .ok (.aload_n 0, 1) := by decide +kernel
theorem dX12_event_64 : decode cX12_event 64 = .ok (.getfield 106, 3) := by decide +kernel
theorem dX12_event_67 : decode cX12_event 67 = .ok (.bipush 8, 2) := by decide +kernel
theorem dX12_event_69 : decode cX12_event 69 = .ok (.aload_n 0, 1) := by decide +kernel
theorem dX12_event_70 : decode cX12_event 70 = .ok (.getfield 265, 3) := by decide +kernel
theorem dX12_event_73 : decode cX12_event 73 = .ok (.imul, 1) := by decide +kernel
theorem dX12_event_74 : decode cX12_event 74 = .ok (.iload_n 1, 1) := by decide +kernel
theorem dX12_event_75 : decode cX12_event 75 = .ok (.iadd, 1) := by decide +kernel
theorem dX12_event_76 : decode cX12_event 76 = .ok (.bipush (-2), 2) := by decide +kernel
theorem dX12_event_78 : decode cX12_event 78 = .ok (.iastore, 1) := by decide +kernel
theorem dX12_event_79 : decode cX12_event 79 = .ok (.iinc 1 1, 3) := by decide +kernel
theorem dX12_event_82 : decode cX12_event 82 = .ok (.goto (-25), 3) := by decide +kernel
theorem dX12_event_85 : decode cX12_event 85 = .ok (.iconst 0, 1) := by decide +kernel
theorem dX12_event_86 : decode cX12_event 86 = .ok (.istore_n 1, 1) := by decide +kernel
theorem dX12_event_87 : decode cX12_event 87 = .ok (.iload_n 1, 1) := by decide +kernel
theorem dX12_event_88 : decode cX12_event 88 = .ok (.iconst 4, 1) := by decide +kernel
theorem dX12_event_89 : decode cX12_event 89 = .ok (.if_icmp .ge 27, 3) := by decide +kernel
theorem dX12_event_92 : decode cX12_event 92 = .ok (.aload_n 0, 1) := by decide +kernel
theorem dX12_event_93 : decode cX12_event 93 = .ok (.getfield 109, 3) := by decide +kernel
theorem dX12_event_96 : decode cX12_event 96 = .ok (.bipush 8, 2) := by decide +kernel
theorem dX12_event_98 : decode cX12_event 98 = .ok (.iload_n 1, 1) := by decide +kernel
theorem dX12_event_99 : decode cX12_event 99 = .ok (.imul, 1) := by decide +kernel
theorem dX12_event_100 : decode cX12_event 100 = .ok (.aload_n 0, 1) := by decide +kernel
theorem dX12_event_101 : decode cX12_event 101 = .ok (.getfield 265, 3) := by decide +kernel
theorem dX12_event_104 : decode cX12_event 104 = .ok (.iadd, 1) := by decide +kernel
theorem dX12_event_105 : decode cX12_event 105 = .ok (.aload_n 0, 1) := by decide +kernel
theorem dX12_event_106 : decode cX12_event 106 = .ok (.getfield 265, 3) := by decide +kernel
theorem dX12_event_109 : decode cX12_event 109 = .ok (.iastore, 1) := by decide +kernel
theorem dX12_event_110 : decode cX12_event 110 = .ok (.iinc 1 1, 3) := by decide +kernel
theorem dX12_event_113 : decode cX12_event 113 = .ok (.goto (-26), 3) := by decide +kernel
theorem dX12_event_116 : decode cX12_event 116 = .ok (.aload_n 0, 1) := by decide +kernel
theorem dX12_event_117 : decode cX12_event 117 = .ok (.dup, 1) := by decide +kernel
theorem dX12_event_118 : decode cX12_event 118 = .ok (.getfield 265, 3) := by decide +kernel
theorem dX12_event_121 : decode cX12_event 121 = .ok (.iconst 1, 1) := by decide +kernel
theorem dX12_event_122 : decode cX12_event 122 = .ok (.iadd, 1) := by decide +kernel
theorem dX12_event_123 : decode cX12_event 123 = .ok (.putfield 265, 3) := by decide +kernel
theorem dX12_event_126 : decode cX12_event 126 = .ok (.aload_n 0, 1) := by decide +kernel
theorem dX12_event_127 : decode cX12_event 127 = .ok (.getfield 265, 3) := by decide +kernel
theorem dX12_event_130 : decode cX12_event 130 = .ok (.iconst 1, 1) := by decide +kernel
theorem dX12_event_131 : decode cX12_event 131 = .ok (.isub, 1) := by decide +kernel
theorem dX12_event_132 : decode cX12_event 132 = .ok (.ireturn, 1) := by decide +kernel
def f_X12_event_87s (F P : Nat) (S : xSt) (rec_87 : Nat → Int32 → xDt → Option (Int32 × xDt)) (v0 : Nat) (v1 : Int32) (D : xDt) : Option (Int32 × xDt) :=
  if 4 ≤ v1 then (xlet (xup D.1 v0 25 ((D.1 v0 25) + 1), D.2) fun D1 => some ((D1.1 v0 25) - 1, D1)) else (xgrd (xin ((8 * v1) + (D.1 v0 25)) (xl S (xr S v0 28))) (xlet (xup D.1 (xr S v0 28) ((8 * v1) + (D.1 v0 25)).toNatClampNeg (D.1 v0 25), D.2) fun D3 => xlet (v1 + 1) fun v1_4 => rec_87 v0 v1_4 D3))
def f_X12_event_87 (F P : Nat) (S : xSt) : Nat → Nat → Int32 → xDt → Option (Int32 × xDt)
  | 0 => fun _ _ _ => none
  | n + 1 => f_X12_event_87s F P S (f_X12_event_87 F P S n)
set_option maxHeartbeats 4000000 in
theorem t_X12_event_87s {F P : Nat} {S : xSt} (hS : xWF S) {rec_87 : Nat → Int32 → xDt → Option (Int32 × xDt)} (hrec_87 : ∀ {v0 : Nat} {v1 : Int32} {D : xDt} {r : Int32 × xDt}, xK S v0 12 → rec_87 v0 v1 D = some r → yEx md_X12_event (P + 3) 87 [(0, .ref v0), (1, .int v1)] [] S D (xQi S r)) {v0 : Nat} {v1 : Int32} {D : xDt} {r : Int32 × xDt} (k0 : xK S v0 12) (h : f_X12_event_87s F P S rec_87 v0 v1 D = some r) : yEx md_X12_event (P + 3) 87 [(0, .ref v0), (1, .int v1)] [] S D (xQi S r) := by
  unfold f_X12_event_87s at h
  refine x_iload_n dX12_event_87 1 rfl ?_
  refine x_iconst 4 dX12_event_88 (by decide) ?_
  refine x_icmp_ge 116 dX12_event_89 (by decide) (fun c => ?_) (fun c => ?_)
  · rw [if_pos c] at h
    refine x_aload_n dX12_event_116 0 rfl ?_
    refine x_dup dX12_event_117 rfl ?_
    refine y_geti fl_RX12_265 dX12_event_118 rfl k0 ?_
    refine x_iconst 1 dX12_event_121 (by decide) ?_
    refine x_iadd dX12_event_122 ?_
    refine xlet_e h (fun D1 eD1 h => ?_)
    refine y_puti fp_RX12_265 dX12_event_123 rfl k0 eD1 ?_
    refine x_aload_n dX12_event_126 0 rfl ?_
    refine y_geti fl_RX12_265 dX12_event_127 rfl k0 ?_
    refine x_iconst 1 dX12_event_130 (by decide) ?_
    refine x_isub dX12_event_131 ?_
    obtain rfl := Option.some.inj h
    exact y_iret rfl dX12_event_132
  · rw [if_neg c] at h
    refine x_aload_n dX12_event_92 0 rfl ?_
    refine y_getr (kd := 100) hS fl_RX12_109 dX12_event_93 rfl k0 ?_
    refine x_bipush 8 dX12_event_96 (by decide) ?_
    refine x_iload_n dX12_event_98 1 rfl ?_
    refine x_imul dX12_event_99 ?_
    refine x_aload_n dX12_event_100 0 rfl ?_
    refine y_geti fl_RX12_265 dX12_event_101 rfl k0 ?_
    refine x_iadd dX12_event_104 ?_
    refine x_aload_n dX12_event_105 0 rfl ?_
    refine y_geti fl_RX12_265 dX12_event_106 rfl k0 ?_
    refine xgrd_e h (fun g2 h => ?_)
    refine xlet_e h (fun D3 eD3 h => ?_)
    refine y_iast dX12_event_109 ((hS.f k0 28 100 rfl).2) g2 eD3 ?_
    refine xlet_e h (fun v1_4 ev1_4 h => ?_)
    refine y_iinc v1_4 ev1_4 (by decide) [(1, .int v1_4), (0, .ref v0)] dX12_event_110 1 rfl (by show _ < 2; decide) rfl ?_
    refine x_goto 87 dX12_event_113 (by decide) ?_
    refine x_lv (lv' := [(0, .ref v0), (1, .int v1_4)]) [1, 0] rfl ?_
    exact hrec_87 k0 h
theorem t_X12_event_87 {F P : Nat} {S : xSt} (hS : xWF S) : ∀ (n : Nat) {v0 : Nat} {v1 : Int32} {D : xDt} {r : Int32 × xDt}, xK S v0 12 → f_X12_event_87 F P S n v0 v1 D = some r → yEx md_X12_event (P + 3) 87 [(0, .ref v0), (1, .int v1)] [] S D (xQi S r) := by
  intro n
  induction n with
  | zero => intros; rename_i h; cases h
  | succ n ih =>
    intro v0 v1 D r k0 h
    exact t_X12_event_87s hS (fun k0 h => ih k0 h) k0 h

def f_X12_event_57s (F P : Nat) (S : xSt) (rec_57 : Nat → Int32 → xDt → Option (Int32 × xDt)) (v0 : Nat) (v1 : Int32) (D : xDt) : Option (Int32 × xDt) :=
  if 8 ≤ v1 then (f_X12_event_87 F P S F v0 0 D) else (xgrd (xin ((8 * (D.1 v0 25)) + v1) (xl S (xr S v0 27))) (xlet (xup D.1 (xr S v0 27) ((8 * (D.1 v0 25)) + v1).toNatClampNeg (-2), D.2) fun D2 => xlet (v1 + 1) fun v1_3 => rec_57 v0 v1_3 D2))
def f_X12_event_57 (F P : Nat) (S : xSt) : Nat → Nat → Int32 → xDt → Option (Int32 × xDt)
  | 0 => fun _ _ _ => none
  | n + 1 => f_X12_event_57s F P S (f_X12_event_57 F P S n)
set_option maxHeartbeats 4000000 in
theorem t_X12_event_57s {F P : Nat} {S : xSt} (hS : xWF S) {rec_57 : Nat → Int32 → xDt → Option (Int32 × xDt)} (hrec_57 : ∀ {v0 : Nat} {v1 : Int32} {D : xDt} {r : Int32 × xDt}, xK S v0 12 → rec_57 v0 v1 D = some r → yEx md_X12_event (P + 3) 57 [(0, .ref v0), (1, .int v1)] [] S D (xQi S r)) {v0 : Nat} {v1 : Int32} {D : xDt} {r : Int32 × xDt} (k0 : xK S v0 12) (h : f_X12_event_57s F P S rec_57 v0 v1 D = some r) : yEx md_X12_event (P + 3) 57 [(0, .ref v0), (1, .int v1)] [] S D (xQi S r) := by
  unfold f_X12_event_57s at h
  refine x_iload_n dX12_event_57 1 rfl ?_
  refine x_bipush 8 dX12_event_58 (by decide) ?_
  refine x_icmp_ge 85 dX12_event_60 (by decide) (fun c => ?_) (fun c => ?_)
  · rw [if_pos c] at h
    refine x_iconst 0 dX12_event_85 (by decide) ?_
    refine y_istore_n 0 rfl [(1, .int 0), (0, .ref v0)] dX12_event_86 (by show _ < 2; decide) rfl ?_
    refine x_lv (lv' := [(0, .ref v0), (1, .int 0)]) [1, 0] rfl ?_
    exact t_X12_event_87 hS F k0 h
  · rw [if_neg c] at h
    refine x_aload_n dX12_event_63 0 rfl ?_
    refine y_getr (kd := 100) hS fl_RX12_106 dX12_event_64 rfl k0 ?_
    refine x_bipush 8 dX12_event_67 (by decide) ?_
    refine x_aload_n dX12_event_69 0 rfl ?_
    refine y_geti fl_RX12_265 dX12_event_70 rfl k0 ?_
    refine x_imul dX12_event_73 ?_
    refine x_iload_n dX12_event_74 1 rfl ?_
    refine x_iadd dX12_event_75 ?_
    refine x_bipush (-2) dX12_event_76 (by decide) ?_
    refine xgrd_e h (fun g1 h => ?_)
    refine xlet_e h (fun D2 eD2 h => ?_)
    refine y_iast dX12_event_78 ((hS.f k0 27 100 rfl).2) g1 eD2 ?_
    refine xlet_e h (fun v1_3 ev1_3 h => ?_)
    refine y_iinc v1_3 ev1_3 (by decide) [(1, .int v1_3), (0, .ref v0)] dX12_event_79 1 rfl (by show _ < 2; decide) rfl ?_
    refine x_goto 57 dX12_event_82 (by decide) ?_
    refine x_lv (lv' := [(0, .ref v0), (1, .int v1_3)]) [1, 0] rfl ?_
    exact hrec_57 k0 h
theorem t_X12_event_57 {F P : Nat} {S : xSt} (hS : xWF S) : ∀ (n : Nat) {v0 : Nat} {v1 : Int32} {D : xDt} {r : Int32 × xDt}, xK S v0 12 → f_X12_event_57 F P S n v0 v1 D = some r → yEx md_X12_event (P + 3) 57 [(0, .ref v0), (1, .int v1)] [] S D (xQi S r) := by
  intro n
  induction n with
  | zero => intros; rename_i h; cases h
  | succ n ih =>
    intro v0 v1 D r k0 h
    exact t_X12_event_57s hS (fun k0 h => ih k0 h) k0 h

def f_X12_event (F P : Nat) (S : xSt) (v0 : Nat) (D : xDt) : Option (Int32 × xDt) :=
  if (D.1 v0 25) = 8 then (some ((-1), D)) else (xgrd (xin (D.1 v0 14) (xl S (xr S v0 12))) (if (D.1 (xr S v0 12) (D.1 v0 14).toNatClampNeg) ≤ 150 then ((f_X12_laid F P S v0 (D.1 v0 14) (2000 + (1350 * (D.1 v0 25))) D).bind fun q2 => xgrd (xin (D.1 v0 25) (xl S (xr S v0 26))) (xlet (xup q2.2.1 (xr S v0 26) (D.1 v0 25).toNatClampNeg q2.1, q2.2.2) fun D4 => f_X12_event_57 F P S F v0 0 D4)) else (some ((-1), D))))
set_option maxHeartbeats 4000000 in
theorem S_X12_event {F P : Nat} {S : xSt} (hS : xWF S) {v0 : Nat} {D : xDt} {r : Int32 × xDt} (k0 : xK S v0 12) (h : f_X12_event F P S v0 D = some r) : xSp md_X12_event ((P + 3), 0, 0) [.ref v0] (S, D) (xQi S r) := by
  unfold f_X12_event at h
  refine xEntry (by decide) (Nat.le_of_ble_eq_true rfl) ?_
  refine x_lv (lv' := [(0, .ref v0)]) [0] rfl ?_
  refine x_aload_n dX12_event_0 0 rfl ?_
  refine y_geti fl_RX12_265 dX12_event_1 rfl k0 ?_
  refine x_bipush 8 dX12_event_4 (by decide) ?_
  refine x_icmp_eq 24 dX12_event_6 (by decide) (fun c => ?_) (fun c => ?_)
  · rw [if_pos c] at h
    refine x_iconst (-1) dX12_event_24 (by decide) ?_
    obtain rfl := Option.some.inj h
    exact y_iret rfl dX12_event_25
  · rw [if_neg c] at h
    refine x_aload_n dX12_event_9 0 rfl ?_
    refine y_getr (kd := 100) hS fl_RX12_84 dX12_event_10 rfl k0 ?_
    refine x_aload_n dX12_event_13 0 rfl ?_
    refine y_geti fl_RX12_160 dX12_event_14 rfl k0 ?_
    refine xgrd_e h (fun g1 h => ?_)
    refine y_iald dX12_event_17 ((hS.f k0 12 100 rfl).2) g1 ?_
    refine x_sipush 150 dX12_event_18 (by decide) ?_
    refine x_icmp_le 26 dX12_event_21 (by decide) (fun c => ?_) (fun c => ?_)
    · rw [if_pos c] at h
      refine x_aload_n dX12_event_26 0 rfl ?_
      refine y_getr (kd := 100) hS fl_RX12_103 dX12_event_27 rfl k0 ?_
      refine x_aload_n dX12_event_30 0 rfl ?_
      refine y_geti fl_RX12_265 dX12_event_31 rfl k0 ?_
      refine x_aload_n dX12_event_34 0 rfl ?_
      refine x_aload_n dX12_event_35 0 rfl ?_
      refine y_geti fl_RX12_160 dX12_event_36 rfl k0 ?_
      refine x_sipush 2000 dX12_event_39 (by decide) ?_
      refine x_sipush 1350 dX12_event_42 (by decide) ?_
      refine x_aload_n dX12_event_45 0 rfl ?_
      refine y_geti fl_RX12_265 dX12_event_46 rfl k0 ?_
      refine x_imul dX12_event_49 ?_
      refine x_iadd dX12_event_50 ?_
      refine xbnd_e h (fun q2 e2 h => ?_)
      refine y_callVi (As := [.int (D.1 v0 14), .int (2000 + (1350 * (D.1 v0 25)))]) (q := q2) cv_RX12_268 dX12_event_51 k0 rfl (Nat.le_of_ble_eq_true rfl) (by omega) (S_X12_laid hS k0 e2) ?_
      refine xgrd_e h (fun g3 h => ?_)
      refine xlet_e h (fun D4 eD4 h => ?_)
      refine y_iast dX12_event_54 ((hS.f k0 26 100 rfl).2) g3 eD4 ?_
      refine x_iconst 0 dX12_event_55 (by decide) ?_
      refine y_istore_n 0 rfl [(1, .int 0), (0, .ref v0)] dX12_event_56 (by show _ < 2; decide) rfl ?_
      refine x_lv (lv' := [(0, .ref v0), (1, .int 0)]) [1, 0] rfl ?_
      exact t_X12_event_57 hS F k0 h
    · rw [if_neg c] at h
      refine x_iconst (-1) dX12_event_24 (by decide) ?_
      obtain rfl := Option.some.inj h
      exact y_iret rfl dX12_event_25

theorem dX12_tieEvents_0 : decode cX12_tieEvents 0 = .ok (.iload_n 1, 1) := by decide +kernel
theorem dX12_tieEvents_1 : decode cX12_tieEvents 1 = .ok (.invokestatic 34, 3) := by decide +kernel
theorem dX12_tieEvents_4 : decode cX12_tieEvents 4 = .ok (.ifCond .eq 19, 3) := by decide +kernel
theorem dX12_tieEvents_7 : decode cX12_tieEvents 7 = .ok (.aload_n 0, 1) := by decide +kernel
theorem dX12_tieEvents_8 : decode cX12_tieEvents 8 = .ok (.iload_n 2, 1) := by decide +kernel
theorem dX12_tieEvents_9 : decode cX12_tieEvents 9 = .ok (.invokevirtual 271, 3) := by decide +kernel
theorem dX12_tieEvents_12 : decode cX12_tieEvents 12 = .ok (.ifCond .eq 11, 3) := by decide +kernel
theorem dX12_tieEvents_15 : decode cX12_tieEvents 15 = .ok (.aload_n 0, 1) := by decide +kernel
theorem dX12_tieEvents_16 : decode cX12_tieEvents 16 = .ok (.iload_n 3, 1) := by decide +kernel
theorem dX12_tieEvents_17 : decode cX12_tieEvents 17 = .ok (.invokevirtual 271, 3) := by decide +kernel
theorem dX12_tieEvents_20 : decode cX12_tieEvents 20 = .ok (.ifCond .ne 5, 3) := by decide +kernel
theorem dX12_tieEvents_23 : decode cX12_tieEvents 23 = .ok (.iconst (-1), 1) := by decide +kernel
theorem dX12_tieEvents_24 : decode cX12_tieEvents 24 = .ok (.ireturn, 1) := by decide +kernel
theorem dX12_tieEvents_25 : decode cX12_tieEvents 25 = .ok (.bipush 8, 2) := by decide +kernel
theorem dX12_tieEvents_27 : decode cX12_tieEvents 27 = .ok (.iload_n 1, 1) := by decide +kernel
theorem dX12_tieEvents_28 : decode cX12_tieEvents 28 = .ok (.iconst 1, 1) := by decide +kernel
theorem dX12_tieEvents_29 : decode cX12_tieEvents 29 = .ok (.isub, 1) := by decide +kernel
theorem dX12_tieEvents_30 : decode cX12_tieEvents 30 = .ok (.imul, 1) := by decide +kernel
theorem dX12_tieEvents_31 : decode cX12_tieEvents 31 = .ok (.istore 4, 2) := by decide +kernel
theorem dX12_tieEvents_33 : decode cX12_tieEvents 33 = .ok (.aload_n 0, 1) := by decide +kernel
theorem dX12_tieEvents_34 : decode cX12_tieEvents 34 = .ok (.getfield 109, 3) := by decide +kernel
theorem dX12_tieEvents_37 : decode cX12_tieEvents 37 = .ok (.iload 4, 2) := by decide +kernel
theorem dX12_tieEvents_39 : decode cX12_tieEvents 39 = .ok (.iload_n 2, 1) := by decide +kernel
theorem dX12_tieEvents_40 : decode cX12_tieEvents 40 = .ok (.iadd, 1) := by decide +kernel
theorem dX12_tieEvents_41 : decode cX12_tieEvents 41 = .ok (.iaload, 1) := by decide +kernel
theorem dX12_tieEvents_42 : decode cX12_tieEvents 42 = .ok (.istore 5, 2) := by decide +kernel
theorem dX12_tieEvents_44 : decode cX12_tieEvents 44 = .ok (.aload_n 0, 1) := by decide +kernel
theorem dX12_tieEvents_45 : decode cX12_tieEvents 45 = .ok (.getfield 109, 3) := by decide +kernel
theorem dX12_tieEvents_48 : decode cX12_tieEvents 48 = .ok (.iload 4, 2) := by decide +kernel
theorem dX12_tieEvents_50 : decode cX12_tieEvents 50 = .ok (.iload_n 3, 1) := by decide +kernel
theorem dX12_tieEvents_51 : decode cX12_tieEvents 51 = .ok (.iadd, 1) := by decide +kernel
theorem dX12_tieEvents_52 : decode cX12_tieEvents 52 = .ok (.iaload, 1) := by decide +kernel
theorem dX12_tieEvents_53 : decode cX12_tieEvents 53 = .ok (.istore 6, 2) := by decide +kernel
theorem dX12_tieEvents_55 : decode cX12_tieEvents 55 = .ok (.iconst 0, 1) := by decide +kernel
theorem dX12_tieEvents_56 : decode cX12_tieEvents 56 = .ok (.istore 7, 2) := by decide +kernel
theorem dX12_tieEvents_58 : decode cX12_tieEvents 58 = .ok (.iconst 0, 1) := by decide +kernel
theorem dX12_tieEvents_59 : decode cX12_tieEvents 59 = .ok (.istore 8, 2) := by decide +kernel
theorem dX12_tieEvents_61 : decode cX12_tieEvents 61 = .ok (.iload 8, 2) := by decide +kernel
theorem dX12_tieEvents_63 : decode cX12_tieEvents 63 = .ok (.aload_n 0, 1) := by decide +kernel
theorem dX12_tieEvents_64 : decode cX12_tieEvents 64 = .ok (.getfield 265, 3) := by decide +kernel
theorem dX12_tieEvents_67 : decode cX12_tieEvents 67 = .ok (.if_icmp .ge 66, 3) := by decide +kernel
theorem dX12_tieEvents_70 : decode cX12_tieEvents 70 = .ok (.aload_n 0, 1) := by decide +kernel
theorem dX12_tieEvents_71 : decode cX12_tieEvents 71 = .ok (.getfield 109, 3) := by decide +kernel
theorem dX12_tieEvents_74 : decode cX12_tieEvents 74 = .ok (.iload 4, 2) := by decide +kernel
theorem dX12_tieEvents_76 : decode cX12_tieEvents 76 = .ok (.iload 8, 2) := by decide +kernel
theorem dX12_tieEvents_78 : decode cX12_tieEvents 78 = .ok (.iadd, 1) := by decide +kernel
theorem dX12_tieEvents_79 : decode cX12_tieEvents 79 = .ok (.iaload, 1) := by decide +kernel
theorem dX12_tieEvents_80 : decode cX12_tieEvents 80 = .ok (.iload 5, 2) := by decide +kernel
theorem dX12_tieEvents_82 : decode cX12_tieEvents 82 = .ok (.if_icmp .eq 18, 3) := by decide +kernel
theorem dX12_tieEvents_85 : decode cX12_tieEvents 85 = .ok (.aload_n 0, 1) := by decide +kernel
theorem dX12_tieEvents_86 : decode cX12_tieEvents 86 = .ok (.getfield 109, 3) := by decide +kernel
theorem dX12_tieEvents_89 : decode cX12_tieEvents 89 = .ok (.iload 4, 2) := by decide +kernel
theorem dX12_tieEvents_91 : decode cX12_tieEvents 91 = .ok (.iload 8, 2) := by decide +kernel
theorem dX12_tieEvents_93 : decode cX12_tieEvents 93 = .ok (.iadd, 1) := by decide +kernel
theorem dX12_tieEvents_94 : decode cX12_tieEvents 94 = .ok (.iaload, 1) := by decide +kernel
theorem dX12_tieEvents_95 : decode cX12_tieEvents 95 = .ok (.iload 6, 2) := by decide +kernel
theorem dX12_tieEvents_97 : decode cX12_tieEvents 97 = .ok (.if_icmp .ne 30, 3) := by decide +kernel
theorem dX12_tieEvents_100 : decode cX12_tieEvents 100 = .ok (.aload_n 0, 1) := by decide +kernel
theorem dX12_tieEvents_101 : decode cX12_tieEvents 101 = .ok (.getfield 109, 3) := by decide +kernel
theorem dX12_tieEvents_104 : decode cX12_tieEvents 104 = .ok (.iload 4, 2) := by decide +kernel
theorem dX12_tieEvents_106 : decode cX12_tieEvents 106 = .ok (.iload 8, 2) := by decide +kernel
theorem dX12_tieEvents_108 : decode cX12_tieEvents 108 = .ok (.iadd, 1) := by decide +kernel
theorem dX12_tieEvents_109 : decode cX12_tieEvents 109 = .ok (.iload 5, 2) := by decide +kernel
theorem dX12_tieEvents_111 : decode cX12_tieEvents 111 = .ok (.iload 6, 2) := by decide +kernel
theorem dX12_tieEvents_113 : decode cX12_tieEvents 113 = .ok (.if_icmp .ge 8, 3) := by decide +kernel
theorem dX12_tieEvents_116 : decode cX12_tieEvents 116 = .ok (.iload 5, 2) := by decide +kernel
theorem dX12_tieEvents_118 : decode cX12_tieEvents 118 = .ok (.goto 5, 3) := by decide +kernel
theorem dX12_tieEvents_121 : decode cX12_tieEvents 121 = .ok (.iload 6, 2) := by decide +kernel
theorem dX12_tieEvents_123 : decode cX12_tieEvents 123 = .ok (.iastore, 1) := by decide +kernel
theorem dX12_tieEvents_124 : decode cX12_tieEvents 124 = .ok (.iinc 7 1, 3) := by decide +kernel
theorem dX12_tieEvents_127 : decode cX12_tieEvents 127 = .ok (.iinc 8 1, 3) := by decide +kernel
theorem dX12_tieEvents_130 : decode cX12_tieEvents 130 = .ok (.goto (-69), 3) := by decide +kernel
theorem dX12_tieEvents_133 : decode cX12_tieEvents 133 = .ok (.iload 7, 2) := by decide +kernel
theorem dX12_tieEvents_135 : decode cX12_tieEvents 135 = .ok (.ireturn, 1) := by decide +kernel
def f_X12_tieEvents_127 (F P : Nat) (S : xSt) (rec_61 : Nat → Int32 → Int32 → Int32 → Int32 → Int32 → xDt → Option (Int32 × xDt)) (v0 : Nat) (v4 : Int32) (v5 : Int32) (v6 : Int32) (v7 : Int32) (v8 : Int32) (D : xDt) : Option (Int32 × xDt) :=
  xlet (v8 + 1) fun v8_1 => rec_61 v0 v4 v5 v6 v7 v8_1 D
set_option maxHeartbeats 4000000 in
theorem t_X12_tieEvents_127 {F P : Nat} {S : xSt} (hS : xWF S) {rec_61 : Nat → Int32 → Int32 → Int32 → Int32 → Int32 → xDt → Option (Int32 × xDt)} (hrec_61 : ∀ {v0 : Nat} {v4 : Int32} {v5 : Int32} {v6 : Int32} {v7 : Int32} {v8 : Int32} {D : xDt} {r : Int32 × xDt}, xK S v0 12 → rec_61 v0 v4 v5 v6 v7 v8 D = some r → yEx md_X12_tieEvents 2 61 [(0, .ref v0), (4, .int v4), (5, .int v5), (6, .int v6), (7, .int v7), (8, .int v8)] [] S D (xQi S r)) {v0 : Nat} {v4 : Int32} {v5 : Int32} {v6 : Int32} {v7 : Int32} {v8 : Int32} {D : xDt} {r : Int32 × xDt} (k0 : xK S v0 12) (h : f_X12_tieEvents_127 F P S rec_61 v0 v4 v5 v6 v7 v8 D = some r) : yEx md_X12_tieEvents 2 127 [(0, .ref v0), (4, .int v4), (5, .int v5), (6, .int v6), (7, .int v7), (8, .int v8)] [] S D (xQi S r) := by
  unfold f_X12_tieEvents_127 at h
  refine xlet_e h (fun v8_1 ev8_1 h => ?_)
  refine y_iinc v8_1 ev8_1 (by decide) [(8, .int v8_1), (0, .ref v0), (4, .int v4), (5, .int v5), (6, .int v6), (7, .int v7)] dX12_tieEvents_127 5 rfl (by show _ < 9; decide) rfl ?_
  refine x_goto 61 dX12_tieEvents_130 (by decide) ?_
  refine x_lv (lv' := [(0, .ref v0), (4, .int v4), (5, .int v5), (6, .int v6), (7, .int v7), (8, .int v8_1)]) [1, 2, 3, 4, 5, 0] rfl ?_
  exact hrec_61 k0 h

def f_X12_tieEvents_123 (F P : Nat) (S : xSt) (rec_61 : Nat → Int32 → Int32 → Int32 → Int32 → Int32 → xDt → Option (Int32 × xDt)) (v0 : Nat) (v4 : Int32) (v5 : Int32) (v6 : Int32) (v7 : Int32) (v8 : Int32) (s0 : Int32) (s1 : Int32) (s2 : Nat) (D : xDt) : Option (Int32 × xDt) :=
  xgrd (xin s1 (xl S s2)) (xlet (xup D.1 s2 (s1).toNatClampNeg s0, D.2) fun D2 => xlet (v7 + 1) fun v7_3 => f_X12_tieEvents_127 F P S rec_61 v0 v4 v5 v6 v7_3 v8 D2)
set_option maxHeartbeats 4000000 in
theorem t_X12_tieEvents_123 {F P : Nat} {S : xSt} (hS : xWF S) {rec_61 : Nat → Int32 → Int32 → Int32 → Int32 → Int32 → xDt → Option (Int32 × xDt)} (hrec_61 : ∀ {v0 : Nat} {v4 : Int32} {v5 : Int32} {v6 : Int32} {v7 : Int32} {v8 : Int32} {D : xDt} {r : Int32 × xDt}, xK S v0 12 → rec_61 v0 v4 v5 v6 v7 v8 D = some r → yEx md_X12_tieEvents 2 61 [(0, .ref v0), (4, .int v4), (5, .int v5), (6, .int v6), (7, .int v7), (8, .int v8)] [] S D (xQi S r)) {v0 : Nat} {v4 : Int32} {v5 : Int32} {v6 : Int32} {v7 : Int32} {v8 : Int32} {s0 : Int32} {s1 : Int32} {s2 : Nat} {D : xDt} {r : Int32 × xDt} (k0 : xK S v0 12) (ks2 : xK S s2 100) (h : f_X12_tieEvents_123 F P S rec_61 v0 v4 v5 v6 v7 v8 s0 s1 s2 D = some r) : yEx md_X12_tieEvents 2 123 [(0, .ref v0), (4, .int v4), (5, .int v5), (6, .int v6), (7, .int v7), (8, .int v8)] [.int s0, .int s1, .ref s2] S D (xQi S r) := by
  unfold f_X12_tieEvents_123 at h
  refine xgrd_e h (fun g1 h => ?_)
  refine xlet_e h (fun D2 eD2 h => ?_)
  refine y_iast dX12_tieEvents_123 ks2 g1 eD2 ?_
  refine xlet_e h (fun v7_3 ev7_3 h => ?_)
  refine y_iinc v7_3 ev7_3 (by decide) [(7, .int v7_3), (0, .ref v0), (4, .int v4), (5, .int v5), (6, .int v6), (8, .int v8)] dX12_tieEvents_124 4 rfl (by show _ < 9; decide) rfl ?_
  refine x_lv (lv' := [(0, .ref v0), (4, .int v4), (5, .int v5), (6, .int v6), (7, .int v7_3), (8, .int v8)]) [1, 2, 3, 4, 0, 5] rfl ?_
  exact t_X12_tieEvents_127 hS hrec_61 k0 h

def f_X12_tieEvents_100 (F P : Nat) (S : xSt) (rec_61 : Nat → Int32 → Int32 → Int32 → Int32 → Int32 → xDt → Option (Int32 × xDt)) (v0 : Nat) (v4 : Int32) (v5 : Int32) (v6 : Int32) (v7 : Int32) (v8 : Int32) (D : xDt) : Option (Int32 × xDt) :=
  if v6 ≤ v5 then (f_X12_tieEvents_123 F P S rec_61 v0 v4 v5 v6 v7 v8 v6 (v4 + v8) (xr S v0 28) D) else (f_X12_tieEvents_123 F P S rec_61 v0 v4 v5 v6 v7 v8 v5 (v4 + v8) (xr S v0 28) D)
set_option maxHeartbeats 4000000 in
theorem t_X12_tieEvents_100 {F P : Nat} {S : xSt} (hS : xWF S) {rec_61 : Nat → Int32 → Int32 → Int32 → Int32 → Int32 → xDt → Option (Int32 × xDt)} (hrec_61 : ∀ {v0 : Nat} {v4 : Int32} {v5 : Int32} {v6 : Int32} {v7 : Int32} {v8 : Int32} {D : xDt} {r : Int32 × xDt}, xK S v0 12 → rec_61 v0 v4 v5 v6 v7 v8 D = some r → yEx md_X12_tieEvents 2 61 [(0, .ref v0), (4, .int v4), (5, .int v5), (6, .int v6), (7, .int v7), (8, .int v8)] [] S D (xQi S r)) {v0 : Nat} {v4 : Int32} {v5 : Int32} {v6 : Int32} {v7 : Int32} {v8 : Int32} {D : xDt} {r : Int32 × xDt} (k0 : xK S v0 12) (h : f_X12_tieEvents_100 F P S rec_61 v0 v4 v5 v6 v7 v8 D = some r) : yEx md_X12_tieEvents 2 100 [(0, .ref v0), (4, .int v4), (5, .int v5), (6, .int v6), (7, .int v7), (8, .int v8)] [] S D (xQi S r) := by
  unfold f_X12_tieEvents_100 at h
  refine x_aload_n dX12_tieEvents_100 0 rfl ?_
  refine y_getr (kd := 100) hS fl_RX12_109 dX12_tieEvents_101 rfl k0 ?_
  refine x_iload dX12_tieEvents_104 1 rfl ?_
  refine x_iload dX12_tieEvents_106 5 rfl ?_
  refine x_iadd dX12_tieEvents_108 ?_
  refine x_iload dX12_tieEvents_109 2 rfl ?_
  refine x_iload dX12_tieEvents_111 3 rfl ?_
  refine x_icmp_ge 121 dX12_tieEvents_113 (by decide) (fun c => ?_) (fun c => ?_)
  · rw [if_pos c] at h
    refine x_iload dX12_tieEvents_121 3 rfl ?_
    exact t_X12_tieEvents_123 hS hrec_61 k0 ((hS.f k0 28 100 rfl).2) h
  · rw [if_neg c] at h
    refine x_iload dX12_tieEvents_116 2 rfl ?_
    refine x_goto 123 dX12_tieEvents_118 (by decide) ?_
    exact t_X12_tieEvents_123 hS hrec_61 k0 ((hS.f k0 28 100 rfl).2) h

def f_X12_tieEvents_61s (F P : Nat) (S : xSt) (rec_61 : Nat → Int32 → Int32 → Int32 → Int32 → Int32 → xDt → Option (Int32 × xDt)) (v0 : Nat) (v4 : Int32) (v5 : Int32) (v6 : Int32) (v7 : Int32) (v8 : Int32) (D : xDt) : Option (Int32 × xDt) :=
  if (D.1 v0 25) ≤ v8 then (some (v7, D)) else (xgrd (xin (v4 + v8) (xl S (xr S v0 28))) (if (D.1 (xr S v0 28) (v4 + v8).toNatClampNeg) = v5 then (f_X12_tieEvents_100 F P S rec_61 v0 v4 v5 v6 v7 v8 D) else (xgrd (xin (v4 + v8) (xl S (xr S v0 28))) (if (D.1 (xr S v0 28) (v4 + v8).toNatClampNeg) = v6 then (f_X12_tieEvents_100 F P S rec_61 v0 v4 v5 v6 v7 v8 D) else (f_X12_tieEvents_127 F P S rec_61 v0 v4 v5 v6 v7 v8 D)))))
def f_X12_tieEvents_61 (F P : Nat) (S : xSt) : Nat → Nat → Int32 → Int32 → Int32 → Int32 → Int32 → xDt → Option (Int32 × xDt)
  | 0 => fun _ _ _ _ _ _ _ => none
  | n + 1 => f_X12_tieEvents_61s F P S (f_X12_tieEvents_61 F P S n)
set_option maxHeartbeats 4000000 in
theorem t_X12_tieEvents_61s {F P : Nat} {S : xSt} (hS : xWF S) {rec_61 : Nat → Int32 → Int32 → Int32 → Int32 → Int32 → xDt → Option (Int32 × xDt)} (hrec_61 : ∀ {v0 : Nat} {v4 : Int32} {v5 : Int32} {v6 : Int32} {v7 : Int32} {v8 : Int32} {D : xDt} {r : Int32 × xDt}, xK S v0 12 → rec_61 v0 v4 v5 v6 v7 v8 D = some r → yEx md_X12_tieEvents 2 61 [(0, .ref v0), (4, .int v4), (5, .int v5), (6, .int v6), (7, .int v7), (8, .int v8)] [] S D (xQi S r)) {v0 : Nat} {v4 : Int32} {v5 : Int32} {v6 : Int32} {v7 : Int32} {v8 : Int32} {D : xDt} {r : Int32 × xDt} (k0 : xK S v0 12) (h : f_X12_tieEvents_61s F P S rec_61 v0 v4 v5 v6 v7 v8 D = some r) : yEx md_X12_tieEvents 2 61 [(0, .ref v0), (4, .int v4), (5, .int v5), (6, .int v6), (7, .int v7), (8, .int v8)] [] S D (xQi S r) := by
  unfold f_X12_tieEvents_61s at h
  refine x_iload dX12_tieEvents_61 5 rfl ?_
  refine x_aload_n dX12_tieEvents_63 0 rfl ?_
  refine y_geti fl_RX12_265 dX12_tieEvents_64 rfl k0 ?_
  refine x_icmp_ge 133 dX12_tieEvents_67 (by decide) (fun c => ?_) (fun c => ?_)
  · rw [if_pos c] at h
    refine x_iload dX12_tieEvents_133 4 rfl ?_
    obtain rfl := Option.some.inj h
    exact y_iret rfl dX12_tieEvents_135
  · rw [if_neg c] at h
    refine x_aload_n dX12_tieEvents_70 0 rfl ?_
    refine y_getr (kd := 100) hS fl_RX12_109 dX12_tieEvents_71 rfl k0 ?_
    refine x_iload dX12_tieEvents_74 1 rfl ?_
    refine x_iload dX12_tieEvents_76 5 rfl ?_
    refine x_iadd dX12_tieEvents_78 ?_
    refine xgrd_e h (fun g1 h => ?_)
    refine y_iald dX12_tieEvents_79 ((hS.f k0 28 100 rfl).2) g1 ?_
    refine x_iload dX12_tieEvents_80 2 rfl ?_
    refine x_icmp_eq 100 dX12_tieEvents_82 (by decide) (fun c => ?_) (fun c => ?_)
    · rw [if_pos c] at h
      exact t_X12_tieEvents_100 hS hrec_61 k0 h
    · rw [if_neg c] at h
      refine x_aload_n dX12_tieEvents_85 0 rfl ?_
      refine y_getr (kd := 100) hS fl_RX12_109 dX12_tieEvents_86 rfl k0 ?_
      refine x_iload dX12_tieEvents_89 1 rfl ?_
      refine x_iload dX12_tieEvents_91 5 rfl ?_
      refine x_iadd dX12_tieEvents_93 ?_
      refine xgrd_e h (fun g2 h => ?_)
      refine y_iald dX12_tieEvents_94 ((hS.f k0 28 100 rfl).2) g2 ?_
      refine x_iload dX12_tieEvents_95 3 rfl ?_
      refine x_icmp_ne 127 dX12_tieEvents_97 (by decide) (fun c => ?_) (fun c => ?_)
      · rw [if_neg c] at h
        exact t_X12_tieEvents_127 hS hrec_61 k0 h
      · rw [if_pos c] at h
        exact t_X12_tieEvents_100 hS hrec_61 k0 h
theorem t_X12_tieEvents_61 {F P : Nat} {S : xSt} (hS : xWF S) : ∀ (n : Nat) {v0 : Nat} {v4 : Int32} {v5 : Int32} {v6 : Int32} {v7 : Int32} {v8 : Int32} {D : xDt} {r : Int32 × xDt}, xK S v0 12 → f_X12_tieEvents_61 F P S n v0 v4 v5 v6 v7 v8 D = some r → yEx md_X12_tieEvents 2 61 [(0, .ref v0), (4, .int v4), (5, .int v5), (6, .int v6), (7, .int v7), (8, .int v8)] [] S D (xQi S r) := by
  intro n
  induction n with
  | zero => intros; rename_i h; cases h
  | succ n ih =>
    intro v0 v4 v5 v6 v7 v8 D r k0 h
    exact t_X12_tieEvents_61s hS (fun k0 h => ih k0 h) k0 h

def f_X12_tieEvents (F P : Nat) (S : xSt) (v0 : Nat) (v1 : Int32) (v2 : Int32) (v3 : Int32) (D : xDt) : Option (Int32 × xDt) :=
  (f_X12_isAgent F P S v1 D).bind fun q1 => if q1.1 = 0 then (some ((-1), q1.2)) else ((f_X12_isEvent F P S v0 v2 q1.2).bind fun q2 => if q2.1 = 0 then (some ((-1), q2.2)) else ((f_X12_isEvent F P S v0 v3 q2.2).bind fun q3 => if q3.1 = 0 then (some ((-1), q3.2)) else (xlet (8 * (v1 - 1)) fun v4_4 => xgrd (xin (v4_4 + v2) (xl S (xr S v0 28))) (xlet (q3.2.1 (xr S v0 28) (v4_4 + v2).toNatClampNeg) fun v5_6 => xgrd (xin (v4_4 + v3) (xl S (xr S v0 28))) (xlet (q3.2.1 (xr S v0 28) (v4_4 + v3).toNatClampNeg) fun v6_8 => f_X12_tieEvents_61 F P S F v0 v4_4 v5_6 v6_8 0 0 q3.2)))))
set_option maxHeartbeats 4000000 in
theorem S_X12_tieEvents {F P : Nat} {S : xSt} (hS : xWF S) {v0 : Nat} {v1 : Int32} {v2 : Int32} {v3 : Int32} {D : xDt} {r : Int32 × xDt} (k0 : xK S v0 12) (h : f_X12_tieEvents F P S v0 v1 v2 v3 D = some r) : xSp md_X12_tieEvents (2, 0, 0) [.ref v0, .int v1, .int v2, .int v3] (S, D) (xQi S r) := by
  unfold f_X12_tieEvents at h
  refine xEntry (by decide) (Nat.le_of_ble_eq_true rfl) ?_
  refine x_lv (lv' := [(0, .ref v0), (1, .int v1), (2, .int v2), (3, .int v3)]) [0, 1, 2, 3] rfl ?_
  refine x_iload_n dX12_tieEvents_0 1 rfl ?_
  refine xbnd_e h (fun q1 e1 h => ?_)
  refine y_callSi (As := [.int v1]) (q := q1) cs_RX12_34 dX12_tieEvents_1 rfl (Nat.le_of_ble_eq_true rfl) (by omega) (S_X12_isAgent hS e1) ?_
  refine x_if_eq 23 dX12_tieEvents_4 (by decide) (fun c => ?_) (fun c => ?_)
  · rw [if_pos c] at h
    refine x_iconst (-1) dX12_tieEvents_23 (by decide) ?_
    obtain rfl := Option.some.inj h
    exact y_iret rfl dX12_tieEvents_24
  · rw [if_neg c] at h
    refine x_aload_n dX12_tieEvents_7 0 rfl ?_
    refine x_iload_n dX12_tieEvents_8 2 rfl ?_
    refine xbnd_e h (fun q2 e2 h => ?_)
    refine y_callVi (As := [.int v2]) (q := q2) cv_RX12_271 dX12_tieEvents_9 k0 rfl (Nat.le_of_ble_eq_true rfl) (by omega) (S_X12_isEvent hS k0 e2) ?_
    refine x_if_eq 23 dX12_tieEvents_12 (by decide) (fun c => ?_) (fun c => ?_)
    · rw [if_pos c] at h
      refine x_iconst (-1) dX12_tieEvents_23 (by decide) ?_
      obtain rfl := Option.some.inj h
      exact y_iret rfl dX12_tieEvents_24
    · rw [if_neg c] at h
      refine x_aload_n dX12_tieEvents_15 0 rfl ?_
      refine x_iload_n dX12_tieEvents_16 3 rfl ?_
      refine xbnd_e h (fun q3 e3 h => ?_)
      refine y_callVi (As := [.int v3]) (q := q3) cv_RX12_271 dX12_tieEvents_17 k0 rfl (Nat.le_of_ble_eq_true rfl) (by omega) (S_X12_isEvent hS k0 e3) ?_
      refine x_if_ne 25 dX12_tieEvents_20 (by decide) (fun c => ?_) (fun c => ?_)
      · rw [if_neg c] at h
        refine x_bipush 8 dX12_tieEvents_25 (by decide) ?_
        refine x_iload_n dX12_tieEvents_27 1 rfl ?_
        refine x_iconst 1 dX12_tieEvents_28 (by decide) ?_
        refine x_isub dX12_tieEvents_29 ?_
        refine x_imul dX12_tieEvents_30 ?_
        refine xlet_e h (fun v4_4 ev4_4 h => ?_)
        refine y_istore v4_4 ev4_4 [(4, .int v4_4), (0, .ref v0), (1, .int v1), (2, .int v2), (3, .int v3)] dX12_tieEvents_31 (by show _ < 9; decide) rfl ?_
        refine x_aload_n dX12_tieEvents_33 1 rfl ?_
        refine y_getr (kd := 100) hS fl_RX12_109 dX12_tieEvents_34 rfl k0 ?_
        refine x_iload dX12_tieEvents_37 0 rfl ?_
        refine x_iload_n dX12_tieEvents_39 3 rfl ?_
        refine x_iadd dX12_tieEvents_40 ?_
        refine xgrd_e h (fun g5 h => ?_)
        refine y_iald dX12_tieEvents_41 ((hS.f k0 28 100 rfl).2) g5 ?_
        refine xlet_e h (fun v5_6 ev5_6 h => ?_)
        refine y_istore v5_6 ev5_6 [(5, .int v5_6), (4, .int v4_4), (0, .ref v0), (1, .int v1), (2, .int v2), (3, .int v3)] dX12_tieEvents_42 (by show _ < 9; decide) rfl ?_
        refine x_aload_n dX12_tieEvents_44 2 rfl ?_
        refine y_getr (kd := 100) hS fl_RX12_109 dX12_tieEvents_45 rfl k0 ?_
        refine x_iload dX12_tieEvents_48 1 rfl ?_
        refine x_iload_n dX12_tieEvents_50 5 rfl ?_
        refine x_iadd dX12_tieEvents_51 ?_
        refine xgrd_e h (fun g7 h => ?_)
        refine y_iald dX12_tieEvents_52 ((hS.f k0 28 100 rfl).2) g7 ?_
        refine xlet_e h (fun v6_8 ev6_8 h => ?_)
        refine y_istore v6_8 ev6_8 [(6, .int v6_8), (5, .int v5_6), (4, .int v4_4), (0, .ref v0), (1, .int v1), (2, .int v2), (3, .int v3)] dX12_tieEvents_53 (by show _ < 9; decide) rfl ?_
        refine x_iconst 0 dX12_tieEvents_55 (by decide) ?_
        refine y_istore 0 rfl [(7, .int 0), (6, .int v6_8), (5, .int v5_6), (4, .int v4_4), (0, .ref v0), (1, .int v1), (2, .int v2), (3, .int v3)] dX12_tieEvents_56 (by show _ < 9; decide) rfl ?_
        refine x_iconst 0 dX12_tieEvents_58 (by decide) ?_
        refine y_istore 0 rfl [(8, .int 0), (7, .int 0), (6, .int v6_8), (5, .int v5_6), (4, .int v4_4), (0, .ref v0), (1, .int v1), (2, .int v2), (3, .int v3)] dX12_tieEvents_59 (by show _ < 9; decide) rfl ?_
        refine x_lv (lv' := [(0, .ref v0), (4, .int v4_4), (5, .int v5_6), (6, .int v6_8), (7, .int 0), (8, .int 0)]) [5, 4, 3, 2, 1, 0] rfl ?_
        exact t_X12_tieEvents_61 hS F k0 h
      · rw [if_pos c] at h
        refine x_iconst (-1) dX12_tieEvents_23 (by decide) ?_
        obtain rfl := Option.some.inj h
        exact y_iret rfl dX12_tieEvents_24

theorem dX12_change_0 : decode cX12_change 0 = .ok (.aload_n 0, 1) := by decide +kernel
theorem dX12_change_1 : decode cX12_change 1 = .ok (.iload_n 1, 1) := by decide +kernel
theorem dX12_change_2 : decode cX12_change 2 = .ok (.invokevirtual 271, 3) := by decide +kernel
theorem dX12_change_5 : decode cX12_change 5 = .ok (.ifCond .eq 28, 3) := by decide +kernel
theorem dX12_change_8 : decode cX12_change 8 = .ok (.iload_n 2, 1) := by decide +kernel
theorem dX12_change_9 : decode cX12_change 9 = .ok (.iconst 0, 1) := by decide +kernel
theorem dX12_change_10 : decode cX12_change 10 = .ok (.bipush 7, 2) := by decide +kernel
theorem dX12_change_12 : decode cX12_change 12 = .ok (.invokestatic 10, 3) := by decide +kernel
theorem dX12_change_15 : decode cX12_change 15 = .ok (.ifCond .eq 18, 3) := by decide +kernel
theorem dX12_change_18 : decode cX12_change 18 = .ok (.aload_n 0, 1) := by decide +kernel
theorem dX12_change_19 : decode cX12_change 19 = .ok (.getfield 84, 3) := by decide +kernel
theorem dX12_change_22 : decode cX12_change 22 = .ok (.aload_n 0, 1) := by decide +kernel
theorem dX12_change_23 : decode cX12_change 23 = .ok (.getfield 160, 3) := by decide +kernel
theorem dX12_change_26 : decode cX12_change 26 = .ok (.iaload, 1) := by decide +kernel
theorem dX12_change_27 : decode cX12_change 27 = .ok (.sipush 150, 3) := by decide +kernel
theorem dX12_change_30 : decode cX12_change 30 = .ok (.if_icmp .le 5, 3) := by decide +kernel
theorem dX12_change_33 : decode cX12_change 33 = .ok (.iconst (-1), 1) := by decide +kernel
theorem dX12_change_34 : decode cX12_change 34 = .ok (.ireturn, 1) := by decide +kernel
theorem dX12_change_35 : decode cX12_change 35 = .ok (.aload_n 0, 1) := by decide +kernel
theorem dX12_change_36 : decode cX12_change 36 = .ok (.getfield 106, 3) := by decide +kernel
theorem dX12_change_39 : decode cX12_change 39 = .ok (.bipush 8, 2) := by decide +kernel
theorem dX12_change_41 : decode cX12_change 41 = .ok (.iload_n 1, 1) := by decide +kernel
theorem dX12_change_42 : decode cX12_change 42 = .ok (.imul, 1) := by decide +kernel
theorem dX12_change_43 : decode cX12_change 43 = .ok (.iload_n 2, 1) := by decide +kernel
theorem dX12_change_44 : decode cX12_change 44 = .ok (.iadd, 1) := by decide +kernel
theorem dX12_change_45 : decode cX12_change 45 = .ok (.aload_n 0, 1) := by decide +kernel
theorem dX12_change_46 : decode cX12_change 46 = .ok (.aload_n 0, 1) := by decide +kernel
theorem dX12_change_47 : decode cX12_change 47 = .ok (.getfield 160, 3) := by decide +kernel
theorem dX12_change_50 : decode cX12_change 50 = .ok (.sipush 2000, 3) := by decide +kernel
theorem dX12_change_53 : decode cX12_change 53 = .ok (.sipush 150, 3) := by decide +kernel
theorem dX12_change_56 : decode cX12_change 56 = .ok (.bipush 9, 2) := by decide +kernel
theorem dX12_change_58 : decode cX12_change 58 = .ok (.iload_n 1, 1) := by decide +kernel
theorem dX12_change_59 : decode cX12_change 59 = .ok (.imul, 1) := by decide +kernel
theorem dX12_change_60 : decode cX12_change 60 = .ok (.iconst 1, 1) := by decide +kernel
theorem dX12_change_61 : decode cX12_change 61 = .ok (.iadd, 1) := by decide +kernel
theorem dX12_change_62 : decode cX12_change 62 = .ok (.iload_n 2, 1) := by decide +kernel
theorem dX12_change_63 : decode cX12_change 63 = .ok (.iadd, 1) := by decide +kernel
theorem dX12_change_64 : decode cX12_change 64 = .ok (.imul, 1) := by decide +kernel
theorem dX12_change_65 : decode cX12_change 65 = .ok (.iadd, 1) := by decide +kernel
theorem dX12_change_66 : decode cX12_change 66 = .ok (.invokevirtual 268, 3) := by decide +kernel
theorem dX12_change_69 : decode cX12_change 69 = .ok (.iastore, 1) := by decide +kernel
theorem dX12_change_70 : decode cX12_change 70 = .ok (.iconst 0, 1) := by decide +kernel
theorem dX12_change_71 : decode cX12_change 71 = .ok (.ireturn, 1) := by decide +kernel
def f_X12_change (F P : Nat) (S : xSt) (v0 : Nat) (v1 : Int32) (v2 : Int32) (D : xDt) : Option (Int32 × xDt) :=
  (f_X12_isEvent F P S v0 v1 D).bind fun q1 => if q1.1 = 0 then (some ((-1), q1.2)) else ((f_X12_in F P S v2 0 7 q1.2).bind fun q2 => if q2.1 = 0 then (some ((-1), q2.2)) else (xgrd (xin (q2.2.1 v0 14) (xl S (xr S v0 12))) (if (q2.2.1 (xr S v0 12) (q2.2.1 v0 14).toNatClampNeg) ≤ 150 then ((f_X12_laid F P S v0 (q2.2.1 v0 14) (2000 + (150 * (((9 * v1) + 1) + v2))) q2.2).bind fun q4 => xgrd (xin ((8 * v1) + v2) (xl S (xr S v0 27))) (xlet (xup q4.2.1 (xr S v0 27) ((8 * v1) + v2).toNatClampNeg q4.1, q4.2.2) fun D6 => some (0, D6))) else (some ((-1), q2.2)))))
set_option maxHeartbeats 4000000 in
theorem S_X12_change {F P : Nat} {S : xSt} (hS : xWF S) {v0 : Nat} {v1 : Int32} {v2 : Int32} {D : xDt} {r : Int32 × xDt} (k0 : xK S v0 12) (h : f_X12_change F P S v0 v1 v2 D = some r) : xSp md_X12_change ((P + 3), 0, 0) [.ref v0, .int v1, .int v2] (S, D) (xQi S r) := by
  unfold f_X12_change at h
  refine xEntry (by decide) (Nat.le_of_ble_eq_true rfl) ?_
  refine x_lv (lv' := [(0, .ref v0), (1, .int v1), (2, .int v2)]) [0, 1, 2] rfl ?_
  refine x_aload_n dX12_change_0 0 rfl ?_
  refine x_iload_n dX12_change_1 1 rfl ?_
  refine xbnd_e h (fun q1 e1 h => ?_)
  refine y_callVi (As := [.int v1]) (q := q1) cv_RX12_271 dX12_change_2 k0 rfl (Nat.le_of_ble_eq_true rfl) (by omega) (S_X12_isEvent hS k0 e1) ?_
  refine x_if_eq 33 dX12_change_5 (by decide) (fun c => ?_) (fun c => ?_)
  · rw [if_pos c] at h
    refine x_iconst (-1) dX12_change_33 (by decide) ?_
    obtain rfl := Option.some.inj h
    exact y_iret rfl dX12_change_34
  · rw [if_neg c] at h
    refine x_iload_n dX12_change_8 2 rfl ?_
    refine x_iconst 0 dX12_change_9 (by decide) ?_
    refine x_bipush 7 dX12_change_10 (by decide) ?_
    refine xbnd_e h (fun q2 e2 h => ?_)
    refine y_callSi (As := [.int v2, .int 0, .int 7]) (q := q2) cs_RX12_10 dX12_change_12 rfl (Nat.le_of_ble_eq_true rfl) (by omega) (S_X12_in hS e2) ?_
    refine x_if_eq 33 dX12_change_15 (by decide) (fun c => ?_) (fun c => ?_)
    · rw [if_pos c] at h
      refine x_iconst (-1) dX12_change_33 (by decide) ?_
      obtain rfl := Option.some.inj h
      exact y_iret rfl dX12_change_34
    · rw [if_neg c] at h
      refine x_aload_n dX12_change_18 0 rfl ?_
      refine y_getr (kd := 100) hS fl_RX12_84 dX12_change_19 rfl k0 ?_
      refine x_aload_n dX12_change_22 0 rfl ?_
      refine y_geti fl_RX12_160 dX12_change_23 rfl k0 ?_
      refine xgrd_e h (fun g3 h => ?_)
      refine y_iald dX12_change_26 ((hS.f k0 12 100 rfl).2) g3 ?_
      refine x_sipush 150 dX12_change_27 (by decide) ?_
      refine x_icmp_le 35 dX12_change_30 (by decide) (fun c => ?_) (fun c => ?_)
      · rw [if_pos c] at h
        refine x_aload_n dX12_change_35 0 rfl ?_
        refine y_getr (kd := 100) hS fl_RX12_106 dX12_change_36 rfl k0 ?_
        refine x_bipush 8 dX12_change_39 (by decide) ?_
        refine x_iload_n dX12_change_41 1 rfl ?_
        refine x_imul dX12_change_42 ?_
        refine x_iload_n dX12_change_43 2 rfl ?_
        refine x_iadd dX12_change_44 ?_
        refine x_aload_n dX12_change_45 0 rfl ?_
        refine x_aload_n dX12_change_46 0 rfl ?_
        refine y_geti fl_RX12_160 dX12_change_47 rfl k0 ?_
        refine x_sipush 2000 dX12_change_50 (by decide) ?_
        refine x_sipush 150 dX12_change_53 (by decide) ?_
        refine x_bipush 9 dX12_change_56 (by decide) ?_
        refine x_iload_n dX12_change_58 1 rfl ?_
        refine x_imul dX12_change_59 ?_
        refine x_iconst 1 dX12_change_60 (by decide) ?_
        refine x_iadd dX12_change_61 ?_
        refine x_iload_n dX12_change_62 2 rfl ?_
        refine x_iadd dX12_change_63 ?_
        refine x_imul dX12_change_64 ?_
        refine x_iadd dX12_change_65 ?_
        refine xbnd_e h (fun q4 e4 h => ?_)
        refine y_callVi (As := [.int (q2.2.1 v0 14), .int (2000 + (150 * (((9 * v1) + 1) + v2)))]) (q := q4) cv_RX12_268 dX12_change_66 k0 rfl (Nat.le_of_ble_eq_true rfl) (by omega) (S_X12_laid hS k0 e4) ?_
        refine xgrd_e h (fun g5 h => ?_)
        refine xlet_e h (fun D6 eD6 h => ?_)
        refine y_iast dX12_change_69 ((hS.f k0 27 100 rfl).2) g5 eD6 ?_
        refine x_iconst 0 dX12_change_70 (by decide) ?_
        obtain rfl := Option.some.inj h
        exact y_iret rfl dX12_change_71
      · rw [if_neg c] at h
        refine x_iconst (-1) dX12_change_33 (by decide) ?_
        obtain rfl := Option.some.inj h
        exact y_iret rfl dX12_change_34

theorem dX12_noEvents_0 : decode cX12_noEvents 0 = .ok (.aload_n 0, 1) := by decide +kernel
theorem dX12_noEvents_1 : decode cX12_noEvents 1 = .ok (.getfield 265, 3) := by decide +kernel
theorem dX12_noEvents_4 : decode cX12_noEvents 4 = .ok (.istore_n 1, 1) := by decide +kernel
theorem dX12_noEvents_5 : decode cX12_noEvents 5 = .ok (.aload_n 0, 1) := by decide +kernel
theorem dX12_noEvents_6 : decode cX12_noEvents 6 = .ok (.iconst 0, 1) := by decide +kernel
theorem dX12_noEvents_7 : decode cX12_noEvents 7 = .ok (.putfield 265, 3) := by decide +kernel
theorem dX12_noEvents_10 : decode cX12_noEvents 10 = .ok (.iload_n 1, 1) := by decide +kernel
theorem dX12_noEvents_11 : decode cX12_noEvents 11 = .ok (.ireturn, 1) := by decide +kernel
def f_X12_noEvents (F P : Nat) (S : xSt) (v0 : Nat) (D : xDt) : Option (Int32 × xDt) :=
  xlet (D.1 v0 25) fun v1_1 => xlet (xup D.1 v0 25 0, D.2) fun D2 => some (v1_1, D2)
set_option maxHeartbeats 4000000 in
theorem S_X12_noEvents {F P : Nat} {S : xSt} (hS : xWF S) {v0 : Nat} {D : xDt} {r : Int32 × xDt} (k0 : xK S v0 12) (h : f_X12_noEvents F P S v0 D = some r) : xSp md_X12_noEvents (0, 0, 0) [.ref v0] (S, D) (xQi S r) := by
  unfold f_X12_noEvents at h
  refine xEntry (by decide) (Nat.le_of_ble_eq_true rfl) ?_
  refine x_lv (lv' := [(0, .ref v0)]) [0] rfl ?_
  refine x_aload_n dX12_noEvents_0 0 rfl ?_
  refine y_geti fl_RX12_265 dX12_noEvents_1 rfl k0 ?_
  refine xlet_e h (fun v1_1 ev1_1 h => ?_)
  refine y_istore_n v1_1 ev1_1 [(1, .int v1_1), (0, .ref v0)] dX12_noEvents_4 (by show _ < 2; decide) rfl ?_
  refine x_aload_n dX12_noEvents_5 1 rfl ?_
  refine x_iconst 0 dX12_noEvents_6 (by decide) ?_
  refine xlet_e h (fun D2 eD2 h => ?_)
  refine y_puti fp_RX12_265 dX12_noEvents_7 rfl k0 eD2 ?_
  refine x_iload_n dX12_noEvents_10 0 rfl ?_
  obtain rfl := Option.some.inj h
  exact y_iret rfl dX12_noEvents_11

theorem dX12_happen_0 : decode cX12_happen 0 = .ok (.iconst 0, 1) := by decide +kernel
theorem dX12_happen_1 : decode cX12_happen 1 = .ok (.istore_n 1, 1) := by decide +kernel
theorem dX12_happen_2 : decode cX12_happen 2 = .ok (.iconst 0, 1) := by decide +kernel
theorem dX12_happen_3 : decode cX12_happen 3 = .ok (.istore_n 2, 1) := by decide +kernel
theorem dX12_happen_4 : decode cX12_happen 4 = .ok (.iload_n 2, 1) := by decide +kernel
theorem dX12_happen_5 : decode cX12_happen 5 = .ok (.aload_n 0, 1) := by decide +kernel
theorem dX12_happen_6 : decode cX12_happen 6 = .ok (.getfield 265, 3) := by decide +kernel
theorem dX12_happen_9 : decode cX12_happen 9 = .ok (.if_icmp .ge 107, 3) := by decide +kernel
theorem dX12_happen_12 : decode cX12_happen 12 = .ok (.aload_n 0, 1) := by decide +kernel
theorem dX12_happen_13 : decode cX12_happen 13 = .ok (.getfield 112, 3) := by decide +kernel
theorem dX12_happen_16 : decode cX12_happen 16 = .ok (.iload_n 2, 1) := by decide +kernel
theorem dX12_happen_17 : decode cX12_happen 17 = .ok (.aload_n 0, 1) := by decide +kernel
theorem dX12_happen_18 : decode cX12_happen 18 = .ok (.aload_n 0, 1) := by decide +kernel
theorem dX12_happen_19 : decode cX12_happen 19 = .ok (.getfield 103, 3) := by decide +kernel
theorem dX12_happen_22 : decode cX12_happen 22 = .ok (.iload_n 2, 1) := by decide +kernel
theorem dX12_happen_23 : decode cX12_happen 23 = .ok (.iaload, 1) := by decide +kernel
theorem dX12_happen_24 : decode cX12_happen 24 = .ok (.aload_n 0, 1) := by decide +kernel
theorem dX12_happen_25 : decode cX12_happen 25 = .ok (.invokevirtual 233, 3) := by decide +kernel
theorem dX12_happen_28 : decode cX12_happen 28 = .ok (.invokevirtual 221, 3) := by decide +kernel
theorem dX12_happen_31 : decode cX12_happen 31 = .ok (.lastore, 1) := by decide +kernel
theorem dX12_happen_32 : decode cX12_happen 32 = .ok (.iload_n 1, 1) := by decide +kernel
theorem dX12_happen_33 : decode cX12_happen 33 = .ok (.aload_n 0, 1) := by decide +kernel
theorem dX12_happen_34 : decode cX12_happen 34 = .ok (.getfield 112, 3) := by decide +kernel
theorem dX12_happen_37 : decode cX12_happen 37 = .ok (.iload_n 2, 1) := by decide +kernel
theorem dX12_happen_38 : decode cX12_happen 38 = .ok (.laload, 1) := by decide +kernel
theorem dX12_happen_39 : decode cX12_happen 39 = .ok (.invokestatic 49, 3) := by decide +kernel
theorem dX12_happen_42 : decode cX12_happen 42 = .ok (.iadd, 1) := by decide +kernel
theorem dX12_happen_43 : decode cX12_happen 43 = .ok (.istore_n 1, 1) := by decide +kernel
theorem dX12_happen_44 : decode cX12_happen 44 = .ok (.iconst 0, 1) := by decide +kernel
theorem dX12_happen_45 : decode cX12_happen 45 = .ok (.istore_n 3, 1) := by decide +kernel
theorem dX12_happen_46 : decode cX12_happen 46 = .ok (.iload_n 3, 1) := by decide +kernel
theorem dX12_happen_47 : decode cX12_happen 47 = .ok (.bipush 8, 2) := by decide +kernel
theorem dX12_happen_49 : decode cX12_happen 49 = .ok (.if_icmp .ge 61, 3) := by decide +kernel
theorem dX12_happen_52 : decode cX12_happen 52 = .ok (.aload_n 0, 1) := by decide +kernel
theorem dX12_happen_53 : decode cX12_happen 53 = .ok (.getfield 116, 3) := by decide +kernel
theorem dX12_happen_56 : decode cX12_happen 56 = .ok (.bipush 8, 2) := by decide +kernel
theorem dX12_happen_58 : decode cX12_happen 58 = .ok (.iload_n 2, 1) := by decide +kernel
theorem dX12_happen_59 : decode cX12_happen 59 = .ok (.imul, 1) := by decide +kernel
theorem dX12_happen_60 : decode cX12_happen 60 = .ok (.iload_n 3, 1) := by decide +kernel
theorem dX12_happen_61 : decode cX12_happen 61 = .ok (.iadd, 1) := by decide +kernel
theorem dX12_happen_62 : decode cX12_happen 62 = .ok (.aload_n 0, 1) := by decide +kernel
theorem dX12_happen_63 : decode cX12_happen 63 = .ok (.getfield 106, 3) := by decide +kernel
theorem dX12_happen_66 : decode cX12_happen 66 = .ok (.bipush 8, 2) := by decide +kernel
theorem dX12_happen_68 : decode cX12_happen 68 = .ok (.iload_n 2, 1) := by decide +kernel
theorem dX12_happen_69 : decode cX12_happen 69 = .ok (.imul, 1) := by decide +kernel
theorem dX12_happen_70 : decode cX12_happen 70 = .ok (.iload_n 3, 1) := by decide +kernel
theorem dX12_happen_71 : decode cX12_happen 71 = .ok (.iadd, 1) := by decide +kernel
theorem dX12_happen_72 : decode cX12_happen 72 = .ok (.iaload, 1) := by decide +kernel
theorem dX12_happen_73 : decode cX12_happen 73 = .ok (.ifCond .ge 11, 3) := by decide +kernel
theorem dX12_happen_76 : decode cX12_happen 76 = .ok (.aload_n 0, 1) := by decide +kernel
theorem dX12_happen_77 : decode cX12_happen 77 = .ok (.iload_n 3, 1) := by decide +kernel
theorem dX12_happen_78 : decode cX12_happen 78 = .ok (.invokevirtual 217, 3) := by decide +kernel
theorem dX12_happen_81 : decode cX12_happen 81 = .ok (.goto 22, 3) := by decide +kernel
theorem dX12_happen_84 : decode cX12_happen 84 = .ok (.aload_n 0, 1) := by decide +kernel
theorem dX12_happen_85 : decode cX12_happen 85 = .ok (.aload_n 0, 1) := by decide +kernel
theorem dX12_happen_86 : decode cX12_happen 86 = .ok (.getfield 106, 3) := by decide +kernel
theorem dX12_happen_89 : decode cX12_happen 89 = .ok (.bipush 8, 2) := by decide +kernel
theorem dX12_happen_91 : decode cX12_happen 91 = .ok (.iload_n 2, 1) := by decide +kernel
theorem dX12_happen_92 : decode cX12_happen 92 = .ok (.imul, 1) := by decide +kernel
theorem dX12_happen_93 : decode cX12_happen 93 = .ok (.iload_n 3, 1) := by decide +kernel
theorem dX12_happen_94 : decode cX12_happen 94 = .ok (.iadd, 1) := by decide +kernel
theorem dX12_happen_95 : decode cX12_happen 95 = .ok (.iaload, 1) := by decide +kernel
theorem dX12_happen_96 : decode cX12_happen 96 = .ok (.aload_n 0, 1) := by decide +kernel
theorem dX12_happen_97 : decode cX12_happen 97 = .ok (.invokevirtual 233, 3) := by decide +kernel
theorem dX12_happen_100 : decode cX12_happen 100 = .ok (.invokevirtual 221, 3) := by decide +kernel
theorem dX12_happen_103 : decode cX12_happen 103 = .ok (.lastore, 1) := by decide +kernel
theorem dX12_happen_104 : decode cX12_happen 104 = .ok (.iinc 3 1, 3) := by decide +kernel
theorem dX12_happen_107 : decode cX12_happen 107 = .ok (.goto (-61), 3) := by decide +kernel
theorem dX12_happen_110 : decode cX12_happen 110 = .ok (.iinc 2 1, 3) := by decide +kernel
theorem dX12_happen_113 : decode cX12_happen 113 = .ok (.goto (-109), 3) := by decide +kernel
theorem dX12_happen_116 : decode cX12_happen 116 = .ok (.iload_n 1, 1) := by decide +kernel
theorem dX12_happen_117 : decode cX12_happen 117 = .ok (.ifCond .eq 9, 3) := by decide +kernel
theorem dX12_happen_120 : decode cX12_happen 120 = .ok (.iload_n 1, 1) := by decide +kernel
theorem dX12_happen_121 : decode cX12_happen 121 = .ok (.bipush 64, 2) := by decide +kernel
theorem dX12_happen_123 : decode cX12_happen 123 = .ok (.if_icmp .le 14, 3) := by decide +kernel
theorem dX12_happen_126 : decode cX12_happen 126 = .ok (.iload_n 1, 1) := by decide +kernel
theorem dX12_happen_127 : decode cX12_happen 127 = .ok (.ifCond .ne 7, 3) := by decide +kernel
theorem dX12_happen_130 : decode cX12_happen 130 = .ok (.iconst 0, 1) := by decide +kernel
theorem dX12_happen_131 : decode cX12_happen 131 = .ok (.goto 5, 3) := by decide +kernel
theorem dX12_happen_134 : decode cX12_happen 134 = .ok (.bipush (-3), 2) := by decide +kernel
theorem dX12_happen_136 : decode cX12_happen 136 = .ok (.ireturn, 1) := by decide +kernel
theorem dX12_happen_137 : decode cX12_happen 137 = .ok (.aload_n 0, 1) := by decide +kernel
theorem dX12_happen_138 : decode cX12_happen 138 = .ok (.invokevirtual 258, 3) := by decide +kernel
theorem dX12_happen_141 : decode cX12_happen 141 = .ok (.iconst 0, 1) := by decide +kernel
theorem dX12_happen_142 : decode cX12_happen 142 = .ok (.istore_n 2, 1) := by decide +kernel
theorem dX12_happen_143 : decode cX12_happen 143 = .ok (.iconst 0, 1) := by decide +kernel
theorem dX12_happen_144 : decode cX12_happen 144 = .ok (.istore_n 3, 1) := by decide +kernel
theorem dX12_happen_145 : decode cX12_happen 145 = .ok (.iload_n 3, 1) := by decide +kernel
theorem dX12_happen_146 : decode cX12_happen 146 = .ok (.aload_n 0, 1) := by decide +kernel
theorem dX12_happen_147 : decode cX12_happen 147 = .ok (.getfield 7, 3) := by decide +kernel
theorem dX12_happen_150 : decode cX12_happen 150 = .ok (.if_icmp .ge 123, 3) := by decide +kernel
theorem dX12_happen_153 : decode cX12_happen 153 = .ok (.iconst 0, 1) := by decide +kernel
theorem dX12_happen_154 : decode cX12_happen 154 = .ok (.istore 4, 2) := by decide +kernel
theorem dX12_happen_156 : decode cX12_happen 156 = .ok (.iload 4, 2) := by decide +kernel
theorem dX12_happen_158 : decode cX12_happen 158 = .ok (.aload_n 0, 1) := by decide +kernel
theorem dX12_happen_159 : decode cX12_happen 159 = .ok (.getfield 265, 3) := by decide +kernel
theorem dX12_happen_162 : decode cX12_happen 162 = .ok (.if_icmp .ge 105, 3) := by decide +kernel
theorem dX12_happen_165 : decode cX12_happen 165 = .ok (.aload_n 0, 1) := by decide +kernel
theorem dX12_happen_166 : decode cX12_happen 166 = .ok (.getfield 112, 3) := by decide +kernel
theorem dX12_happen_169 : decode cX12_happen 169 = .ok (.iload 4, 2) := by decide +kernel
theorem dX12_happen_171 : decode cX12_happen 171 = .ok (.laload, 1) := by decide +kernel
theorem dX12_happen_172 : decode cX12_happen 172 = .ok (.iload_n 3, 1) := by decide +kernel
theorem dX12_happen_173 : decode cX12_happen 173 = .ok (.lushr, 1) := by decide +kernel
theorem dX12_happen_174 : decode cX12_happen 174 = .ok (.lconst 1, 1) := by decide +kernel
theorem dX12_happen_175 : decode cX12_happen 175 = .ok (.land, 1) := by decide +kernel
theorem dX12_happen_176 : decode cX12_happen 176 = .ok (.lconst 1, 1) := by decide +kernel
theorem dX12_happen_177 : decode cX12_happen 177 = .ok (.lcmp, 1) := by decide +kernel
theorem dX12_happen_178 : decode cX12_happen 178 = .ok (.ifCond .ne 83, 3) := by decide +kernel
theorem dX12_happen_181 : decode cX12_happen 181 = .ok (.aload_n 0, 1) := by decide +kernel
theorem dX12_happen_182 : decode cX12_happen 182 = .ok (.getfield 119, 3) := by decide +kernel
theorem dX12_happen_185 : decode cX12_happen 185 = .ok (.iload_n 2, 1) := by decide +kernel
theorem dX12_happen_186 : decode cX12_happen 186 = .ok (.iload_n 3, 1) := by decide +kernel
theorem dX12_happen_187 : decode cX12_happen 187 = .ok (.iastore, 1) := by decide +kernel
theorem dX12_happen_188 : decode cX12_happen 188 = .ok (.aload_n 0, 1) := by decide +kernel
theorem dX12_happen_189 : decode cX12_happen 189 = .ok (.getfield 122, 3) := by decide +kernel
theorem dX12_happen_192 : decode cX12_happen 192 = .ok (.iload_n 2, 1) := by decide +kernel
theorem dX12_happen_193 : decode cX12_happen 193 = .ok (.iload 4, 2) := by decide +kernel
theorem dX12_happen_195 : decode cX12_happen 195 = .ok (.iastore, 1) := by decide +kernel
theorem dX12_happen_196 : decode cX12_happen 196 = .ok (.aload_n 0, 1) := by decide +kernel
theorem dX12_happen_197 : decode cX12_happen 197 = .ok (.getfield 125, 3) := by decide +kernel
theorem dX12_happen_200 : decode cX12_happen 200 = .ok (.iload_n 2, 1) := by decide +kernel
theorem dX12_happen_201 : decode cX12_happen 201 = .ok (.iconst 0, 1) := by decide +kernel
theorem dX12_happen_202 : decode cX12_happen 202 = .ok (.iastore, 1) := by decide +kernel
theorem dX12_happen_203 : decode cX12_happen 203 = .ok (.iconst 0, 1) := by decide +kernel
theorem dX12_happen_204 : decode cX12_happen 204 = .ok (.istore 5, 2) := by decide +kernel
theorem dX12_happen_206 : decode cX12_happen 206 = .ok (.iload 5, 2) := by decide +kernel
theorem dX12_happen_208 : decode cX12_happen 208 = .ok (.bipush 8, 2) := by decide +kernel
theorem dX12_happen_210 : decode cX12_happen 210 = .ok (.if_icmp .ge 48, 3) := by decide +kernel
theorem dX12_happen_213 : decode cX12_happen 213 = .ok (.aload_n 0, 1) := by decide +kernel
theorem dX12_happen_214 : decode cX12_happen 214 = .ok (.getfield 125, 3) := by decide +kernel
theorem dX12_happen_217 : decode cX12_happen 217 = .ok (.iload_n 2, 1) := by decide +kernel
theorem dX12_happen_218 : decode cX12_happen 218 = .ok (.dup2, 1) := by decide +kernel
theorem dX12_happen_219 : decode cX12_happen 219 = .ok (.iaload, 1) := by decide +kernel
theorem dX12_happen_220 : decode cX12_happen 220 = .ok (.aload_n 0, 1) := by decide +kernel
theorem dX12_happen_221 : decode cX12_happen 221 = .ok (.getfield 116, 3) := by decide +kernel
theorem dX12_happen_224 : decode cX12_happen 224 = .ok (.bipush 8, 2) := by decide +kernel
theorem dX12_happen_226 : decode cX12_happen 226 = .ok (.iload 4, 2) := by decide +kernel
theorem dX12_happen_228 : decode cX12_happen 228 = .ok (.imul, 1) := by decide +kernel
theorem dX12_happen_229 : decode cX12_happen 229 = .ok (.iload 5, 2) := by decide +kernel
theorem dX12_happen_231 : decode cX12_happen 231 = .ok (.iadd, 1) := by decide +kernel
theorem dX12_happen_232 : decode cX12_happen 232 = .ok (.laload, 1) := by decide +kernel
theorem dX12_happen_233 : decode cX12_happen 233 = .ok (.iload_n 3, 1) := by decide +kernel
theorem dX12_happen_234 : decode cX12_happen 234 = .ok (.lushr, 1) := by decide +kernel
theorem dX12_happen_235 : decode cX12_happen 235 = .ok (.lconst 1, 1) := by decide +kernel
theorem dX12_happen_236 : decode cX12_happen 236 = .ok (.land, 1) := by decide +kernel
theorem dX12_happen_237 : decode cX12_happen 237 = .ok (.lconst 1, 1) := by decide +kernel
theorem dX12_happen_238 : decode cX12_happen 238 = .ok (.lcmp, 1) := by decide +kernel
theorem dX12_happen_239 : decode cX12_happen 239 = .ok (.ifCond .ne 10, 3) := by decide +kernel
theorem dX12_happen_242 : decode cX12_happen 242 = .ok (.iconst 1, 1) := by decide +kernel
theorem dX12_happen_243 : decode cX12_happen 243 = .ok (.iload 5, 2) := by decide +kernel
theorem dX12_happen_245 : decode cX12_happen 245 = .ok (.ishl, 1) := by decide +kernel
theorem dX12_happen_246 : decode cX12_happen 246 = .ok (.goto 4, 3) := by decide +kernel
theorem dX12_happen_249 : decode cX12_happen 249 = .ok (.iconst 0, 1) := by decide +kernel
theorem dX12_happen_250 : decode cX12_happen 250 = .ok (.ior, 1) := by decide +kernel
theorem dX12_happen_251 : decode cX12_happen 251 = .ok (.iastore, 1) := by decide +kernel
theorem dX12_happen_252 : decode cX12_happen 252 = .ok (.iinc 5 1, 3) := by decide +kernel
theorem dX12_happen_255 : decode cX12_happen 255 = .ok (.goto (-49), 3) := by decide +kernel
theorem dX12_happen_258 : decode cX12_happen 258 = .ok (.iinc 2 1, 3) := by decide +kernel
theorem dX12_happen_261 : decode cX12_happen 261 = .ok (.iinc 4 1, 3) := by decide +kernel
theorem dX12_happen_264 : decode cX12_happen 264 = .ok (.goto (-108), 3) := by decide +kernel
theorem dX12_happen_267 : decode cX12_happen 267 = .ok (.iinc 3 1, 3) := by decide +kernel
theorem dX12_happen_270 : decode cX12_happen 270 = .ok (.goto (-125), 3) := by decide +kernel
theorem dX12_happen_273 : decode cX12_happen 273 = .ok (.iconst 0, 1) := by decide +kernel
theorem dX12_happen_274 : decode cX12_happen 274 = .ok (.istore_n 3, 1) := by decide +kernel
theorem dX12_happen_275 : decode cX12_happen 275 = .ok (.iload_n 3, 1) := by decide +kernel
theorem dX12_happen_276 : decode cX12_happen 276 = .ok (.iconst 4, 1) := by decide +kernel
theorem dX12_happen_277 : decode cX12_happen 277 = .ok (.if_icmp .ge 152, 3) := by decide +kernel
theorem dX12_happen_280 : decode cX12_happen 280 = .ok (.iconst 0, 1) := by decide +kernel
theorem dX12_happen_281 : decode cX12_happen 281 = .ok (.istore 4, 2) := by decide +kernel
theorem dX12_happen_283 : decode cX12_happen 283 = .ok (.iload 4, 2) := by decide +kernel
theorem dX12_happen_285 : decode cX12_happen 285 = .ok (.iload_n 1, 1) := by decide +kernel
theorem dX12_happen_286 : decode cX12_happen 286 = .ok (.if_icmp .ge 137, 3) := by decide +kernel
theorem dX12_happen_289 : decode cX12_happen 289 = .ok (.iload 4, 2) := by decide +kernel
theorem dX12_happen_291 : decode cX12_happen 291 = .ok (.istore 5, 2) := by decide +kernel
theorem dX12_happen_293 : decode cX12_happen 293 = .ok (.iload 4, 2) := by decide +kernel
theorem dX12_happen_295 : decode cX12_happen 295 = .ok (.istore 6, 2) := by decide +kernel
theorem dX12_happen_297 : decode cX12_happen 297 = .ok (.iload 6, 2) := by decide +kernel
theorem dX12_happen_299 : decode cX12_happen 299 = .ok (.ifCond .lt 104, 3) := by decide +kernel
theorem dX12_happen_302 : decode cX12_happen 302 = .ok (.aload_n 0, 1) := by decide +kernel
theorem dX12_happen_303 : decode cX12_happen 303 = .ok (.getfield 14, 3) := by decide +kernel
theorem dX12_happen_306 : decode cX12_happen 306 = .ok (.bipush 64, 2) := by decide +kernel
theorem dX12_happen_308 : decode cX12_happen 308 = .ok (.iload_n 3, 1) := by decide +kernel
theorem dX12_happen_309 : decode cX12_happen 309 = .ok (.imul, 1) := by decide +kernel
theorem dX12_happen_310 : decode cX12_happen 310 = .ok (.aload_n 0, 1) := by decide +kernel
theorem dX12_happen_311 : decode cX12_happen 311 = .ok (.getfield 119, 3) := by decide +kernel
theorem dX12_happen_314 : decode cX12_happen 314 = .ok (.iload 4, 2) := by decide +kernel
theorem dX12_happen_316 : decode cX12_happen 316 = .ok (.iaload, 1) := by decide +kernel
theorem dX12_happen_317 : decode cX12_happen 317 = .ok (.iadd, 1) := by decide +kernel
theorem dX12_happen_318 : decode cX12_happen 318 = .ok (.iaload, 1) := by decide +kernel
theorem dX12_happen_319 : decode cX12_happen 319 = .ok (.aload_n 0, 1) := by decide +kernel
theorem dX12_happen_320 : decode cX12_happen 320 = .ok (.getfield 14, 3) := by decide +kernel
theorem dX12_happen_323 : decode cX12_happen 323 = .ok (.bipush 64, 2) := by decide +kernel
theorem dX12_happen_325 : decode cX12_happen 325 = .ok (.iload_n 3, 1) := by decide +kernel
theorem dX12_happen_326 : decode cX12_happen 326 = .ok (.imul, 1) := by decide +kernel
theorem dX12_happen_327 : decode cX12_happen 327 = .ok (.aload_n 0, 1) := by decide +kernel
theorem dX12_happen_328 : decode cX12_happen 328 = .ok (.getfield 119, 3) := by decide +kernel
theorem dX12_happen_331 : decode cX12_happen 331 = .ok (.iload 6, 2) := by decide +kernel
theorem dX12_happen_333 : decode cX12_happen 333 = .ok (.iaload, 1) := by decide +kernel
theorem dX12_happen_334 : decode cX12_happen 334 = .ok (.iadd, 1) := by decide +kernel
theorem dX12_happen_335 : decode cX12_happen 335 = .ok (.iaload, 1) := by decide +kernel
theorem dX12_happen_336 : decode cX12_happen 336 = .ok (.if_icmp .ne 44, 3) := by decide +kernel
theorem dX12_happen_339 : decode cX12_happen 339 = .ok (.aload_n 0, 1) := by decide +kernel
theorem dX12_happen_340 : decode cX12_happen 340 = .ok (.getfield 109, 3) := by decide +kernel
theorem dX12_happen_343 : decode cX12_happen 343 = .ok (.bipush 8, 2) := by decide +kernel
theorem dX12_happen_345 : decode cX12_happen 345 = .ok (.iload_n 3, 1) := by decide +kernel
theorem dX12_happen_346 : decode cX12_happen 346 = .ok (.imul, 1) := by decide +kernel
theorem dX12_happen_347 : decode cX12_happen 347 = .ok (.aload_n 0, 1) := by decide +kernel
theorem dX12_happen_348 : decode cX12_happen 348 = .ok (.getfield 122, 3) := by decide +kernel
theorem dX12_happen_351 : decode cX12_happen 351 = .ok (.iload 4, 2) := by decide +kernel
theorem dX12_happen_353 : decode cX12_happen 353 = .ok (.iaload, 1) := by decide +kernel
theorem dX12_happen_354 : decode cX12_happen 354 = .ok (.iadd, 1) := by decide +kernel
theorem dX12_happen_355 : decode cX12_happen 355 = .ok (.iaload, 1) := by decide +kernel
theorem dX12_happen_356 : decode cX12_happen 356 = .ok (.aload_n 0, 1) := by decide +kernel
theorem dX12_happen_357 : decode cX12_happen 357 = .ok (.getfield 109, 3) := by decide +kernel
theorem dX12_happen_360 : decode cX12_happen 360 = .ok (.bipush 8, 2) := by decide +kernel
theorem dX12_happen_362 : decode cX12_happen 362 = .ok (.iload_n 3, 1) := by decide +kernel
theorem dX12_happen_363 : decode cX12_happen 363 = .ok (.imul, 1) := by decide +kernel
theorem dX12_happen_364 : decode cX12_happen 364 = .ok (.aload_n 0, 1) := by decide +kernel
theorem dX12_happen_365 : decode cX12_happen 365 = .ok (.getfield 122, 3) := by decide +kernel
theorem dX12_happen_368 : decode cX12_happen 368 = .ok (.iload 6, 2) := by decide +kernel
theorem dX12_happen_370 : decode cX12_happen 370 = .ok (.iaload, 1) := by decide +kernel
theorem dX12_happen_371 : decode cX12_happen 371 = .ok (.iadd, 1) := by decide +kernel
theorem dX12_happen_372 : decode cX12_happen 372 = .ok (.iaload, 1) := by decide +kernel
theorem dX12_happen_373 : decode cX12_happen 373 = .ok (.if_icmp .ne 7, 3) := by decide +kernel
theorem dX12_happen_376 : decode cX12_happen 376 = .ok (.iconst 1, 1) := by decide +kernel
theorem dX12_happen_377 : decode cX12_happen 377 = .ok (.goto 4, 3) := by decide +kernel
theorem dX12_happen_380 : decode cX12_happen 380 = .ok (.iconst 0, 1) := by decide +kernel
theorem dX12_happen_381 : decode cX12_happen 381 = .ok (.istore 7, 2) := by decide +kernel
theorem dX12_happen_383 : decode cX12_happen 383 = .ok (.iload 7, 2) := by decide +kernel
theorem dX12_happen_385 : decode cX12_happen 385 = .ok (.ifCond .eq 8, 3) := by decide +kernel
theorem dX12_happen_388 : decode cX12_happen 388 = .ok (.iload 6, 2) := by decide +kernel
theorem dX12_happen_390 : decode cX12_happen 390 = .ok (.goto 5, 3) := by decide +kernel
theorem dX12_happen_393 : decode cX12_happen 393 = .ok (.iload 5, 2) := by decide +kernel
theorem dX12_happen_395 : decode cX12_happen 395 = .ok (.istore 5, 2) := by decide +kernel
theorem dX12_happen_397 : decode cX12_happen 397 = .ok (.iinc 6 (-1), 3) := by decide +kernel
theorem dX12_happen_400 : decode cX12_happen 400 = .ok (.goto (-103), 3) := by decide +kernel
theorem dX12_happen_403 : decode cX12_happen 403 = .ok (.aload_n 0, 1) := by decide +kernel
theorem dX12_happen_404 : decode cX12_happen 404 = .ok (.getfield 100, 3) := by decide +kernel
theorem dX12_happen_407 : decode cX12_happen 407 = .ok (.bipush 64, 2) := by decide +kernel
theorem dX12_happen_409 : decode cX12_happen 409 = .ok (.iload_n 3, 1) := by decide +kernel
theorem dX12_happen_410 : decode cX12_happen 410 = .ok (.imul, 1) := by decide +kernel
theorem dX12_happen_411 : decode cX12_happen 411 = .ok (.iload 4, 2) := by decide +kernel
theorem dX12_happen_413 : decode cX12_happen 413 = .ok (.iadd, 1) := by decide +kernel
theorem dX12_happen_414 : decode cX12_happen 414 = .ok (.iload 5, 2) := by decide +kernel
theorem dX12_happen_416 : decode cX12_happen 416 = .ok (.iastore, 1) := by decide +kernel
theorem dX12_happen_417 : decode cX12_happen 417 = .ok (.iinc 4 1, 3) := by decide +kernel
theorem dX12_happen_420 : decode cX12_happen 420 = .ok (.goto (-137), 3) := by decide +kernel
theorem dX12_happen_423 : decode cX12_happen 423 = .ok (.iinc 3 1, 3) := by decide +kernel
theorem dX12_happen_426 : decode cX12_happen 426 = .ok (.goto (-151), 3) := by decide +kernel
theorem dX12_happen_429 : decode cX12_happen 429 = .ok (.aload_n 0, 1) := by decide +kernel
theorem dX12_happen_430 : decode cX12_happen 430 = .ok (.iload_n 1, 1) := by decide +kernel
theorem dX12_happen_431 : decode cX12_happen 431 = .ok (.putfield 7, 3) := by decide +kernel
theorem dX12_happen_434 : decode cX12_happen 434 = .ok (.iconst 0, 1) := by decide +kernel
theorem dX12_happen_435 : decode cX12_happen 435 = .ok (.istore_n 3, 1) := by decide +kernel
theorem dX12_happen_436 : decode cX12_happen 436 = .ok (.iload_n 3, 1) := by decide +kernel
theorem dX12_happen_437 : decode cX12_happen 437 = .ok (.sipush 256, 3) := by decide +kernel
theorem dX12_happen_440 : decode cX12_happen 440 = .ok (.if_icmp .ge 21, 3) := by decide +kernel
theorem dX12_happen_443 : decode cX12_happen 443 = .ok (.aload_n 0, 1) := by decide +kernel
theorem dX12_happen_444 : decode cX12_happen 444 = .ok (.getfield 14, 3) := by decide +kernel
theorem dX12_happen_447 : decode cX12_happen 447 = .ok (.iload_n 3, 1) := by decide +kernel
theorem dX12_happen_448 : decode cX12_happen 448 = .ok (.aload_n 0, 1) := by decide +kernel
theorem dX12_happen_449 : decode cX12_happen 449 = .ok (.getfield 100, 3) := by decide +kernel
theorem dX12_happen_452 : decode cX12_happen 452 = .ok (.iload_n 3, 1) := by decide +kernel
theorem dX12_happen_453 : decode cX12_happen 453 = .ok (.iaload, 1) := by decide +kernel
theorem dX12_happen_454 : decode cX12_happen 454 = .ok (.iastore, 1) := by decide +kernel
theorem dX12_happen_455 : decode cX12_happen 455 = .ok (.iinc 3 1, 3) := by decide +kernel
theorem dX12_happen_458 : decode cX12_happen 458 = .ok (.goto (-22), 3) := by decide +kernel
theorem dX12_happen_461 : decode cX12_happen 461 = .ok (.iconst 0, 1) := by decide +kernel
theorem dX12_happen_462 : decode cX12_happen 462 = .ok (.istore_n 3, 1) := by decide +kernel
theorem dX12_happen_463 : decode cX12_happen 463 = .ok (.iload_n 3, 1) := by decide +kernel
theorem dX12_happen_464 : decode cX12_happen 464 = .ok (.iload_n 1, 1) := by decide +kernel
theorem dX12_happen_465 : decode cX12_happen 465 = .ok (.if_icmp .ge 21, 3) := by decide +kernel
theorem dX12_happen_468 : decode cX12_happen 468 = .ok (.aload_n 0, 1) := by decide +kernel
theorem dX12_happen_469 : decode cX12_happen 469 = .ok (.getfield 31, 3) := by decide +kernel
theorem dX12_happen_472 : decode cX12_happen 472 = .ok (.iload_n 3, 1) := by decide +kernel
theorem dX12_happen_473 : decode cX12_happen 473 = .ok (.aload_n 0, 1) := by decide +kernel
theorem dX12_happen_474 : decode cX12_happen 474 = .ok (.getfield 125, 3) := by decide +kernel
theorem dX12_happen_477 : decode cX12_happen 477 = .ok (.iload_n 3, 1) := by decide +kernel
theorem dX12_happen_478 : decode cX12_happen 478 = .ok (.iaload, 1) := by decide +kernel
theorem dX12_happen_479 : decode cX12_happen 479 = .ok (.iastore, 1) := by decide +kernel
theorem dX12_happen_480 : decode cX12_happen 480 = .ok (.iinc 3 1, 3) := by decide +kernel
theorem dX12_happen_483 : decode cX12_happen 483 = .ok (.goto (-20), 3) := by decide +kernel
theorem dX12_happen_486 : decode cX12_happen 486 = .ok (.iload_n 1, 1) := by decide +kernel
theorem dX12_happen_487 : decode cX12_happen 487 = .ok (.ireturn, 1) := by decide +kernel
def f_X12_happen_103 (F P : Nat) (S : xSt) (rec_4 : Nat → Int32 → Int32 → xDt → Option (Int32 × xDt)) (rec_46 : Nat → Int32 → Int32 → Int32 → xDt → Option (Int32 × xDt)) (v0 : Nat) (v1 : Int32) (v2 : Int32) (v3 : Int32) (s0 : Int64) (s1 : Int32) (s2 : Nat) (D : xDt) : Option (Int32 × xDt) :=
  xgrd (xin s1 (xl S s2)) (xlet (D.1, xup D.2 s2 (s1).toNatClampNeg s0) fun D2 => xlet (v3 + 1) fun v3_3 => rec_46 v0 v1 v2 v3_3 D2)
set_option maxHeartbeats 4000000 in
theorem t_X12_happen_103 {F P : Nat} {S : xSt} (hS : xWF S) {rec_4 : Nat → Int32 → Int32 → xDt → Option (Int32 × xDt)} (hrec_4 : ∀ {v0 : Nat} {v1 : Int32} {v2 : Int32} {D : xDt} {r : Int32 × xDt}, xK S v0 12 → rec_4 v0 v1 v2 D = some r → yEx md_X12_happen (P + 5) 4 [(0, .ref v0), (1, .int v1), (2, .int v2)] [] S D (xQi S r)) {rec_46 : Nat → Int32 → Int32 → Int32 → xDt → Option (Int32 × xDt)} (hrec_46 : ∀ {v0 : Nat} {v1 : Int32} {v2 : Int32} {v3 : Int32} {D : xDt} {r : Int32 × xDt}, xK S v0 12 → rec_46 v0 v1 v2 v3 D = some r → yEx md_X12_happen (P + 5) 46 [(0, .ref v0), (1, .int v1), (2, .int v2), (3, .int v3)] [] S D (xQi S r)) {v0 : Nat} {v1 : Int32} {v2 : Int32} {v3 : Int32} {s0 : Int64} {s1 : Int32} {s2 : Nat} {D : xDt} {r : Int32 × xDt} (k0 : xK S v0 12) (ks2 : xK S s2 101) (h : f_X12_happen_103 F P S rec_4 rec_46 v0 v1 v2 v3 s0 s1 s2 D = some r) : yEx md_X12_happen (P + 5) 103 [(0, .ref v0), (1, .int v1), (2, .int v2), (3, .int v3)] [.long s0, .int s1, .ref s2] S D (xQi S r) := by
  unfold f_X12_happen_103 at h
  refine xgrd_e h (fun g1 h => ?_)
  refine xlet_e h (fun D2 eD2 h => ?_)
  refine y_last dX12_happen_103 ks2 g1 eD2 ?_
  refine xlet_e h (fun v3_3 ev3_3 h => ?_)
  refine y_iinc v3_3 ev3_3 (by decide) [(3, .int v3_3), (0, .ref v0), (1, .int v1), (2, .int v2)] dX12_happen_104 3 rfl (by show _ < 8; decide) rfl ?_
  refine x_goto 46 dX12_happen_107 (by decide) ?_
  refine x_lv (lv' := [(0, .ref v0), (1, .int v1), (2, .int v2), (3, .int v3_3)]) [1, 2, 3, 0] rfl ?_
  exact hrec_46 k0 h

def f_X12_happen_46s (F P : Nat) (S : xSt) (rec_4 : Nat → Int32 → Int32 → xDt → Option (Int32 × xDt)) (rec_46 : Nat → Int32 → Int32 → Int32 → xDt → Option (Int32 × xDt)) (v0 : Nat) (v1 : Int32) (v2 : Int32) (v3 : Int32) (D : xDt) : Option (Int32 × xDt) :=
  if 8 ≤ v3 then (xlet (v2 + 1) fun v2_1 => rec_4 v0 v1 v2_1 D) else (xgrd (xin ((8 * v2) + v3) (xl S (xr S v0 27))) (if 0 ≤ (D.1 (xr S v0 27) ((8 * v2) + v3).toNatClampNeg) then (xgrd (xin ((8 * v2) + v3) (xl S (xr S v0 27))) ((f_X12_all F P S v0 D).bind fun q4 => (f_X12_where F P S P v0 (D.1 (xr S v0 27) ((8 * v2) + v3).toNatClampNeg) q4.1 q4.2).bind fun q5 => f_X12_happen_103 F P S rec_4 rec_46 v0 v1 v2 v3 q5.1 ((8 * v2) + v3) (xr S v0 30) q5.2)) else ((f_X12_ofAtom F P S v0 v3 D).bind fun q6 => f_X12_happen_103 F P S rec_4 rec_46 v0 v1 v2 v3 q6.1 ((8 * v2) + v3) (xr S v0 30) q6.2)))
def f_X12_happen_46 (F P : Nat) (S : xSt) (rec_4 : Nat → Int32 → Int32 → xDt → Option (Int32 × xDt)) : Nat → Nat → Int32 → Int32 → Int32 → xDt → Option (Int32 × xDt)
  | 0 => fun _ _ _ _ _ => none
  | n + 1 => f_X12_happen_46s F P S rec_4 (f_X12_happen_46 F P S rec_4 n)
set_option maxHeartbeats 4000000 in
theorem t_X12_happen_46s {F P : Nat} {S : xSt} (hS : xWF S) {rec_4 : Nat → Int32 → Int32 → xDt → Option (Int32 × xDt)} (hrec_4 : ∀ {v0 : Nat} {v1 : Int32} {v2 : Int32} {D : xDt} {r : Int32 × xDt}, xK S v0 12 → rec_4 v0 v1 v2 D = some r → yEx md_X12_happen (P + 5) 4 [(0, .ref v0), (1, .int v1), (2, .int v2)] [] S D (xQi S r)) {rec_46 : Nat → Int32 → Int32 → Int32 → xDt → Option (Int32 × xDt)} (hrec_46 : ∀ {v0 : Nat} {v1 : Int32} {v2 : Int32} {v3 : Int32} {D : xDt} {r : Int32 × xDt}, xK S v0 12 → rec_46 v0 v1 v2 v3 D = some r → yEx md_X12_happen (P + 5) 46 [(0, .ref v0), (1, .int v1), (2, .int v2), (3, .int v3)] [] S D (xQi S r)) {v0 : Nat} {v1 : Int32} {v2 : Int32} {v3 : Int32} {D : xDt} {r : Int32 × xDt} (k0 : xK S v0 12) (h : f_X12_happen_46s F P S rec_4 rec_46 v0 v1 v2 v3 D = some r) : yEx md_X12_happen (P + 5) 46 [(0, .ref v0), (1, .int v1), (2, .int v2), (3, .int v3)] [] S D (xQi S r) := by
  unfold f_X12_happen_46s at h
  refine x_iload_n dX12_happen_46 3 rfl ?_
  refine x_bipush 8 dX12_happen_47 (by decide) ?_
  refine x_icmp_ge 110 dX12_happen_49 (by decide) (fun c => ?_) (fun c => ?_)
  · rw [if_pos c] at h
    refine xlet_e h (fun v2_1 ev2_1 h => ?_)
    refine y_iinc v2_1 ev2_1 (by decide) [(2, .int v2_1), (0, .ref v0), (1, .int v1), (3, .int v3)] dX12_happen_110 2 rfl (by show _ < 8; decide) rfl ?_
    refine x_goto 4 dX12_happen_113 (by decide) ?_
    refine x_lv (lv' := [(0, .ref v0), (1, .int v1), (2, .int v2_1)]) [1, 2, 0] rfl ?_
    exact hrec_4 k0 h
  · rw [if_neg c] at h
    refine x_aload_n dX12_happen_52 0 rfl ?_
    refine y_getr (kd := 101) hS fl_RX12_116 dX12_happen_53 rfl k0 ?_
    refine x_bipush 8 dX12_happen_56 (by decide) ?_
    refine x_iload_n dX12_happen_58 2 rfl ?_
    refine x_imul dX12_happen_59 ?_
    refine x_iload_n dX12_happen_60 3 rfl ?_
    refine x_iadd dX12_happen_61 ?_
    refine x_aload_n dX12_happen_62 0 rfl ?_
    refine y_getr (kd := 100) hS fl_RX12_106 dX12_happen_63 rfl k0 ?_
    refine x_bipush 8 dX12_happen_66 (by decide) ?_
    refine x_iload_n dX12_happen_68 2 rfl ?_
    refine x_imul dX12_happen_69 ?_
    refine x_iload_n dX12_happen_70 3 rfl ?_
    refine x_iadd dX12_happen_71 ?_
    refine xgrd_e h (fun g2 h => ?_)
    refine y_iald dX12_happen_72 ((hS.f k0 27 100 rfl).2) g2 ?_
    refine x_if_ge 84 dX12_happen_73 (by decide) (fun c => ?_) (fun c => ?_)
    · rw [if_pos c] at h
      refine x_aload_n dX12_happen_84 0 rfl ?_
      refine x_aload_n dX12_happen_85 0 rfl ?_
      refine y_getr (kd := 100) hS fl_RX12_106 dX12_happen_86 rfl k0 ?_
      refine x_bipush 8 dX12_happen_89 (by decide) ?_
      refine x_iload_n dX12_happen_91 2 rfl ?_
      refine x_imul dX12_happen_92 ?_
      refine x_iload_n dX12_happen_93 3 rfl ?_
      refine x_iadd dX12_happen_94 ?_
      refine xgrd_e h (fun g3 h => ?_)
      refine y_iald dX12_happen_95 ((hS.f k0 27 100 rfl).2) g3 ?_
      refine x_aload_n dX12_happen_96 0 rfl ?_
      refine xbnd_e h (fun q4 e4 h => ?_)
      refine y_callVl (As := []) (q := q4) cv_RX12_233 dX12_happen_97 k0 rfl (Nat.le_of_ble_eq_true rfl) (by omega) (S_X12_all hS k0 e4) ?_
      refine xbnd_e h (fun q5 e5 h => ?_)
      refine y_callVl (As := [.int (D.1 (xr S v0 27) ((8 * v2) + v3).toNatClampNeg), .long q4.1]) (q := q5) cv_RX12_221 dX12_happen_100 k0 rfl (Nat.le_of_ble_eq_true rfl) (by omega) (S_X12_where hS P k0 e5) ?_
      exact t_X12_happen_103 hS hrec_4 hrec_46 k0 ((hS.f k0 30 101 rfl).2) h
    · rw [if_neg c] at h
      refine x_aload_n dX12_happen_76 0 rfl ?_
      refine x_iload_n dX12_happen_77 3 rfl ?_
      refine xbnd_e h (fun q6 e6 h => ?_)
      refine y_callVl (As := [.int v3]) (q := q6) cv_RX12_217 dX12_happen_78 k0 rfl (Nat.le_of_ble_eq_true rfl) (by omega) (S_X12_ofAtom hS k0 e6) ?_
      refine x_goto 103 dX12_happen_81 (by decide) ?_
      exact t_X12_happen_103 hS hrec_4 hrec_46 k0 ((hS.f k0 30 101 rfl).2) h
theorem t_X12_happen_46 {F P : Nat} {S : xSt} (hS : xWF S) {rec_4 : Nat → Int32 → Int32 → xDt → Option (Int32 × xDt)} (hrec_4 : ∀ {v0 : Nat} {v1 : Int32} {v2 : Int32} {D : xDt} {r : Int32 × xDt}, xK S v0 12 → rec_4 v0 v1 v2 D = some r → yEx md_X12_happen (P + 5) 4 [(0, .ref v0), (1, .int v1), (2, .int v2)] [] S D (xQi S r)) : ∀ (n : Nat) {v0 : Nat} {v1 : Int32} {v2 : Int32} {v3 : Int32} {D : xDt} {r : Int32 × xDt}, xK S v0 12 → f_X12_happen_46 F P S rec_4 n v0 v1 v2 v3 D = some r → yEx md_X12_happen (P + 5) 46 [(0, .ref v0), (1, .int v1), (2, .int v2), (3, .int v3)] [] S D (xQi S r) := by
  intro n
  induction n with
  | zero => intros; rename_i h; cases h
  | succ n ih =>
    intro v0 v1 v2 v3 D r k0 h
    exact t_X12_happen_46s hS hrec_4 (fun k0 h => ih k0 h) k0 h

def f_X12_happen_126 (F P : Nat) (S : xSt) (v1 : Int32) (D : xDt) : Option (Int32 × xDt) :=
  if v1 = 0 then (some (0, D)) else (some ((-3), D))
set_option maxHeartbeats 4000000 in
theorem t_X12_happen_126 {F P : Nat} {S : xSt} (hS : xWF S) {v1 : Int32} {D : xDt} {r : Int32 × xDt} (h : f_X12_happen_126 F P S v1 D = some r) : yEx md_X12_happen (P + 5) 126 [(1, .int v1)] [] S D (xQi S r) := by
  unfold f_X12_happen_126 at h
  refine x_iload_n dX12_happen_126 0 rfl ?_
  refine x_if_ne 134 dX12_happen_127 (by decide) (fun c => ?_) (fun c => ?_)
  · rw [if_neg c] at h
    refine x_bipush (-3) dX12_happen_134 (by decide) ?_
    obtain rfl := Option.some.inj h
    exact y_iret rfl dX12_happen_136
  · rw [if_pos c] at h
    refine x_iconst 0 dX12_happen_130 (by decide) ?_
    refine x_goto 136 dX12_happen_131 (by decide) ?_
    obtain rfl := Option.some.inj h
    exact y_iret rfl dX12_happen_136

def f_X12_happen_250 (F P : Nat) (S : xSt) (rec_145 : Nat → Int32 → Int32 → Int32 → xDt → Option (Int32 × xDt)) (rec_156 : Nat → Int32 → Int32 → Int32 → Int32 → xDt → Option (Int32 × xDt)) (rec_206 : Nat → Int32 → Int32 → Int32 → Int32 → Int32 → xDt → Option (Int32 × xDt)) (v0 : Nat) (v1 : Int32) (v2 : Int32) (v3 : Int32) (v4 : Int32) (v5 : Int32) (s0 : Int32) (s1 : Int32) (s2 : Int32) (s3 : Nat) (D : xDt) : Option (Int32 × xDt) :=
  xgrd (xin s2 (xl S s3)) (xlet (xup D.1 s3 (s2).toNatClampNeg (s1 ||| s0), D.2) fun D2 => xlet (v5 + 1) fun v5_3 => rec_206 v0 v1 v2 v3 v4 v5_3 D2)
set_option maxHeartbeats 4000000 in
theorem t_X12_happen_250 {F P : Nat} {S : xSt} (hS : xWF S) {rec_145 : Nat → Int32 → Int32 → Int32 → xDt → Option (Int32 × xDt)} (hrec_145 : ∀ {v0 : Nat} {v1 : Int32} {v2 : Int32} {v3 : Int32} {D : xDt} {r : Int32 × xDt}, xK S v0 12 → rec_145 v0 v1 v2 v3 D = some r → yEx md_X12_happen (P + 5) 145 [(0, .ref v0), (1, .int v1), (2, .int v2), (3, .int v3)] [] S D (xQi S r)) {rec_156 : Nat → Int32 → Int32 → Int32 → Int32 → xDt → Option (Int32 × xDt)} (hrec_156 : ∀ {v0 : Nat} {v1 : Int32} {v2 : Int32} {v3 : Int32} {v4 : Int32} {D : xDt} {r : Int32 × xDt}, xK S v0 12 → rec_156 v0 v1 v2 v3 v4 D = some r → yEx md_X12_happen (P + 5) 156 [(0, .ref v0), (1, .int v1), (2, .int v2), (3, .int v3), (4, .int v4)] [] S D (xQi S r)) {rec_206 : Nat → Int32 → Int32 → Int32 → Int32 → Int32 → xDt → Option (Int32 × xDt)} (hrec_206 : ∀ {v0 : Nat} {v1 : Int32} {v2 : Int32} {v3 : Int32} {v4 : Int32} {v5 : Int32} {D : xDt} {r : Int32 × xDt}, xK S v0 12 → rec_206 v0 v1 v2 v3 v4 v5 D = some r → yEx md_X12_happen (P + 5) 206 [(0, .ref v0), (1, .int v1), (2, .int v2), (3, .int v3), (4, .int v4), (5, .int v5)] [] S D (xQi S r)) {v0 : Nat} {v1 : Int32} {v2 : Int32} {v3 : Int32} {v4 : Int32} {v5 : Int32} {s0 : Int32} {s1 : Int32} {s2 : Int32} {s3 : Nat} {D : xDt} {r : Int32 × xDt} (k0 : xK S v0 12) (ks3 : xK S s3 100) (h : f_X12_happen_250 F P S rec_145 rec_156 rec_206 v0 v1 v2 v3 v4 v5 s0 s1 s2 s3 D = some r) : yEx md_X12_happen (P + 5) 250 [(0, .ref v0), (1, .int v1), (2, .int v2), (3, .int v3), (4, .int v4), (5, .int v5)] [.int s0, .int s1, .int s2, .ref s3] S D (xQi S r) := by
  unfold f_X12_happen_250 at h
  refine x_ior dX12_happen_250 ?_
  refine xgrd_e h (fun g1 h => ?_)
  refine xlet_e h (fun D2 eD2 h => ?_)
  refine y_iast dX12_happen_251 ks3 g1 eD2 ?_
  refine xlet_e h (fun v5_3 ev5_3 h => ?_)
  refine y_iinc v5_3 ev5_3 (by decide) [(5, .int v5_3), (0, .ref v0), (1, .int v1), (2, .int v2), (3, .int v3), (4, .int v4)] dX12_happen_252 5 rfl (by show _ < 8; decide) rfl ?_
  refine x_goto 206 dX12_happen_255 (by decide) ?_
  refine x_lv (lv' := [(0, .ref v0), (1, .int v1), (2, .int v2), (3, .int v3), (4, .int v4), (5, .int v5_3)]) [1, 2, 3, 4, 5, 0] rfl ?_
  exact hrec_206 k0 h

def f_X12_happen_261 (F P : Nat) (S : xSt) (rec_145 : Nat → Int32 → Int32 → Int32 → xDt → Option (Int32 × xDt)) (rec_156 : Nat → Int32 → Int32 → Int32 → Int32 → xDt → Option (Int32 × xDt)) (v0 : Nat) (v1 : Int32) (v2 : Int32) (v3 : Int32) (v4 : Int32) (D : xDt) : Option (Int32 × xDt) :=
  xlet (v4 + 1) fun v4_1 => rec_156 v0 v1 v2 v3 v4_1 D
set_option maxHeartbeats 4000000 in
theorem t_X12_happen_261 {F P : Nat} {S : xSt} (hS : xWF S) {rec_145 : Nat → Int32 → Int32 → Int32 → xDt → Option (Int32 × xDt)} (hrec_145 : ∀ {v0 : Nat} {v1 : Int32} {v2 : Int32} {v3 : Int32} {D : xDt} {r : Int32 × xDt}, xK S v0 12 → rec_145 v0 v1 v2 v3 D = some r → yEx md_X12_happen (P + 5) 145 [(0, .ref v0), (1, .int v1), (2, .int v2), (3, .int v3)] [] S D (xQi S r)) {rec_156 : Nat → Int32 → Int32 → Int32 → Int32 → xDt → Option (Int32 × xDt)} (hrec_156 : ∀ {v0 : Nat} {v1 : Int32} {v2 : Int32} {v3 : Int32} {v4 : Int32} {D : xDt} {r : Int32 × xDt}, xK S v0 12 → rec_156 v0 v1 v2 v3 v4 D = some r → yEx md_X12_happen (P + 5) 156 [(0, .ref v0), (1, .int v1), (2, .int v2), (3, .int v3), (4, .int v4)] [] S D (xQi S r)) {v0 : Nat} {v1 : Int32} {v2 : Int32} {v3 : Int32} {v4 : Int32} {D : xDt} {r : Int32 × xDt} (k0 : xK S v0 12) (h : f_X12_happen_261 F P S rec_145 rec_156 v0 v1 v2 v3 v4 D = some r) : yEx md_X12_happen (P + 5) 261 [(0, .ref v0), (1, .int v1), (2, .int v2), (3, .int v3), (4, .int v4)] [] S D (xQi S r) := by
  unfold f_X12_happen_261 at h
  refine xlet_e h (fun v4_1 ev4_1 h => ?_)
  refine y_iinc v4_1 ev4_1 (by decide) [(4, .int v4_1), (0, .ref v0), (1, .int v1), (2, .int v2), (3, .int v3)] dX12_happen_261 4 rfl (by show _ < 8; decide) rfl ?_
  refine x_goto 156 dX12_happen_264 (by decide) ?_
  refine x_lv (lv' := [(0, .ref v0), (1, .int v1), (2, .int v2), (3, .int v3), (4, .int v4_1)]) [1, 2, 3, 4, 0] rfl ?_
  exact hrec_156 k0 h

def f_X12_happen_206s (F P : Nat) (S : xSt) (rec_145 : Nat → Int32 → Int32 → Int32 → xDt → Option (Int32 × xDt)) (rec_156 : Nat → Int32 → Int32 → Int32 → Int32 → xDt → Option (Int32 × xDt)) (rec_206 : Nat → Int32 → Int32 → Int32 → Int32 → Int32 → xDt → Option (Int32 × xDt)) (v0 : Nat) (v1 : Int32) (v2 : Int32) (v3 : Int32) (v4 : Int32) (v5 : Int32) (D : xDt) : Option (Int32 × xDt) :=
  if 8 ≤ v5 then (xlet (v2 + 1) fun v2_1 => f_X12_happen_261 F P S rec_145 rec_156 v0 v1 v2_1 v3 v4 D) else (xgrd (xin v2 (xl S (xr S v0 33))) (xgrd (xin ((8 * v4) + v5) (xl S (xr S v0 30))) (if (lg_cmp ((jlushr (D.2 (xr S v0 30) ((8 * v4) + v5).toNatClampNeg) v3) &&& 1) 1) = 0 then (f_X12_happen_250 F P S rec_145 rec_156 rec_206 v0 v1 v2 v3 v4 v5 (jishl 1 v5) (D.1 (xr S v0 33) (v2).toNatClampNeg) v2 (xr S v0 33) D) else (f_X12_happen_250 F P S rec_145 rec_156 rec_206 v0 v1 v2 v3 v4 v5 0 (D.1 (xr S v0 33) (v2).toNatClampNeg) v2 (xr S v0 33) D))))
def f_X12_happen_206 (F P : Nat) (S : xSt) (rec_145 : Nat → Int32 → Int32 → Int32 → xDt → Option (Int32 × xDt)) (rec_156 : Nat → Int32 → Int32 → Int32 → Int32 → xDt → Option (Int32 × xDt)) : Nat → Nat → Int32 → Int32 → Int32 → Int32 → Int32 → xDt → Option (Int32 × xDt)
  | 0 => fun _ _ _ _ _ _ _ => none
  | n + 1 => f_X12_happen_206s F P S rec_145 rec_156 (f_X12_happen_206 F P S rec_145 rec_156 n)
set_option maxHeartbeats 4000000 in
theorem t_X12_happen_206s {F P : Nat} {S : xSt} (hS : xWF S) {rec_145 : Nat → Int32 → Int32 → Int32 → xDt → Option (Int32 × xDt)} (hrec_145 : ∀ {v0 : Nat} {v1 : Int32} {v2 : Int32} {v3 : Int32} {D : xDt} {r : Int32 × xDt}, xK S v0 12 → rec_145 v0 v1 v2 v3 D = some r → yEx md_X12_happen (P + 5) 145 [(0, .ref v0), (1, .int v1), (2, .int v2), (3, .int v3)] [] S D (xQi S r)) {rec_156 : Nat → Int32 → Int32 → Int32 → Int32 → xDt → Option (Int32 × xDt)} (hrec_156 : ∀ {v0 : Nat} {v1 : Int32} {v2 : Int32} {v3 : Int32} {v4 : Int32} {D : xDt} {r : Int32 × xDt}, xK S v0 12 → rec_156 v0 v1 v2 v3 v4 D = some r → yEx md_X12_happen (P + 5) 156 [(0, .ref v0), (1, .int v1), (2, .int v2), (3, .int v3), (4, .int v4)] [] S D (xQi S r)) {rec_206 : Nat → Int32 → Int32 → Int32 → Int32 → Int32 → xDt → Option (Int32 × xDt)} (hrec_206 : ∀ {v0 : Nat} {v1 : Int32} {v2 : Int32} {v3 : Int32} {v4 : Int32} {v5 : Int32} {D : xDt} {r : Int32 × xDt}, xK S v0 12 → rec_206 v0 v1 v2 v3 v4 v5 D = some r → yEx md_X12_happen (P + 5) 206 [(0, .ref v0), (1, .int v1), (2, .int v2), (3, .int v3), (4, .int v4), (5, .int v5)] [] S D (xQi S r)) {v0 : Nat} {v1 : Int32} {v2 : Int32} {v3 : Int32} {v4 : Int32} {v5 : Int32} {D : xDt} {r : Int32 × xDt} (k0 : xK S v0 12) (h : f_X12_happen_206s F P S rec_145 rec_156 rec_206 v0 v1 v2 v3 v4 v5 D = some r) : yEx md_X12_happen (P + 5) 206 [(0, .ref v0), (1, .int v1), (2, .int v2), (3, .int v3), (4, .int v4), (5, .int v5)] [] S D (xQi S r) := by
  unfold f_X12_happen_206s at h
  refine x_iload dX12_happen_206 5 rfl ?_
  refine x_bipush 8 dX12_happen_208 (by decide) ?_
  refine x_icmp_ge 258 dX12_happen_210 (by decide) (fun c => ?_) (fun c => ?_)
  · rw [if_pos c] at h
    refine xlet_e h (fun v2_1 ev2_1 h => ?_)
    refine y_iinc v2_1 ev2_1 (by decide) [(2, .int v2_1), (0, .ref v0), (1, .int v1), (3, .int v3), (4, .int v4), (5, .int v5)] dX12_happen_258 2 rfl (by show _ < 8; decide) rfl ?_
    refine x_lv (lv' := [(0, .ref v0), (1, .int v1), (2, .int v2_1), (3, .int v3), (4, .int v4)]) [1, 2, 0, 3, 4] rfl ?_
    exact t_X12_happen_261 hS hrec_145 hrec_156 k0 h
  · rw [if_neg c] at h
    refine x_aload_n dX12_happen_213 0 rfl ?_
    refine y_getr (kd := 100) hS fl_RX12_125 dX12_happen_214 rfl k0 ?_
    refine x_iload_n dX12_happen_217 2 rfl ?_
    refine x_dup2 dX12_happen_218 rfl rfl ?_
    refine xgrd_e h (fun g2 h => ?_)
    refine y_iald dX12_happen_219 ((hS.f k0 33 100 rfl).2) g2 ?_
    refine x_aload_n dX12_happen_220 0 rfl ?_
    refine y_getr (kd := 101) hS fl_RX12_116 dX12_happen_221 rfl k0 ?_
    refine x_bipush 8 dX12_happen_224 (by decide) ?_
    refine x_iload dX12_happen_226 4 rfl ?_
    refine x_imul dX12_happen_228 ?_
    refine x_iload dX12_happen_229 5 rfl ?_
    refine x_iadd dX12_happen_231 ?_
    refine xgrd_e h (fun g3 h => ?_)
    refine y_lald dX12_happen_232 ((hS.f k0 30 101 rfl).2) g3 ?_
    refine x_iload_n dX12_happen_233 3 rfl ?_
    refine x_lushr dX12_happen_234 ?_
    refine x_lconst 1 dX12_happen_235 (by decide) ?_
    refine x_land dX12_happen_236 ?_
    refine x_lconst 1 dX12_happen_237 (by decide) ?_
    refine x_lcmp dX12_happen_238 ?_
    refine x_if_ne 249 dX12_happen_239 (by decide) (fun c => ?_) (fun c => ?_)
    · rw [if_neg c] at h
      refine x_iconst 0 dX12_happen_249 (by decide) ?_
      exact t_X12_happen_250 hS hrec_145 hrec_156 hrec_206 k0 ((hS.f k0 33 100 rfl).2) h
    · rw [if_pos c] at h
      refine x_iconst 1 dX12_happen_242 (by decide) ?_
      refine x_iload dX12_happen_243 5 rfl ?_
      refine x_ishl dX12_happen_245 ?_
      refine x_goto 250 dX12_happen_246 (by decide) ?_
      exact t_X12_happen_250 hS hrec_145 hrec_156 hrec_206 k0 ((hS.f k0 33 100 rfl).2) h
theorem t_X12_happen_206 {F P : Nat} {S : xSt} (hS : xWF S) {rec_145 : Nat → Int32 → Int32 → Int32 → xDt → Option (Int32 × xDt)} (hrec_145 : ∀ {v0 : Nat} {v1 : Int32} {v2 : Int32} {v3 : Int32} {D : xDt} {r : Int32 × xDt}, xK S v0 12 → rec_145 v0 v1 v2 v3 D = some r → yEx md_X12_happen (P + 5) 145 [(0, .ref v0), (1, .int v1), (2, .int v2), (3, .int v3)] [] S D (xQi S r)) {rec_156 : Nat → Int32 → Int32 → Int32 → Int32 → xDt → Option (Int32 × xDt)} (hrec_156 : ∀ {v0 : Nat} {v1 : Int32} {v2 : Int32} {v3 : Int32} {v4 : Int32} {D : xDt} {r : Int32 × xDt}, xK S v0 12 → rec_156 v0 v1 v2 v3 v4 D = some r → yEx md_X12_happen (P + 5) 156 [(0, .ref v0), (1, .int v1), (2, .int v2), (3, .int v3), (4, .int v4)] [] S D (xQi S r)) : ∀ (n : Nat) {v0 : Nat} {v1 : Int32} {v2 : Int32} {v3 : Int32} {v4 : Int32} {v5 : Int32} {D : xDt} {r : Int32 × xDt}, xK S v0 12 → f_X12_happen_206 F P S rec_145 rec_156 n v0 v1 v2 v3 v4 v5 D = some r → yEx md_X12_happen (P + 5) 206 [(0, .ref v0), (1, .int v1), (2, .int v2), (3, .int v3), (4, .int v4), (5, .int v5)] [] S D (xQi S r) := by
  intro n
  induction n with
  | zero => intros; rename_i h; cases h
  | succ n ih =>
    intro v0 v1 v2 v3 v4 v5 D r k0 h
    exact t_X12_happen_206s hS hrec_145 hrec_156 (fun k0 h => ih k0 h) k0 h

def f_X12_happen_156s (F P : Nat) (S : xSt) (rec_145 : Nat → Int32 → Int32 → Int32 → xDt → Option (Int32 × xDt)) (rec_156 : Nat → Int32 → Int32 → Int32 → Int32 → xDt → Option (Int32 × xDt)) (v0 : Nat) (v1 : Int32) (v2 : Int32) (v3 : Int32) (v4 : Int32) (D : xDt) : Option (Int32 × xDt) :=
  if (D.1 v0 25) ≤ v4 then (xlet (v3 + 1) fun v3_1 => rec_145 v0 v1 v2 v3_1 D) else (xgrd (xin v4 (xl S (xr S v0 29))) (if (lg_cmp ((jlushr (D.2 (xr S v0 29) (v4).toNatClampNeg) v3) &&& 1) 1) = 0 then (xgrd (xin v2 (xl S (xr S v0 31))) (xlet (xup D.1 (xr S v0 31) (v2).toNatClampNeg v3, D.2) fun D4 => xgrd (xin v2 (xl S (xr S v0 32))) (xlet (xup D4.1 (xr S v0 32) (v2).toNatClampNeg v4, D4.2) fun D6 => xgrd (xin v2 (xl S (xr S v0 33))) (xlet (xup D6.1 (xr S v0 33) (v2).toNatClampNeg 0, D6.2) fun D8 => f_X12_happen_206 F P S rec_145 rec_156 F v0 v1 v2 v3 v4 0 D8)))) else (f_X12_happen_261 F P S rec_145 rec_156 v0 v1 v2 v3 v4 D)))
def f_X12_happen_156 (F P : Nat) (S : xSt) (rec_145 : Nat → Int32 → Int32 → Int32 → xDt → Option (Int32 × xDt)) : Nat → Nat → Int32 → Int32 → Int32 → Int32 → xDt → Option (Int32 × xDt)
  | 0 => fun _ _ _ _ _ _ => none
  | n + 1 => f_X12_happen_156s F P S rec_145 (f_X12_happen_156 F P S rec_145 n)
set_option maxHeartbeats 4000000 in
theorem t_X12_happen_156s {F P : Nat} {S : xSt} (hS : xWF S) {rec_145 : Nat → Int32 → Int32 → Int32 → xDt → Option (Int32 × xDt)} (hrec_145 : ∀ {v0 : Nat} {v1 : Int32} {v2 : Int32} {v3 : Int32} {D : xDt} {r : Int32 × xDt}, xK S v0 12 → rec_145 v0 v1 v2 v3 D = some r → yEx md_X12_happen (P + 5) 145 [(0, .ref v0), (1, .int v1), (2, .int v2), (3, .int v3)] [] S D (xQi S r)) {rec_156 : Nat → Int32 → Int32 → Int32 → Int32 → xDt → Option (Int32 × xDt)} (hrec_156 : ∀ {v0 : Nat} {v1 : Int32} {v2 : Int32} {v3 : Int32} {v4 : Int32} {D : xDt} {r : Int32 × xDt}, xK S v0 12 → rec_156 v0 v1 v2 v3 v4 D = some r → yEx md_X12_happen (P + 5) 156 [(0, .ref v0), (1, .int v1), (2, .int v2), (3, .int v3), (4, .int v4)] [] S D (xQi S r)) {v0 : Nat} {v1 : Int32} {v2 : Int32} {v3 : Int32} {v4 : Int32} {D : xDt} {r : Int32 × xDt} (k0 : xK S v0 12) (h : f_X12_happen_156s F P S rec_145 rec_156 v0 v1 v2 v3 v4 D = some r) : yEx md_X12_happen (P + 5) 156 [(0, .ref v0), (1, .int v1), (2, .int v2), (3, .int v3), (4, .int v4)] [] S D (xQi S r) := by
  unfold f_X12_happen_156s at h
  refine x_iload dX12_happen_156 4 rfl ?_
  refine x_aload_n dX12_happen_158 0 rfl ?_
  refine y_geti fl_RX12_265 dX12_happen_159 rfl k0 ?_
  refine x_icmp_ge 267 dX12_happen_162 (by decide) (fun c => ?_) (fun c => ?_)
  · rw [if_pos c] at h
    refine xlet_e h (fun v3_1 ev3_1 h => ?_)
    refine y_iinc v3_1 ev3_1 (by decide) [(3, .int v3_1), (0, .ref v0), (1, .int v1), (2, .int v2), (4, .int v4)] dX12_happen_267 3 rfl (by show _ < 8; decide) rfl ?_
    refine x_goto 145 dX12_happen_270 (by decide) ?_
    refine x_lv (lv' := [(0, .ref v0), (1, .int v1), (2, .int v2), (3, .int v3_1)]) [1, 2, 3, 0] rfl ?_
    exact hrec_145 k0 h
  · rw [if_neg c] at h
    refine x_aload_n dX12_happen_165 0 rfl ?_
    refine y_getr (kd := 101) hS fl_RX12_112 dX12_happen_166 rfl k0 ?_
    refine x_iload dX12_happen_169 4 rfl ?_
    refine xgrd_e h (fun g2 h => ?_)
    refine y_lald dX12_happen_171 ((hS.f k0 29 101 rfl).2) g2 ?_
    refine x_iload_n dX12_happen_172 3 rfl ?_
    refine x_lushr dX12_happen_173 ?_
    refine x_lconst 1 dX12_happen_174 (by decide) ?_
    refine x_land dX12_happen_175 ?_
    refine x_lconst 1 dX12_happen_176 (by decide) ?_
    refine x_lcmp dX12_happen_177 ?_
    refine x_if_ne 261 dX12_happen_178 (by decide) (fun c => ?_) (fun c => ?_)
    · rw [if_neg c] at h
      exact t_X12_happen_261 hS hrec_145 hrec_156 k0 h
    · rw [if_pos c] at h
      refine x_aload_n dX12_happen_181 0 rfl ?_
      refine y_getr (kd := 100) hS fl_RX12_119 dX12_happen_182 rfl k0 ?_
      refine x_iload_n dX12_happen_185 2 rfl ?_
      refine x_iload_n dX12_happen_186 3 rfl ?_
      refine xgrd_e h (fun g3 h => ?_)
      refine xlet_e h (fun D4 eD4 h => ?_)
      refine y_iast dX12_happen_187 ((hS.f k0 31 100 rfl).2) g3 eD4 ?_
      refine x_aload_n dX12_happen_188 0 rfl ?_
      refine y_getr (kd := 100) hS fl_RX12_122 dX12_happen_189 rfl k0 ?_
      refine x_iload_n dX12_happen_192 2 rfl ?_
      refine x_iload dX12_happen_193 4 rfl ?_
      refine xgrd_e h (fun g5 h => ?_)
      refine xlet_e h (fun D6 eD6 h => ?_)
      refine y_iast dX12_happen_195 ((hS.f k0 32 100 rfl).2) g5 eD6 ?_
      refine x_aload_n dX12_happen_196 0 rfl ?_
      refine y_getr (kd := 100) hS fl_RX12_125 dX12_happen_197 rfl k0 ?_
      refine x_iload_n dX12_happen_200 2 rfl ?_
      refine x_iconst 0 dX12_happen_201 (by decide) ?_
      refine xgrd_e h (fun g7 h => ?_)
      refine xlet_e h (fun D8 eD8 h => ?_)
      refine y_iast dX12_happen_202 ((hS.f k0 33 100 rfl).2) g7 eD8 ?_
      refine x_iconst 0 dX12_happen_203 (by decide) ?_
      refine y_istore 0 rfl [(5, .int 0), (0, .ref v0), (1, .int v1), (2, .int v2), (3, .int v3), (4, .int v4)] dX12_happen_204 (by show _ < 8; decide) rfl ?_
      refine x_lv (lv' := [(0, .ref v0), (1, .int v1), (2, .int v2), (3, .int v3), (4, .int v4), (5, .int 0)]) [1, 2, 3, 4, 5, 0] rfl ?_
      exact t_X12_happen_206 hS hrec_145 hrec_156 F k0 h
theorem t_X12_happen_156 {F P : Nat} {S : xSt} (hS : xWF S) {rec_145 : Nat → Int32 → Int32 → Int32 → xDt → Option (Int32 × xDt)} (hrec_145 : ∀ {v0 : Nat} {v1 : Int32} {v2 : Int32} {v3 : Int32} {D : xDt} {r : Int32 × xDt}, xK S v0 12 → rec_145 v0 v1 v2 v3 D = some r → yEx md_X12_happen (P + 5) 145 [(0, .ref v0), (1, .int v1), (2, .int v2), (3, .int v3)] [] S D (xQi S r)) : ∀ (n : Nat) {v0 : Nat} {v1 : Int32} {v2 : Int32} {v3 : Int32} {v4 : Int32} {D : xDt} {r : Int32 × xDt}, xK S v0 12 → f_X12_happen_156 F P S rec_145 n v0 v1 v2 v3 v4 D = some r → yEx md_X12_happen (P + 5) 156 [(0, .ref v0), (1, .int v1), (2, .int v2), (3, .int v3), (4, .int v4)] [] S D (xQi S r) := by
  intro n
  induction n with
  | zero => intros; rename_i h; cases h
  | succ n ih =>
    intro v0 v1 v2 v3 v4 D r k0 h
    exact t_X12_happen_156s hS hrec_145 (fun k0 h => ih k0 h) k0 h

def f_X12_happen_395 (F P : Nat) (S : xSt) (rec_275 : Nat → Int32 → Int32 → xDt → Option (Int32 × xDt)) (rec_283 : Nat → Int32 → Int32 → Int32 → xDt → Option (Int32 × xDt)) (rec_297 : Nat → Int32 → Int32 → Int32 → Int32 → Int32 → xDt → Option (Int32 × xDt)) (v0 : Nat) (v1 : Int32) (v3 : Int32) (v4 : Int32) (v6 : Int32) (s0 : Int32) (D : xDt) : Option (Int32 × xDt) :=
  xlet (v6 + (-1)) fun v6_1 => rec_297 v0 v1 v3 v4 s0 v6_1 D
set_option maxHeartbeats 4000000 in
theorem t_X12_happen_395 {F P : Nat} {S : xSt} (hS : xWF S) {rec_275 : Nat → Int32 → Int32 → xDt → Option (Int32 × xDt)} (hrec_275 : ∀ {v0 : Nat} {v1 : Int32} {v3 : Int32} {D : xDt} {r : Int32 × xDt}, xK S v0 12 → rec_275 v0 v1 v3 D = some r → yEx md_X12_happen (P + 5) 275 [(0, .ref v0), (1, .int v1), (3, .int v3)] [] S D (xQi S r)) {rec_283 : Nat → Int32 → Int32 → Int32 → xDt → Option (Int32 × xDt)} (hrec_283 : ∀ {v0 : Nat} {v1 : Int32} {v3 : Int32} {v4 : Int32} {D : xDt} {r : Int32 × xDt}, xK S v0 12 → rec_283 v0 v1 v3 v4 D = some r → yEx md_X12_happen (P + 5) 283 [(0, .ref v0), (1, .int v1), (3, .int v3), (4, .int v4)] [] S D (xQi S r)) {rec_297 : Nat → Int32 → Int32 → Int32 → Int32 → Int32 → xDt → Option (Int32 × xDt)} (hrec_297 : ∀ {v0 : Nat} {v1 : Int32} {v3 : Int32} {v4 : Int32} {v5 : Int32} {v6 : Int32} {D : xDt} {r : Int32 × xDt}, xK S v0 12 → rec_297 v0 v1 v3 v4 v5 v6 D = some r → yEx md_X12_happen (P + 5) 297 [(0, .ref v0), (1, .int v1), (3, .int v3), (4, .int v4), (5, .int v5), (6, .int v6)] [] S D (xQi S r)) {v0 : Nat} {v1 : Int32} {v3 : Int32} {v4 : Int32} {v6 : Int32} {s0 : Int32} {D : xDt} {r : Int32 × xDt} (k0 : xK S v0 12) (h : f_X12_happen_395 F P S rec_275 rec_283 rec_297 v0 v1 v3 v4 v6 s0 D = some r) : yEx md_X12_happen (P + 5) 395 [(0, .ref v0), (1, .int v1), (3, .int v3), (4, .int v4), (6, .int v6)] [.int s0] S D (xQi S r) := by
  unfold f_X12_happen_395 at h
  refine y_istore s0 rfl [(5, .int s0), (0, .ref v0), (1, .int v1), (3, .int v3), (4, .int v4), (6, .int v6)] dX12_happen_395 (by show _ < 8; decide) rfl ?_
  refine xlet_e h (fun v6_1 ev6_1 h => ?_)
  refine y_iinc v6_1 ev6_1 (by decide) [(6, .int v6_1), (5, .int s0), (0, .ref v0), (1, .int v1), (3, .int v3), (4, .int v4)] dX12_happen_397 5 rfl (by show _ < 8; decide) rfl ?_
  refine x_goto 297 dX12_happen_400 (by decide) ?_
  refine x_lv (lv' := [(0, .ref v0), (1, .int v1), (3, .int v3), (4, .int v4), (5, .int s0), (6, .int v6_1)]) [2, 3, 4, 5, 1, 0] rfl ?_
  exact hrec_297 k0 h

def f_X12_happen_381 (F P : Nat) (S : xSt) (rec_275 : Nat → Int32 → Int32 → xDt → Option (Int32 × xDt)) (rec_283 : Nat → Int32 → Int32 → Int32 → xDt → Option (Int32 × xDt)) (rec_297 : Nat → Int32 → Int32 → Int32 → Int32 → Int32 → xDt → Option (Int32 × xDt)) (v0 : Nat) (v1 : Int32) (v3 : Int32) (v4 : Int32) (v5 : Int32) (v6 : Int32) (s0 : Int32) (D : xDt) : Option (Int32 × xDt) :=
  if s0 = 0 then (f_X12_happen_395 F P S rec_275 rec_283 rec_297 v0 v1 v3 v4 v6 v5 D) else (f_X12_happen_395 F P S rec_275 rec_283 rec_297 v0 v1 v3 v4 v6 v6 D)
set_option maxHeartbeats 4000000 in
theorem t_X12_happen_381 {F P : Nat} {S : xSt} (hS : xWF S) {rec_275 : Nat → Int32 → Int32 → xDt → Option (Int32 × xDt)} (hrec_275 : ∀ {v0 : Nat} {v1 : Int32} {v3 : Int32} {D : xDt} {r : Int32 × xDt}, xK S v0 12 → rec_275 v0 v1 v3 D = some r → yEx md_X12_happen (P + 5) 275 [(0, .ref v0), (1, .int v1), (3, .int v3)] [] S D (xQi S r)) {rec_283 : Nat → Int32 → Int32 → Int32 → xDt → Option (Int32 × xDt)} (hrec_283 : ∀ {v0 : Nat} {v1 : Int32} {v3 : Int32} {v4 : Int32} {D : xDt} {r : Int32 × xDt}, xK S v0 12 → rec_283 v0 v1 v3 v4 D = some r → yEx md_X12_happen (P + 5) 283 [(0, .ref v0), (1, .int v1), (3, .int v3), (4, .int v4)] [] S D (xQi S r)) {rec_297 : Nat → Int32 → Int32 → Int32 → Int32 → Int32 → xDt → Option (Int32 × xDt)} (hrec_297 : ∀ {v0 : Nat} {v1 : Int32} {v3 : Int32} {v4 : Int32} {v5 : Int32} {v6 : Int32} {D : xDt} {r : Int32 × xDt}, xK S v0 12 → rec_297 v0 v1 v3 v4 v5 v6 D = some r → yEx md_X12_happen (P + 5) 297 [(0, .ref v0), (1, .int v1), (3, .int v3), (4, .int v4), (5, .int v5), (6, .int v6)] [] S D (xQi S r)) {v0 : Nat} {v1 : Int32} {v3 : Int32} {v4 : Int32} {v5 : Int32} {v6 : Int32} {s0 : Int32} {D : xDt} {r : Int32 × xDt} (k0 : xK S v0 12) (h : f_X12_happen_381 F P S rec_275 rec_283 rec_297 v0 v1 v3 v4 v5 v6 s0 D = some r) : yEx md_X12_happen (P + 5) 381 [(0, .ref v0), (1, .int v1), (3, .int v3), (4, .int v4), (5, .int v5), (6, .int v6)] [.int s0] S D (xQi S r) := by
  unfold f_X12_happen_381 at h
  refine y_istore s0 rfl [(7, .int s0), (0, .ref v0), (1, .int v1), (3, .int v3), (4, .int v4), (5, .int v5), (6, .int v6)] dX12_happen_381 (by show _ < 8; decide) rfl ?_
  refine x_iload dX12_happen_383 0 rfl ?_
  refine x_if_eq 393 dX12_happen_385 (by decide) (fun c => ?_) (fun c => ?_)
  · rw [if_pos c] at h
    refine x_iload dX12_happen_393 5 rfl ?_
    refine x_lv (lv' := [(0, .ref v0), (1, .int v1), (3, .int v3), (4, .int v4), (6, .int v6)]) [1, 2, 3, 4, 6] rfl ?_
    exact t_X12_happen_395 hS hrec_275 hrec_283 hrec_297 k0 h
  · rw [if_neg c] at h
    refine x_iload dX12_happen_388 6 rfl ?_
    refine x_goto 395 dX12_happen_390 (by decide) ?_
    refine x_lv (lv' := [(0, .ref v0), (1, .int v1), (3, .int v3), (4, .int v4), (6, .int v6)]) [1, 2, 3, 4, 6] rfl ?_
    exact t_X12_happen_395 hS hrec_275 hrec_283 hrec_297 k0 h

def f_X12_happen_380 (F P : Nat) (S : xSt) (rec_275 : Nat → Int32 → Int32 → xDt → Option (Int32 × xDt)) (rec_283 : Nat → Int32 → Int32 → Int32 → xDt → Option (Int32 × xDt)) (rec_297 : Nat → Int32 → Int32 → Int32 → Int32 → Int32 → xDt → Option (Int32 × xDt)) (v0 : Nat) (v1 : Int32) (v3 : Int32) (v4 : Int32) (v5 : Int32) (v6 : Int32) (D : xDt) : Option (Int32 × xDt) :=
  f_X12_happen_381 F P S rec_275 rec_283 rec_297 v0 v1 v3 v4 v5 v6 0 D
set_option maxHeartbeats 4000000 in
theorem t_X12_happen_380 {F P : Nat} {S : xSt} (hS : xWF S) {rec_275 : Nat → Int32 → Int32 → xDt → Option (Int32 × xDt)} (hrec_275 : ∀ {v0 : Nat} {v1 : Int32} {v3 : Int32} {D : xDt} {r : Int32 × xDt}, xK S v0 12 → rec_275 v0 v1 v3 D = some r → yEx md_X12_happen (P + 5) 275 [(0, .ref v0), (1, .int v1), (3, .int v3)] [] S D (xQi S r)) {rec_283 : Nat → Int32 → Int32 → Int32 → xDt → Option (Int32 × xDt)} (hrec_283 : ∀ {v0 : Nat} {v1 : Int32} {v3 : Int32} {v4 : Int32} {D : xDt} {r : Int32 × xDt}, xK S v0 12 → rec_283 v0 v1 v3 v4 D = some r → yEx md_X12_happen (P + 5) 283 [(0, .ref v0), (1, .int v1), (3, .int v3), (4, .int v4)] [] S D (xQi S r)) {rec_297 : Nat → Int32 → Int32 → Int32 → Int32 → Int32 → xDt → Option (Int32 × xDt)} (hrec_297 : ∀ {v0 : Nat} {v1 : Int32} {v3 : Int32} {v4 : Int32} {v5 : Int32} {v6 : Int32} {D : xDt} {r : Int32 × xDt}, xK S v0 12 → rec_297 v0 v1 v3 v4 v5 v6 D = some r → yEx md_X12_happen (P + 5) 297 [(0, .ref v0), (1, .int v1), (3, .int v3), (4, .int v4), (5, .int v5), (6, .int v6)] [] S D (xQi S r)) {v0 : Nat} {v1 : Int32} {v3 : Int32} {v4 : Int32} {v5 : Int32} {v6 : Int32} {D : xDt} {r : Int32 × xDt} (k0 : xK S v0 12) (h : f_X12_happen_380 F P S rec_275 rec_283 rec_297 v0 v1 v3 v4 v5 v6 D = some r) : yEx md_X12_happen (P + 5) 380 [(0, .ref v0), (1, .int v1), (3, .int v3), (4, .int v4), (5, .int v5), (6, .int v6)] [] S D (xQi S r) := by
  unfold f_X12_happen_380 at h
  refine x_iconst 0 dX12_happen_380 (by decide) ?_
  exact t_X12_happen_381 hS hrec_275 hrec_283 hrec_297 k0 h

def f_X12_happen_297s (F P : Nat) (S : xSt) (rec_275 : Nat → Int32 → Int32 → xDt → Option (Int32 × xDt)) (rec_283 : Nat → Int32 → Int32 → Int32 → xDt → Option (Int32 × xDt)) (rec_297 : Nat → Int32 → Int32 → Int32 → Int32 → Int32 → xDt → Option (Int32 × xDt)) (v0 : Nat) (v1 : Int32) (v3 : Int32) (v4 : Int32) (v5 : Int32) (v6 : Int32) (D : xDt) : Option (Int32 × xDt) :=
  if v6 < 0 then (xgrd (xin ((64 * v3) + v4) (xl S (xr S v0 24))) (xlet (xup D.1 (xr S v0 24) ((64 * v3) + v4).toNatClampNeg v5, D.2) fun D2 => xlet (v4 + 1) fun v4_3 => rec_283 v0 v1 v3 v4_3 D2)) else (xgrd (xin v4 (xl S (xr S v0 31))) (xgrd (xin ((64 * v3) + (D.1 (xr S v0 31) (v4).toNatClampNeg)) (xl S (xr S v0 3))) (xgrd (xin v6 (xl S (xr S v0 31))) (xgrd (xin ((64 * v3) + (D.1 (xr S v0 31) (v6).toNatClampNeg)) (xl S (xr S v0 3))) (if (D.1 (xr S v0 3) ((64 * v3) + (D.1 (xr S v0 31) (v4).toNatClampNeg)).toNatClampNeg) = (D.1 (xr S v0 3) ((64 * v3) + (D.1 (xr S v0 31) (v6).toNatClampNeg)).toNatClampNeg) then (xgrd (xin v4 (xl S (xr S v0 32))) (xgrd (xin ((8 * v3) + (D.1 (xr S v0 32) (v4).toNatClampNeg)) (xl S (xr S v0 28))) (xgrd (xin v6 (xl S (xr S v0 32))) (xgrd (xin ((8 * v3) + (D.1 (xr S v0 32) (v6).toNatClampNeg)) (xl S (xr S v0 28))) (if (D.1 (xr S v0 28) ((8 * v3) + (D.1 (xr S v0 32) (v4).toNatClampNeg)).toNatClampNeg) = (D.1 (xr S v0 28) ((8 * v3) + (D.1 (xr S v0 32) (v6).toNatClampNeg)).toNatClampNeg) then (f_X12_happen_381 F P S rec_275 rec_283 rec_297 v0 v1 v3 v4 v5 v6 1 D) else (f_X12_happen_380 F P S rec_275 rec_283 rec_297 v0 v1 v3 v4 v5 v6 D)))))) else (f_X12_happen_380 F P S rec_275 rec_283 rec_297 v0 v1 v3 v4 v5 v6 D))))))
def f_X12_happen_297 (F P : Nat) (S : xSt) (rec_275 : Nat → Int32 → Int32 → xDt → Option (Int32 × xDt)) (rec_283 : Nat → Int32 → Int32 → Int32 → xDt → Option (Int32 × xDt)) : Nat → Nat → Int32 → Int32 → Int32 → Int32 → Int32 → xDt → Option (Int32 × xDt)
  | 0 => fun _ _ _ _ _ _ _ => none
  | n + 1 => f_X12_happen_297s F P S rec_275 rec_283 (f_X12_happen_297 F P S rec_275 rec_283 n)
set_option maxHeartbeats 4000000 in
theorem t_X12_happen_297s {F P : Nat} {S : xSt} (hS : xWF S) {rec_275 : Nat → Int32 → Int32 → xDt → Option (Int32 × xDt)} (hrec_275 : ∀ {v0 : Nat} {v1 : Int32} {v3 : Int32} {D : xDt} {r : Int32 × xDt}, xK S v0 12 → rec_275 v0 v1 v3 D = some r → yEx md_X12_happen (P + 5) 275 [(0, .ref v0), (1, .int v1), (3, .int v3)] [] S D (xQi S r)) {rec_283 : Nat → Int32 → Int32 → Int32 → xDt → Option (Int32 × xDt)} (hrec_283 : ∀ {v0 : Nat} {v1 : Int32} {v3 : Int32} {v4 : Int32} {D : xDt} {r : Int32 × xDt}, xK S v0 12 → rec_283 v0 v1 v3 v4 D = some r → yEx md_X12_happen (P + 5) 283 [(0, .ref v0), (1, .int v1), (3, .int v3), (4, .int v4)] [] S D (xQi S r)) {rec_297 : Nat → Int32 → Int32 → Int32 → Int32 → Int32 → xDt → Option (Int32 × xDt)} (hrec_297 : ∀ {v0 : Nat} {v1 : Int32} {v3 : Int32} {v4 : Int32} {v5 : Int32} {v6 : Int32} {D : xDt} {r : Int32 × xDt}, xK S v0 12 → rec_297 v0 v1 v3 v4 v5 v6 D = some r → yEx md_X12_happen (P + 5) 297 [(0, .ref v0), (1, .int v1), (3, .int v3), (4, .int v4), (5, .int v5), (6, .int v6)] [] S D (xQi S r)) {v0 : Nat} {v1 : Int32} {v3 : Int32} {v4 : Int32} {v5 : Int32} {v6 : Int32} {D : xDt} {r : Int32 × xDt} (k0 : xK S v0 12) (h : f_X12_happen_297s F P S rec_275 rec_283 rec_297 v0 v1 v3 v4 v5 v6 D = some r) : yEx md_X12_happen (P + 5) 297 [(0, .ref v0), (1, .int v1), (3, .int v3), (4, .int v4), (5, .int v5), (6, .int v6)] [] S D (xQi S r) := by
  unfold f_X12_happen_297s at h
  refine x_iload dX12_happen_297 5 rfl ?_
  refine x_if_lt 403 dX12_happen_299 (by decide) (fun c => ?_) (fun c => ?_)
  · rw [if_pos c] at h
    refine x_aload_n dX12_happen_403 0 rfl ?_
    refine y_getr (kd := 100) hS fl_RX12_100 dX12_happen_404 rfl k0 ?_
    refine x_bipush 64 dX12_happen_407 (by decide) ?_
    refine x_iload_n dX12_happen_409 2 rfl ?_
    refine x_imul dX12_happen_410 ?_
    refine x_iload dX12_happen_411 3 rfl ?_
    refine x_iadd dX12_happen_413 ?_
    refine x_iload dX12_happen_414 4 rfl ?_
    refine xgrd_e h (fun g1 h => ?_)
    refine xlet_e h (fun D2 eD2 h => ?_)
    refine y_iast dX12_happen_416 ((hS.f k0 24 100 rfl).2) g1 eD2 ?_
    refine xlet_e h (fun v4_3 ev4_3 h => ?_)
    refine y_iinc v4_3 ev4_3 (by decide) [(4, .int v4_3), (0, .ref v0), (1, .int v1), (3, .int v3), (5, .int v5), (6, .int v6)] dX12_happen_417 3 rfl (by show _ < 8; decide) rfl ?_
    refine x_goto 283 dX12_happen_420 (by decide) ?_
    refine x_lv (lv' := [(0, .ref v0), (1, .int v1), (3, .int v3), (4, .int v4_3)]) [1, 2, 3, 0] rfl ?_
    exact hrec_283 k0 h
  · rw [if_neg c] at h
    refine x_aload_n dX12_happen_302 0 rfl ?_
    refine y_getr (kd := 100) hS fl_RX12_14 dX12_happen_303 rfl k0 ?_
    refine x_bipush 64 dX12_happen_306 (by decide) ?_
    refine x_iload_n dX12_happen_308 2 rfl ?_
    refine x_imul dX12_happen_309 ?_
    refine x_aload_n dX12_happen_310 0 rfl ?_
    refine y_getr (kd := 100) hS fl_RX12_119 dX12_happen_311 rfl k0 ?_
    refine x_iload dX12_happen_314 3 rfl ?_
    refine xgrd_e h (fun g4 h => ?_)
    refine y_iald dX12_happen_316 ((hS.f k0 31 100 rfl).2) g4 ?_
    refine x_iadd dX12_happen_317 ?_
    refine xgrd_e h (fun g5 h => ?_)
    refine y_iald dX12_happen_318 ((hS.f k0 3 100 rfl).2) g5 ?_
    refine x_aload_n dX12_happen_319 0 rfl ?_
    refine y_getr (kd := 100) hS fl_RX12_14 dX12_happen_320 rfl k0 ?_
    refine x_bipush 64 dX12_happen_323 (by decide) ?_
    refine x_iload_n dX12_happen_325 2 rfl ?_
    refine x_imul dX12_happen_326 ?_
    refine x_aload_n dX12_happen_327 0 rfl ?_
    refine y_getr (kd := 100) hS fl_RX12_119 dX12_happen_328 rfl k0 ?_
    refine x_iload dX12_happen_331 5 rfl ?_
    refine xgrd_e h (fun g6 h => ?_)
    refine y_iald dX12_happen_333 ((hS.f k0 31 100 rfl).2) g6 ?_
    refine x_iadd dX12_happen_334 ?_
    refine xgrd_e h (fun g7 h => ?_)
    refine y_iald dX12_happen_335 ((hS.f k0 3 100 rfl).2) g7 ?_
    refine x_icmp_ne 380 dX12_happen_336 (by decide) (fun c => ?_) (fun c => ?_)
    · rw [if_neg c] at h
      exact t_X12_happen_380 hS hrec_275 hrec_283 hrec_297 k0 h
    · rw [if_pos c] at h
      refine x_aload_n dX12_happen_339 0 rfl ?_
      refine y_getr (kd := 100) hS fl_RX12_109 dX12_happen_340 rfl k0 ?_
      refine x_bipush 8 dX12_happen_343 (by decide) ?_
      refine x_iload_n dX12_happen_345 2 rfl ?_
      refine x_imul dX12_happen_346 ?_
      refine x_aload_n dX12_happen_347 0 rfl ?_
      refine y_getr (kd := 100) hS fl_RX12_122 dX12_happen_348 rfl k0 ?_
      refine x_iload dX12_happen_351 3 rfl ?_
      refine xgrd_e h (fun g8 h => ?_)
      refine y_iald dX12_happen_353 ((hS.f k0 32 100 rfl).2) g8 ?_
      refine x_iadd dX12_happen_354 ?_
      refine xgrd_e h (fun g9 h => ?_)
      refine y_iald dX12_happen_355 ((hS.f k0 28 100 rfl).2) g9 ?_
      refine x_aload_n dX12_happen_356 0 rfl ?_
      refine y_getr (kd := 100) hS fl_RX12_109 dX12_happen_357 rfl k0 ?_
      refine x_bipush 8 dX12_happen_360 (by decide) ?_
      refine x_iload_n dX12_happen_362 2 rfl ?_
      refine x_imul dX12_happen_363 ?_
      refine x_aload_n dX12_happen_364 0 rfl ?_
      refine y_getr (kd := 100) hS fl_RX12_122 dX12_happen_365 rfl k0 ?_
      refine x_iload dX12_happen_368 5 rfl ?_
      refine xgrd_e h (fun g10 h => ?_)
      refine y_iald dX12_happen_370 ((hS.f k0 32 100 rfl).2) g10 ?_
      refine x_iadd dX12_happen_371 ?_
      refine xgrd_e h (fun g11 h => ?_)
      refine y_iald dX12_happen_372 ((hS.f k0 28 100 rfl).2) g11 ?_
      refine x_icmp_ne 380 dX12_happen_373 (by decide) (fun c => ?_) (fun c => ?_)
      · rw [if_neg c] at h
        exact t_X12_happen_380 hS hrec_275 hrec_283 hrec_297 k0 h
      · rw [if_pos c] at h
        refine x_iconst 1 dX12_happen_376 (by decide) ?_
        refine x_goto 381 dX12_happen_377 (by decide) ?_
        exact t_X12_happen_381 hS hrec_275 hrec_283 hrec_297 k0 h
theorem t_X12_happen_297 {F P : Nat} {S : xSt} (hS : xWF S) {rec_275 : Nat → Int32 → Int32 → xDt → Option (Int32 × xDt)} (hrec_275 : ∀ {v0 : Nat} {v1 : Int32} {v3 : Int32} {D : xDt} {r : Int32 × xDt}, xK S v0 12 → rec_275 v0 v1 v3 D = some r → yEx md_X12_happen (P + 5) 275 [(0, .ref v0), (1, .int v1), (3, .int v3)] [] S D (xQi S r)) {rec_283 : Nat → Int32 → Int32 → Int32 → xDt → Option (Int32 × xDt)} (hrec_283 : ∀ {v0 : Nat} {v1 : Int32} {v3 : Int32} {v4 : Int32} {D : xDt} {r : Int32 × xDt}, xK S v0 12 → rec_283 v0 v1 v3 v4 D = some r → yEx md_X12_happen (P + 5) 283 [(0, .ref v0), (1, .int v1), (3, .int v3), (4, .int v4)] [] S D (xQi S r)) : ∀ (n : Nat) {v0 : Nat} {v1 : Int32} {v3 : Int32} {v4 : Int32} {v5 : Int32} {v6 : Int32} {D : xDt} {r : Int32 × xDt}, xK S v0 12 → f_X12_happen_297 F P S rec_275 rec_283 n v0 v1 v3 v4 v5 v6 D = some r → yEx md_X12_happen (P + 5) 297 [(0, .ref v0), (1, .int v1), (3, .int v3), (4, .int v4), (5, .int v5), (6, .int v6)] [] S D (xQi S r) := by
  intro n
  induction n with
  | zero => intros; rename_i h; cases h
  | succ n ih =>
    intro v0 v1 v3 v4 v5 v6 D r k0 h
    exact t_X12_happen_297s hS hrec_275 hrec_283 (fun k0 h => ih k0 h) k0 h

def f_X12_happen_283s (F P : Nat) (S : xSt) (rec_275 : Nat → Int32 → Int32 → xDt → Option (Int32 × xDt)) (rec_283 : Nat → Int32 → Int32 → Int32 → xDt → Option (Int32 × xDt)) (v0 : Nat) (v1 : Int32) (v3 : Int32) (v4 : Int32) (D : xDt) : Option (Int32 × xDt) :=
  if v1 ≤ v4 then (xlet (v3 + 1) fun v3_1 => rec_275 v0 v1 v3_1 D) else (f_X12_happen_297 F P S rec_275 rec_283 F v0 v1 v3 v4 v4 v4 D)
def f_X12_happen_283 (F P : Nat) (S : xSt) (rec_275 : Nat → Int32 → Int32 → xDt → Option (Int32 × xDt)) : Nat → Nat → Int32 → Int32 → Int32 → xDt → Option (Int32 × xDt)
  | 0 => fun _ _ _ _ _ => none
  | n + 1 => f_X12_happen_283s F P S rec_275 (f_X12_happen_283 F P S rec_275 n)
set_option maxHeartbeats 4000000 in
theorem t_X12_happen_283s {F P : Nat} {S : xSt} (hS : xWF S) {rec_275 : Nat → Int32 → Int32 → xDt → Option (Int32 × xDt)} (hrec_275 : ∀ {v0 : Nat} {v1 : Int32} {v3 : Int32} {D : xDt} {r : Int32 × xDt}, xK S v0 12 → rec_275 v0 v1 v3 D = some r → yEx md_X12_happen (P + 5) 275 [(0, .ref v0), (1, .int v1), (3, .int v3)] [] S D (xQi S r)) {rec_283 : Nat → Int32 → Int32 → Int32 → xDt → Option (Int32 × xDt)} (hrec_283 : ∀ {v0 : Nat} {v1 : Int32} {v3 : Int32} {v4 : Int32} {D : xDt} {r : Int32 × xDt}, xK S v0 12 → rec_283 v0 v1 v3 v4 D = some r → yEx md_X12_happen (P + 5) 283 [(0, .ref v0), (1, .int v1), (3, .int v3), (4, .int v4)] [] S D (xQi S r)) {v0 : Nat} {v1 : Int32} {v3 : Int32} {v4 : Int32} {D : xDt} {r : Int32 × xDt} (k0 : xK S v0 12) (h : f_X12_happen_283s F P S rec_275 rec_283 v0 v1 v3 v4 D = some r) : yEx md_X12_happen (P + 5) 283 [(0, .ref v0), (1, .int v1), (3, .int v3), (4, .int v4)] [] S D (xQi S r) := by
  unfold f_X12_happen_283s at h
  refine x_iload dX12_happen_283 3 rfl ?_
  refine x_iload_n dX12_happen_285 1 rfl ?_
  refine x_icmp_ge 423 dX12_happen_286 (by decide) (fun c => ?_) (fun c => ?_)
  · rw [if_pos c] at h
    refine xlet_e h (fun v3_1 ev3_1 h => ?_)
    refine y_iinc v3_1 ev3_1 (by decide) [(3, .int v3_1), (0, .ref v0), (1, .int v1), (4, .int v4)] dX12_happen_423 2 rfl (by show _ < 8; decide) rfl ?_
    refine x_goto 275 dX12_happen_426 (by decide) ?_
    refine x_lv (lv' := [(0, .ref v0), (1, .int v1), (3, .int v3_1)]) [1, 2, 0] rfl ?_
    exact hrec_275 k0 h
  · rw [if_neg c] at h
    refine x_iload dX12_happen_289 3 rfl ?_
    refine y_istore v4 rfl [(5, .int v4), (0, .ref v0), (1, .int v1), (3, .int v3), (4, .int v4)] dX12_happen_291 (by show _ < 8; decide) rfl ?_
    refine x_iload dX12_happen_293 4 rfl ?_
    refine y_istore v4 rfl [(6, .int v4), (5, .int v4), (0, .ref v0), (1, .int v1), (3, .int v3), (4, .int v4)] dX12_happen_295 (by show _ < 8; decide) rfl ?_
    refine x_lv (lv' := [(0, .ref v0), (1, .int v1), (3, .int v3), (4, .int v4), (5, .int v4), (6, .int v4)]) [2, 3, 4, 5, 1, 0] rfl ?_
    exact t_X12_happen_297 hS hrec_275 hrec_283 F k0 h
theorem t_X12_happen_283 {F P : Nat} {S : xSt} (hS : xWF S) {rec_275 : Nat → Int32 → Int32 → xDt → Option (Int32 × xDt)} (hrec_275 : ∀ {v0 : Nat} {v1 : Int32} {v3 : Int32} {D : xDt} {r : Int32 × xDt}, xK S v0 12 → rec_275 v0 v1 v3 D = some r → yEx md_X12_happen (P + 5) 275 [(0, .ref v0), (1, .int v1), (3, .int v3)] [] S D (xQi S r)) : ∀ (n : Nat) {v0 : Nat} {v1 : Int32} {v3 : Int32} {v4 : Int32} {D : xDt} {r : Int32 × xDt}, xK S v0 12 → f_X12_happen_283 F P S rec_275 n v0 v1 v3 v4 D = some r → yEx md_X12_happen (P + 5) 283 [(0, .ref v0), (1, .int v1), (3, .int v3), (4, .int v4)] [] S D (xQi S r) := by
  intro n
  induction n with
  | zero => intros; rename_i h; cases h
  | succ n ih =>
    intro v0 v1 v3 v4 D r k0 h
    exact t_X12_happen_283s hS hrec_275 (fun k0 h => ih k0 h) k0 h

def f_X12_happen_463s (F P : Nat) (S : xSt) (rec_463 : Nat → Int32 → Int32 → xDt → Option (Int32 × xDt)) (v0 : Nat) (v1 : Int32) (v3 : Int32) (D : xDt) : Option (Int32 × xDt) :=
  if v1 ≤ v3 then (some (v1, D)) else (xgrd (xin v3 (xl S (xr S v0 33))) (xgrd (xin v3 (xl S (xr S v0 2))) (xlet (xup D.1 (xr S v0 2) (v3).toNatClampNeg (D.1 (xr S v0 33) (v3).toNatClampNeg), D.2) fun D3 => xlet (v3 + 1) fun v3_4 => rec_463 v0 v1 v3_4 D3)))
def f_X12_happen_463 (F P : Nat) (S : xSt) : Nat → Nat → Int32 → Int32 → xDt → Option (Int32 × xDt)
  | 0 => fun _ _ _ _ => none
  | n + 1 => f_X12_happen_463s F P S (f_X12_happen_463 F P S n)
set_option maxHeartbeats 4000000 in
theorem t_X12_happen_463s {F P : Nat} {S : xSt} (hS : xWF S) {rec_463 : Nat → Int32 → Int32 → xDt → Option (Int32 × xDt)} (hrec_463 : ∀ {v0 : Nat} {v1 : Int32} {v3 : Int32} {D : xDt} {r : Int32 × xDt}, xK S v0 12 → rec_463 v0 v1 v3 D = some r → yEx md_X12_happen (P + 5) 463 [(0, .ref v0), (1, .int v1), (3, .int v3)] [] S D (xQi S r)) {v0 : Nat} {v1 : Int32} {v3 : Int32} {D : xDt} {r : Int32 × xDt} (k0 : xK S v0 12) (h : f_X12_happen_463s F P S rec_463 v0 v1 v3 D = some r) : yEx md_X12_happen (P + 5) 463 [(0, .ref v0), (1, .int v1), (3, .int v3)] [] S D (xQi S r) := by
  unfold f_X12_happen_463s at h
  refine x_iload_n dX12_happen_463 2 rfl ?_
  refine x_iload_n dX12_happen_464 1 rfl ?_
  refine x_icmp_ge 486 dX12_happen_465 (by decide) (fun c => ?_) (fun c => ?_)
  · rw [if_pos c] at h
    refine x_iload_n dX12_happen_486 1 rfl ?_
    obtain rfl := Option.some.inj h
    exact y_iret rfl dX12_happen_487
  · rw [if_neg c] at h
    refine x_aload_n dX12_happen_468 0 rfl ?_
    refine y_getr (kd := 100) hS fl_RX12_31 dX12_happen_469 rfl k0 ?_
    refine x_iload_n dX12_happen_472 2 rfl ?_
    refine x_aload_n dX12_happen_473 0 rfl ?_
    refine y_getr (kd := 100) hS fl_RX12_125 dX12_happen_474 rfl k0 ?_
    refine x_iload_n dX12_happen_477 2 rfl ?_
    refine xgrd_e h (fun g1 h => ?_)
    refine y_iald dX12_happen_478 ((hS.f k0 33 100 rfl).2) g1 ?_
    refine xgrd_e h (fun g2 h => ?_)
    refine xlet_e h (fun D3 eD3 h => ?_)
    refine y_iast dX12_happen_479 ((hS.f k0 2 100 rfl).2) g2 eD3 ?_
    refine xlet_e h (fun v3_4 ev3_4 h => ?_)
    refine y_iinc v3_4 ev3_4 (by decide) [(3, .int v3_4), (0, .ref v0), (1, .int v1)] dX12_happen_480 2 rfl (by show _ < 8; decide) rfl ?_
    refine x_goto 463 dX12_happen_483 (by decide) ?_
    refine x_lv (lv' := [(0, .ref v0), (1, .int v1), (3, .int v3_4)]) [1, 2, 0] rfl ?_
    exact hrec_463 k0 h
theorem t_X12_happen_463 {F P : Nat} {S : xSt} (hS : xWF S) : ∀ (n : Nat) {v0 : Nat} {v1 : Int32} {v3 : Int32} {D : xDt} {r : Int32 × xDt}, xK S v0 12 → f_X12_happen_463 F P S n v0 v1 v3 D = some r → yEx md_X12_happen (P + 5) 463 [(0, .ref v0), (1, .int v1), (3, .int v3)] [] S D (xQi S r) := by
  intro n
  induction n with
  | zero => intros; rename_i h; cases h
  | succ n ih =>
    intro v0 v1 v3 D r k0 h
    exact t_X12_happen_463s hS (fun k0 h => ih k0 h) k0 h

def f_X12_happen_436s (F P : Nat) (S : xSt) (rec_436 : Nat → Int32 → Int32 → xDt → Option (Int32 × xDt)) (v0 : Nat) (v1 : Int32) (v3 : Int32) (D : xDt) : Option (Int32 × xDt) :=
  if 256 ≤ v3 then (f_X12_happen_463 F P S F v0 v1 0 D) else (xgrd (xin v3 (xl S (xr S v0 24))) (xgrd (xin v3 (xl S (xr S v0 3))) (xlet (xup D.1 (xr S v0 3) (v3).toNatClampNeg (D.1 (xr S v0 24) (v3).toNatClampNeg), D.2) fun D3 => xlet (v3 + 1) fun v3_4 => rec_436 v0 v1 v3_4 D3)))
def f_X12_happen_436 (F P : Nat) (S : xSt) : Nat → Nat → Int32 → Int32 → xDt → Option (Int32 × xDt)
  | 0 => fun _ _ _ _ => none
  | n + 1 => f_X12_happen_436s F P S (f_X12_happen_436 F P S n)
set_option maxHeartbeats 4000000 in
theorem t_X12_happen_436s {F P : Nat} {S : xSt} (hS : xWF S) {rec_436 : Nat → Int32 → Int32 → xDt → Option (Int32 × xDt)} (hrec_436 : ∀ {v0 : Nat} {v1 : Int32} {v3 : Int32} {D : xDt} {r : Int32 × xDt}, xK S v0 12 → rec_436 v0 v1 v3 D = some r → yEx md_X12_happen (P + 5) 436 [(0, .ref v0), (1, .int v1), (3, .int v3)] [] S D (xQi S r)) {v0 : Nat} {v1 : Int32} {v3 : Int32} {D : xDt} {r : Int32 × xDt} (k0 : xK S v0 12) (h : f_X12_happen_436s F P S rec_436 v0 v1 v3 D = some r) : yEx md_X12_happen (P + 5) 436 [(0, .ref v0), (1, .int v1), (3, .int v3)] [] S D (xQi S r) := by
  unfold f_X12_happen_436s at h
  refine x_iload_n dX12_happen_436 2 rfl ?_
  refine x_sipush 256 dX12_happen_437 (by decide) ?_
  refine x_icmp_ge 461 dX12_happen_440 (by decide) (fun c => ?_) (fun c => ?_)
  · rw [if_pos c] at h
    refine x_iconst 0 dX12_happen_461 (by decide) ?_
    refine y_istore_n 0 rfl [(3, .int 0), (0, .ref v0), (1, .int v1)] dX12_happen_462 (by show _ < 8; decide) rfl ?_
    refine x_lv (lv' := [(0, .ref v0), (1, .int v1), (3, .int 0)]) [1, 2, 0] rfl ?_
    exact t_X12_happen_463 hS F k0 h
  · rw [if_neg c] at h
    refine x_aload_n dX12_happen_443 0 rfl ?_
    refine y_getr (kd := 100) hS fl_RX12_14 dX12_happen_444 rfl k0 ?_
    refine x_iload_n dX12_happen_447 2 rfl ?_
    refine x_aload_n dX12_happen_448 0 rfl ?_
    refine y_getr (kd := 100) hS fl_RX12_100 dX12_happen_449 rfl k0 ?_
    refine x_iload_n dX12_happen_452 2 rfl ?_
    refine xgrd_e h (fun g1 h => ?_)
    refine y_iald dX12_happen_453 ((hS.f k0 24 100 rfl).2) g1 ?_
    refine xgrd_e h (fun g2 h => ?_)
    refine xlet_e h (fun D3 eD3 h => ?_)
    refine y_iast dX12_happen_454 ((hS.f k0 3 100 rfl).2) g2 eD3 ?_
    refine xlet_e h (fun v3_4 ev3_4 h => ?_)
    refine y_iinc v3_4 ev3_4 (by decide) [(3, .int v3_4), (0, .ref v0), (1, .int v1)] dX12_happen_455 2 rfl (by show _ < 8; decide) rfl ?_
    refine x_goto 436 dX12_happen_458 (by decide) ?_
    refine x_lv (lv' := [(0, .ref v0), (1, .int v1), (3, .int v3_4)]) [1, 2, 0] rfl ?_
    exact hrec_436 k0 h
theorem t_X12_happen_436 {F P : Nat} {S : xSt} (hS : xWF S) : ∀ (n : Nat) {v0 : Nat} {v1 : Int32} {v3 : Int32} {D : xDt} {r : Int32 × xDt}, xK S v0 12 → f_X12_happen_436 F P S n v0 v1 v3 D = some r → yEx md_X12_happen (P + 5) 436 [(0, .ref v0), (1, .int v1), (3, .int v3)] [] S D (xQi S r) := by
  intro n
  induction n with
  | zero => intros; rename_i h; cases h
  | succ n ih =>
    intro v0 v1 v3 D r k0 h
    exact t_X12_happen_436s hS (fun k0 h => ih k0 h) k0 h

def f_X12_happen_275s (F P : Nat) (S : xSt) (rec_275 : Nat → Int32 → Int32 → xDt → Option (Int32 × xDt)) (v0 : Nat) (v1 : Int32) (v3 : Int32) (D : xDt) : Option (Int32 × xDt) :=
  if 4 ≤ v3 then (xlet (xup D.1 v0 1 v1, D.2) fun D1 => f_X12_happen_436 F P S F v0 v1 0 D1) else (f_X12_happen_283 F P S rec_275 F v0 v1 v3 0 D)
def f_X12_happen_275 (F P : Nat) (S : xSt) : Nat → Nat → Int32 → Int32 → xDt → Option (Int32 × xDt)
  | 0 => fun _ _ _ _ => none
  | n + 1 => f_X12_happen_275s F P S (f_X12_happen_275 F P S n)
set_option maxHeartbeats 4000000 in
theorem t_X12_happen_275s {F P : Nat} {S : xSt} (hS : xWF S) {rec_275 : Nat → Int32 → Int32 → xDt → Option (Int32 × xDt)} (hrec_275 : ∀ {v0 : Nat} {v1 : Int32} {v3 : Int32} {D : xDt} {r : Int32 × xDt}, xK S v0 12 → rec_275 v0 v1 v3 D = some r → yEx md_X12_happen (P + 5) 275 [(0, .ref v0), (1, .int v1), (3, .int v3)] [] S D (xQi S r)) {v0 : Nat} {v1 : Int32} {v3 : Int32} {D : xDt} {r : Int32 × xDt} (k0 : xK S v0 12) (h : f_X12_happen_275s F P S rec_275 v0 v1 v3 D = some r) : yEx md_X12_happen (P + 5) 275 [(0, .ref v0), (1, .int v1), (3, .int v3)] [] S D (xQi S r) := by
  unfold f_X12_happen_275s at h
  refine x_iload_n dX12_happen_275 2 rfl ?_
  refine x_iconst 4 dX12_happen_276 (by decide) ?_
  refine x_icmp_ge 429 dX12_happen_277 (by decide) (fun c => ?_) (fun c => ?_)
  · rw [if_pos c] at h
    refine x_aload_n dX12_happen_429 0 rfl ?_
    refine x_iload_n dX12_happen_430 1 rfl ?_
    refine xlet_e h (fun D1 eD1 h => ?_)
    refine y_puti fp_RX12_7 dX12_happen_431 rfl k0 eD1 ?_
    refine x_iconst 0 dX12_happen_434 (by decide) ?_
    refine y_istore_n 0 rfl [(3, .int 0), (0, .ref v0), (1, .int v1)] dX12_happen_435 (by show _ < 8; decide) rfl ?_
    refine x_lv (lv' := [(0, .ref v0), (1, .int v1), (3, .int 0)]) [1, 2, 0] rfl ?_
    exact t_X12_happen_436 hS F k0 h
  · rw [if_neg c] at h
    refine x_iconst 0 dX12_happen_280 (by decide) ?_
    refine y_istore 0 rfl [(4, .int 0), (0, .ref v0), (1, .int v1), (3, .int v3)] dX12_happen_281 (by show _ < 8; decide) rfl ?_
    refine x_lv (lv' := [(0, .ref v0), (1, .int v1), (3, .int v3), (4, .int 0)]) [1, 2, 3, 0] rfl ?_
    exact t_X12_happen_283 hS hrec_275 F k0 h
theorem t_X12_happen_275 {F P : Nat} {S : xSt} (hS : xWF S) : ∀ (n : Nat) {v0 : Nat} {v1 : Int32} {v3 : Int32} {D : xDt} {r : Int32 × xDt}, xK S v0 12 → f_X12_happen_275 F P S n v0 v1 v3 D = some r → yEx md_X12_happen (P + 5) 275 [(0, .ref v0), (1, .int v1), (3, .int v3)] [] S D (xQi S r) := by
  intro n
  induction n with
  | zero => intros; rename_i h; cases h
  | succ n ih =>
    intro v0 v1 v3 D r k0 h
    exact t_X12_happen_275s hS (fun k0 h => ih k0 h) k0 h

def f_X12_happen_145s (F P : Nat) (S : xSt) (rec_145 : Nat → Int32 → Int32 → Int32 → xDt → Option (Int32 × xDt)) (v0 : Nat) (v1 : Int32) (v2 : Int32) (v3 : Int32) (D : xDt) : Option (Int32 × xDt) :=
  if (D.1 v0 1) ≤ v3 then (f_X12_happen_275 F P S F v0 v1 0 D) else (f_X12_happen_156 F P S rec_145 F v0 v1 v2 v3 0 D)
def f_X12_happen_145 (F P : Nat) (S : xSt) : Nat → Nat → Int32 → Int32 → Int32 → xDt → Option (Int32 × xDt)
  | 0 => fun _ _ _ _ _ => none
  | n + 1 => f_X12_happen_145s F P S (f_X12_happen_145 F P S n)
set_option maxHeartbeats 4000000 in
theorem t_X12_happen_145s {F P : Nat} {S : xSt} (hS : xWF S) {rec_145 : Nat → Int32 → Int32 → Int32 → xDt → Option (Int32 × xDt)} (hrec_145 : ∀ {v0 : Nat} {v1 : Int32} {v2 : Int32} {v3 : Int32} {D : xDt} {r : Int32 × xDt}, xK S v0 12 → rec_145 v0 v1 v2 v3 D = some r → yEx md_X12_happen (P + 5) 145 [(0, .ref v0), (1, .int v1), (2, .int v2), (3, .int v3)] [] S D (xQi S r)) {v0 : Nat} {v1 : Int32} {v2 : Int32} {v3 : Int32} {D : xDt} {r : Int32 × xDt} (k0 : xK S v0 12) (h : f_X12_happen_145s F P S rec_145 v0 v1 v2 v3 D = some r) : yEx md_X12_happen (P + 5) 145 [(0, .ref v0), (1, .int v1), (2, .int v2), (3, .int v3)] [] S D (xQi S r) := by
  unfold f_X12_happen_145s at h
  refine x_iload_n dX12_happen_145 3 rfl ?_
  refine x_aload_n dX12_happen_146 0 rfl ?_
  refine y_geti fl_RX12_7 dX12_happen_147 rfl k0 ?_
  refine x_icmp_ge 273 dX12_happen_150 (by decide) (fun c => ?_) (fun c => ?_)
  · rw [if_pos c] at h
    refine x_iconst 0 dX12_happen_273 (by decide) ?_
    refine y_istore_n 0 rfl [(3, .int 0), (0, .ref v0), (1, .int v1), (2, .int v2)] dX12_happen_274 (by show _ < 8; decide) rfl ?_
    refine x_lv (lv' := [(0, .ref v0), (1, .int v1), (3, .int 0)]) [1, 2, 0] rfl ?_
    exact t_X12_happen_275 hS F k0 h
  · rw [if_neg c] at h
    refine x_iconst 0 dX12_happen_153 (by decide) ?_
    refine y_istore 0 rfl [(4, .int 0), (0, .ref v0), (1, .int v1), (2, .int v2), (3, .int v3)] dX12_happen_154 (by show _ < 8; decide) rfl ?_
    refine x_lv (lv' := [(0, .ref v0), (1, .int v1), (2, .int v2), (3, .int v3), (4, .int 0)]) [1, 2, 3, 4, 0] rfl ?_
    exact t_X12_happen_156 hS hrec_145 F k0 h
theorem t_X12_happen_145 {F P : Nat} {S : xSt} (hS : xWF S) : ∀ (n : Nat) {v0 : Nat} {v1 : Int32} {v2 : Int32} {v3 : Int32} {D : xDt} {r : Int32 × xDt}, xK S v0 12 → f_X12_happen_145 F P S n v0 v1 v2 v3 D = some r → yEx md_X12_happen (P + 5) 145 [(0, .ref v0), (1, .int v1), (2, .int v2), (3, .int v3)] [] S D (xQi S r) := by
  intro n
  induction n with
  | zero => intros; rename_i h; cases h
  | succ n ih =>
    intro v0 v1 v2 v3 D r k0 h
    exact t_X12_happen_145s hS (fun k0 h => ih k0 h) k0 h

def f_X12_happen_4s (F P : Nat) (S : xSt) (rec_4 : Nat → Int32 → Int32 → xDt → Option (Int32 × xDt)) (v0 : Nat) (v1 : Int32) (v2 : Int32) (D : xDt) : Option (Int32 × xDt) :=
  if (D.1 v0 25) ≤ v2 then (if v1 = 0 then (f_X12_happen_126 F P S v1 D) else (if v1 ≤ 64 then ((f_X12_keep F P S v0 D).bind fun q1 => f_X12_happen_145 F P S F v0 v1 0 0 q1) else (f_X12_happen_126 F P S v1 D))) else (xgrd (xin v2 (xl S (xr S v0 26))) ((f_X12_all F P S v0 D).bind fun q3 => (f_X12_where F P S P v0 (D.1 (xr S v0 26) (v2).toNatClampNeg) q3.1 q3.2).bind fun q4 => xgrd (xin v2 (xl S (xr S v0 29))) (xlet (q4.2.1, xup q4.2.2 (xr S v0 29) (v2).toNatClampNeg q4.1) fun D6 => xgrd (xin v2 (xl S (xr S v0 29))) ((f_X12_size F P S (D6.2 (xr S v0 29) (v2).toNatClampNeg) D6).bind fun q8 => xlet (v1 + q8.1) fun v1_9 => f_X12_happen_46 F P S rec_4 F v0 v1_9 v2 0 q8.2))))
def f_X12_happen_4 (F P : Nat) (S : xSt) : Nat → Nat → Int32 → Int32 → xDt → Option (Int32 × xDt)
  | 0 => fun _ _ _ _ => none
  | n + 1 => f_X12_happen_4s F P S (f_X12_happen_4 F P S n)
set_option maxHeartbeats 4000000 in
theorem t_X12_happen_4s {F P : Nat} {S : xSt} (hS : xWF S) {rec_4 : Nat → Int32 → Int32 → xDt → Option (Int32 × xDt)} (hrec_4 : ∀ {v0 : Nat} {v1 : Int32} {v2 : Int32} {D : xDt} {r : Int32 × xDt}, xK S v0 12 → rec_4 v0 v1 v2 D = some r → yEx md_X12_happen (P + 5) 4 [(0, .ref v0), (1, .int v1), (2, .int v2)] [] S D (xQi S r)) {v0 : Nat} {v1 : Int32} {v2 : Int32} {D : xDt} {r : Int32 × xDt} (k0 : xK S v0 12) (h : f_X12_happen_4s F P S rec_4 v0 v1 v2 D = some r) : yEx md_X12_happen (P + 5) 4 [(0, .ref v0), (1, .int v1), (2, .int v2)] [] S D (xQi S r) := by
  unfold f_X12_happen_4s at h
  refine x_iload_n dX12_happen_4 2 rfl ?_
  refine x_aload_n dX12_happen_5 0 rfl ?_
  refine y_geti fl_RX12_265 dX12_happen_6 rfl k0 ?_
  refine x_icmp_ge 116 dX12_happen_9 (by decide) (fun c => ?_) (fun c => ?_)
  · rw [if_pos c] at h
    refine x_iload_n dX12_happen_116 1 rfl ?_
    refine x_if_eq 126 dX12_happen_117 (by decide) (fun c => ?_) (fun c => ?_)
    · rw [if_pos c] at h
      refine x_lv (lv' := [(1, .int v1)]) [1] rfl ?_
      exact t_X12_happen_126 hS h
    · rw [if_neg c] at h
      refine x_iload_n dX12_happen_120 1 rfl ?_
      refine x_bipush 64 dX12_happen_121 (by decide) ?_
      refine x_icmp_le 137 dX12_happen_123 (by decide) (fun c => ?_) (fun c => ?_)
      · rw [if_pos c] at h
        refine x_aload_n dX12_happen_137 0 rfl ?_
        refine xbnd_e h (fun q1 e1 h => ?_)
        refine y_callVv (As := []) (q := q1) cv_RX12_258 dX12_happen_138 k0 rfl (Nat.le_of_ble_eq_true rfl) (by omega) (S_X12_keep hS k0 e1) ?_
        refine x_iconst 0 dX12_happen_141 (by decide) ?_
        refine y_istore_n 0 rfl [(2, .int 0), (0, .ref v0), (1, .int v1)] dX12_happen_142 (by show _ < 8; decide) rfl ?_
        refine x_iconst 0 dX12_happen_143 (by decide) ?_
        refine y_istore_n 0 rfl [(3, .int 0), (2, .int 0), (0, .ref v0), (1, .int v1)] dX12_happen_144 (by show _ < 8; decide) rfl ?_
        refine x_lv (lv' := [(0, .ref v0), (1, .int v1), (2, .int 0), (3, .int 0)]) [2, 3, 1, 0] rfl ?_
        exact t_X12_happen_145 hS F k0 h
      · rw [if_neg c] at h
        refine x_lv (lv' := [(1, .int v1)]) [1] rfl ?_
        exact t_X12_happen_126 hS h
  · rw [if_neg c] at h
    refine x_aload_n dX12_happen_12 0 rfl ?_
    refine y_getr (kd := 101) hS fl_RX12_112 dX12_happen_13 rfl k0 ?_
    refine x_iload_n dX12_happen_16 2 rfl ?_
    refine x_aload_n dX12_happen_17 0 rfl ?_
    refine x_aload_n dX12_happen_18 0 rfl ?_
    refine y_getr (kd := 100) hS fl_RX12_103 dX12_happen_19 rfl k0 ?_
    refine x_iload_n dX12_happen_22 2 rfl ?_
    refine xgrd_e h (fun g2 h => ?_)
    refine y_iald dX12_happen_23 ((hS.f k0 26 100 rfl).2) g2 ?_
    refine x_aload_n dX12_happen_24 0 rfl ?_
    refine xbnd_e h (fun q3 e3 h => ?_)
    refine y_callVl (As := []) (q := q3) cv_RX12_233 dX12_happen_25 k0 rfl (Nat.le_of_ble_eq_true rfl) (by omega) (S_X12_all hS k0 e3) ?_
    refine xbnd_e h (fun q4 e4 h => ?_)
    refine y_callVl (As := [.int (D.1 (xr S v0 26) (v2).toNatClampNeg), .long q3.1]) (q := q4) cv_RX12_221 dX12_happen_28 k0 rfl (Nat.le_of_ble_eq_true rfl) (by omega) (S_X12_where hS P k0 e4) ?_
    refine xgrd_e h (fun g5 h => ?_)
    refine xlet_e h (fun D6 eD6 h => ?_)
    refine y_last dX12_happen_31 ((hS.f k0 29 101 rfl).2) g5 eD6 ?_
    refine x_iload_n dX12_happen_32 1 rfl ?_
    refine x_aload_n dX12_happen_33 0 rfl ?_
    refine y_getr (kd := 101) hS fl_RX12_112 dX12_happen_34 rfl k0 ?_
    refine x_iload_n dX12_happen_37 2 rfl ?_
    refine xgrd_e h (fun g7 h => ?_)
    refine y_lald dX12_happen_38 ((hS.f k0 29 101 rfl).2) g7 ?_
    refine xbnd_e h (fun q8 e8 h => ?_)
    refine y_callSi (As := [.long (D6.2 (xr S v0 29) (v2).toNatClampNeg)]) (q := q8) cs_RX12_49 dX12_happen_39 rfl (Nat.le_of_ble_eq_true rfl) (by omega) (S_X12_size hS e8) ?_
    refine x_iadd dX12_happen_42 ?_
    refine xlet_e h (fun v1_9 ev1_9 h => ?_)
    refine y_istore_n v1_9 ev1_9 [(1, .int v1_9), (0, .ref v0), (2, .int v2)] dX12_happen_43 (by show _ < 8; decide) rfl ?_
    refine x_iconst 0 dX12_happen_44 (by decide) ?_
    refine y_istore_n 0 rfl [(3, .int 0), (1, .int v1_9), (0, .ref v0), (2, .int v2)] dX12_happen_45 (by show _ < 8; decide) rfl ?_
    refine x_lv (lv' := [(0, .ref v0), (1, .int v1_9), (2, .int v2), (3, .int 0)]) [2, 1, 3, 0] rfl ?_
    exact t_X12_happen_46 hS hrec_4 F k0 h
theorem t_X12_happen_4 {F P : Nat} {S : xSt} (hS : xWF S) : ∀ (n : Nat) {v0 : Nat} {v1 : Int32} {v2 : Int32} {D : xDt} {r : Int32 × xDt}, xK S v0 12 → f_X12_happen_4 F P S n v0 v1 v2 D = some r → yEx md_X12_happen (P + 5) 4 [(0, .ref v0), (1, .int v1), (2, .int v2)] [] S D (xQi S r) := by
  intro n
  induction n with
  | zero => intros; rename_i h; cases h
  | succ n ih =>
    intro v0 v1 v2 D r k0 h
    exact t_X12_happen_4s hS (fun k0 h => ih k0 h) k0 h

def f_X12_happen (F P : Nat) (S : xSt) (v0 : Nat) (D : xDt) : Option (Int32 × xDt) :=
  f_X12_happen_4 F P S F v0 0 0 D
set_option maxHeartbeats 4000000 in
theorem S_X12_happen {F P : Nat} {S : xSt} (hS : xWF S) {v0 : Nat} {D : xDt} {r : Int32 × xDt} (k0 : xK S v0 12) (h : f_X12_happen F P S v0 D = some r) : xSp md_X12_happen ((P + 5), 0, 0) [.ref v0] (S, D) (xQi S r) := by
  unfold f_X12_happen at h
  refine xEntry (by decide) (Nat.le_of_ble_eq_true rfl) ?_
  refine x_lv (lv' := [(0, .ref v0)]) [0] rfl ?_
  refine x_iconst 0 dX12_happen_0 (by decide) ?_
  refine y_istore_n 0 rfl [(1, .int 0), (0, .ref v0)] dX12_happen_1 (by show _ < 8; decide) rfl ?_
  refine x_iconst 0 dX12_happen_2 (by decide) ?_
  refine y_istore_n 0 rfl [(2, .int 0), (1, .int 0), (0, .ref v0)] dX12_happen_3 (by show _ < 8; decide) rfl ?_
  refine x_lv (lv' := [(0, .ref v0), (1, .int 0), (2, .int 0)]) [2, 1, 0] rfl ?_
  exact t_X12_happen_4 hS F k0 h

theorem dX12_sortsIn_0 : decode cX12_sortsIn 0 = .ok (.lconst 0, 1) := by decide +kernel
theorem dX12_sortsIn_1 : decode cX12_sortsIn 1 = .ok (.lstore_n 3, 1) := by decide +kernel
theorem dX12_sortsIn_2 : decode cX12_sortsIn 2 = .ok (.iconst 0, 1) := by decide +kernel
theorem dX12_sortsIn_3 : decode cX12_sortsIn 3 = .ok (.istore 5, 2) := by decide +kernel
theorem dX12_sortsIn_5 : decode cX12_sortsIn 5 = .ok (.iload 5, 2) := by decide +kernel
theorem dX12_sortsIn_7 : decode cX12_sortsIn 7 = .ok (.aload_n 0, 1) := by decide +kernel
theorem dX12_sortsIn_8 : decode cX12_sortsIn 8 = .ok (.getfield 7, 3) := by decide +kernel
theorem dX12_sortsIn_11 : decode cX12_sortsIn 11 = .ok (.if_icmp .ge 41, 3) := by decide +kernel
theorem dX12_sortsIn_14 : decode cX12_sortsIn 14 = .ok (.lload_n 3, 1) := by decide +kernel
theorem dX12_sortsIn_15 : decode cX12_sortsIn 15 = .ok (.aload_n 0, 1) := by decide +kernel
theorem dX12_sortsIn_16 : decode cX12_sortsIn 16 = .ok (.iload_n 1, 1) := by decide +kernel
theorem dX12_sortsIn_17 : decode cX12_sortsIn 17 = .ok (.iload 5, 2) := by decide +kernel
theorem dX12_sortsIn_19 : decode cX12_sortsIn 19 = .ok (.invokevirtual 18, 3) := by decide +kernel
theorem dX12_sortsIn_22 : decode cX12_sortsIn 22 = .ok (.aload_n 0, 1) := by decide +kernel
theorem dX12_sortsIn_23 : decode cX12_sortsIn 23 = .ok (.iload_n 1, 1) := by decide +kernel
theorem dX12_sortsIn_24 : decode cX12_sortsIn 24 = .ok (.iload_n 2, 1) := by decide +kernel
theorem dX12_sortsIn_25 : decode cX12_sortsIn 25 = .ok (.invokevirtual 18, 3) := by decide +kernel
theorem dX12_sortsIn_28 : decode cX12_sortsIn 28 = .ok (.if_icmp .ne 15, 3) := by decide +kernel
theorem dX12_sortsIn_31 : decode cX12_sortsIn 31 = .ok (.lconst 1, 1) := by decide +kernel
theorem dX12_sortsIn_32 : decode cX12_sortsIn 32 = .ok (.aload_n 0, 1) := by decide +kernel
theorem dX12_sortsIn_33 : decode cX12_sortsIn 33 = .ok (.getfield 128, 3) := by decide +kernel
theorem dX12_sortsIn_36 : decode cX12_sortsIn 36 = .ok (.iload 5, 2) := by decide +kernel
theorem dX12_sortsIn_38 : decode cX12_sortsIn 38 = .ok (.iaload, 1) := by decide +kernel
theorem dX12_sortsIn_39 : decode cX12_sortsIn 39 = .ok (.lshl, 1) := by decide +kernel
theorem dX12_sortsIn_40 : decode cX12_sortsIn 40 = .ok (.goto 4, 3) := by decide +kernel
theorem dX12_sortsIn_43 : decode cX12_sortsIn 43 = .ok (.lconst 0, 1) := by decide +kernel
theorem dX12_sortsIn_44 : decode cX12_sortsIn 44 = .ok (.lor, 1) := by decide +kernel
theorem dX12_sortsIn_45 : decode cX12_sortsIn 45 = .ok (.lstore_n 3, 1) := by decide +kernel
theorem dX12_sortsIn_46 : decode cX12_sortsIn 46 = .ok (.iinc 5 1, 3) := by decide +kernel
theorem dX12_sortsIn_49 : decode cX12_sortsIn 49 = .ok (.goto (-44), 3) := by decide +kernel
theorem dX12_sortsIn_52 : decode cX12_sortsIn 52 = .ok (.lload_n 3, 1) := by decide +kernel
theorem dX12_sortsIn_53 : decode cX12_sortsIn 53 = .ok (.lreturn, 1) := by decide +kernel
def f_X12_sortsIn_44 (F P : Nat) (S : xSt) (rec_5 : Nat → Int32 → Int32 → Int64 → Int32 → xDt → Option (Int64 × xDt)) (v0 : Nat) (v1 : Int32) (v2 : Int32) (v5 : Int32) (s0 : Int64) (s1 : Int64) (D : xDt) : Option (Int64 × xDt) :=
  xlet (s1 ||| s0) fun v3_1 => xlet (v5 + 1) fun v5_2 => rec_5 v0 v1 v2 v3_1 v5_2 D
set_option maxHeartbeats 4000000 in
theorem t_X12_sortsIn_44 {F P : Nat} {S : xSt} (hS : xWF S) {rec_5 : Nat → Int32 → Int32 → Int64 → Int32 → xDt → Option (Int64 × xDt)} (hrec_5 : ∀ {v0 : Nat} {v1 : Int32} {v2 : Int32} {v3 : Int64} {v5 : Int32} {D : xDt} {r : Int64 × xDt}, xK S v0 12 → rec_5 v0 v1 v2 v3 v5 D = some r → yEx md_X12_sortsIn 1 5 [(0, .ref v0), (1, .int v1), (2, .int v2), (3, .long v3), (5, .int v5)] [] S D (xQl S r)) {v0 : Nat} {v1 : Int32} {v2 : Int32} {v5 : Int32} {s0 : Int64} {s1 : Int64} {D : xDt} {r : Int64 × xDt} (k0 : xK S v0 12) (h : f_X12_sortsIn_44 F P S rec_5 v0 v1 v2 v5 s0 s1 D = some r) : yEx md_X12_sortsIn 1 44 [(0, .ref v0), (1, .int v1), (2, .int v2), (5, .int v5)] [.long s0, .long s1] S D (xQl S r) := by
  unfold f_X12_sortsIn_44 at h
  refine x_lor dX12_sortsIn_44 ?_
  refine xlet_e h (fun v3_1 ev3_1 h => ?_)
  refine y_lstore_n v3_1 ev3_1 [(3, .long v3_1), (0, .ref v0), (1, .int v1), (2, .int v2), (5, .int v5)] dX12_sortsIn_45 (by show _ < 6; decide) rfl ?_
  refine xlet_e h (fun v5_2 ev5_2 h => ?_)
  refine y_iinc v5_2 ev5_2 (by decide) [(5, .int v5_2), (3, .long v3_1), (0, .ref v0), (1, .int v1), (2, .int v2)] dX12_sortsIn_46 4 rfl (by show _ < 6; decide) rfl ?_
  refine x_goto 5 dX12_sortsIn_49 (by decide) ?_
  refine x_lv (lv' := [(0, .ref v0), (1, .int v1), (2, .int v2), (3, .long v3_1), (5, .int v5_2)]) [2, 3, 4, 1, 0] rfl ?_
  exact hrec_5 k0 h

def f_X12_sortsIn_5s (F P : Nat) (S : xSt) (rec_5 : Nat → Int32 → Int32 → Int64 → Int32 → xDt → Option (Int64 × xDt)) (v0 : Nat) (v1 : Int32) (v2 : Int32) (v3 : Int64) (v5 : Int32) (D : xDt) : Option (Int64 × xDt) :=
  if (D.1 v0 1) ≤ v5 then (some (v3, D)) else ((f_X12_cell F P S v0 v1 v5 D).bind fun q1 => (f_X12_cell F P S v0 v1 v2 q1.2).bind fun q2 => if q1.1 = q2.1 then (xgrd (xin v5 (xl S (xr S v0 34))) (f_X12_sortsIn_44 F P S rec_5 v0 v1 v2 v5 (jlshl 1 (q2.2.1 (xr S v0 34) (v5).toNatClampNeg)) v3 q2.2)) else (f_X12_sortsIn_44 F P S rec_5 v0 v1 v2 v5 0 v3 q2.2))
def f_X12_sortsIn_5 (F P : Nat) (S : xSt) : Nat → Nat → Int32 → Int32 → Int64 → Int32 → xDt → Option (Int64 × xDt)
  | 0 => fun _ _ _ _ _ _ => none
  | n + 1 => f_X12_sortsIn_5s F P S (f_X12_sortsIn_5 F P S n)
set_option maxHeartbeats 4000000 in
theorem t_X12_sortsIn_5s {F P : Nat} {S : xSt} (hS : xWF S) {rec_5 : Nat → Int32 → Int32 → Int64 → Int32 → xDt → Option (Int64 × xDt)} (hrec_5 : ∀ {v0 : Nat} {v1 : Int32} {v2 : Int32} {v3 : Int64} {v5 : Int32} {D : xDt} {r : Int64 × xDt}, xK S v0 12 → rec_5 v0 v1 v2 v3 v5 D = some r → yEx md_X12_sortsIn 1 5 [(0, .ref v0), (1, .int v1), (2, .int v2), (3, .long v3), (5, .int v5)] [] S D (xQl S r)) {v0 : Nat} {v1 : Int32} {v2 : Int32} {v3 : Int64} {v5 : Int32} {D : xDt} {r : Int64 × xDt} (k0 : xK S v0 12) (h : f_X12_sortsIn_5s F P S rec_5 v0 v1 v2 v3 v5 D = some r) : yEx md_X12_sortsIn 1 5 [(0, .ref v0), (1, .int v1), (2, .int v2), (3, .long v3), (5, .int v5)] [] S D (xQl S r) := by
  unfold f_X12_sortsIn_5s at h
  refine x_iload dX12_sortsIn_5 4 rfl ?_
  refine x_aload_n dX12_sortsIn_7 0 rfl ?_
  refine y_geti fl_RX12_7 dX12_sortsIn_8 rfl k0 ?_
  refine x_icmp_ge 52 dX12_sortsIn_11 (by decide) (fun c => ?_) (fun c => ?_)
  · rw [if_pos c] at h
    refine x_lload_n dX12_sortsIn_52 3 rfl ?_
    obtain rfl := Option.some.inj h
    exact y_lret rfl dX12_sortsIn_53
  · rw [if_neg c] at h
    refine x_lload_n dX12_sortsIn_14 3 rfl ?_
    refine x_aload_n dX12_sortsIn_15 0 rfl ?_
    refine x_iload_n dX12_sortsIn_16 1 rfl ?_
    refine x_iload dX12_sortsIn_17 4 rfl ?_
    refine xbnd_e h (fun q1 e1 h => ?_)
    refine y_callVi (As := [.int v1, .int v5]) (q := q1) cv_RX12_18 dX12_sortsIn_19 k0 rfl (Nat.le_of_ble_eq_true rfl) (by omega) (S_X12_cell hS k0 e1) ?_
    refine x_aload_n dX12_sortsIn_22 0 rfl ?_
    refine x_iload_n dX12_sortsIn_23 1 rfl ?_
    refine x_iload_n dX12_sortsIn_24 2 rfl ?_
    refine xbnd_e h (fun q2 e2 h => ?_)
    refine y_callVi (As := [.int v1, .int v2]) (q := q2) cv_RX12_18 dX12_sortsIn_25 k0 rfl (Nat.le_of_ble_eq_true rfl) (by omega) (S_X12_cell hS k0 e2) ?_
    refine x_icmp_ne 43 dX12_sortsIn_28 (by decide) (fun c => ?_) (fun c => ?_)
    · rw [if_neg c] at h
      refine x_lconst 0 dX12_sortsIn_43 (by decide) ?_
      refine x_lv (lv' := [(0, .ref v0), (1, .int v1), (2, .int v2), (5, .int v5)]) [0, 1, 2, 4] rfl ?_
      exact t_X12_sortsIn_44 hS hrec_5 k0 h
    · rw [if_pos c] at h
      refine x_lconst 1 dX12_sortsIn_31 (by decide) ?_
      refine x_aload_n dX12_sortsIn_32 0 rfl ?_
      refine y_getr (kd := 100) hS fl_RX12_128 dX12_sortsIn_33 rfl k0 ?_
      refine x_iload dX12_sortsIn_36 4 rfl ?_
      refine xgrd_e h (fun g3 h => ?_)
      refine y_iald dX12_sortsIn_38 ((hS.f k0 34 100 rfl).2) g3 ?_
      refine x_lshl dX12_sortsIn_39 ?_
      refine x_goto 44 dX12_sortsIn_40 (by decide) ?_
      refine x_lv (lv' := [(0, .ref v0), (1, .int v1), (2, .int v2), (5, .int v5)]) [0, 1, 2, 4] rfl ?_
      exact t_X12_sortsIn_44 hS hrec_5 k0 h
theorem t_X12_sortsIn_5 {F P : Nat} {S : xSt} (hS : xWF S) : ∀ (n : Nat) {v0 : Nat} {v1 : Int32} {v2 : Int32} {v3 : Int64} {v5 : Int32} {D : xDt} {r : Int64 × xDt}, xK S v0 12 → f_X12_sortsIn_5 F P S n v0 v1 v2 v3 v5 D = some r → yEx md_X12_sortsIn 1 5 [(0, .ref v0), (1, .int v1), (2, .int v2), (3, .long v3), (5, .int v5)] [] S D (xQl S r) := by
  intro n
  induction n with
  | zero => intros; rename_i h; cases h
  | succ n ih =>
    intro v0 v1 v2 v3 v5 D r k0 h
    exact t_X12_sortsIn_5s hS (fun k0 h => ih k0 h) k0 h

def f_X12_sortsIn (F P : Nat) (S : xSt) (v0 : Nat) (v1 : Int32) (v2 : Int32) (D : xDt) : Option (Int64 × xDt) :=
  f_X12_sortsIn_5 F P S F v0 v1 v2 0 0 D
set_option maxHeartbeats 4000000 in
theorem S_X12_sortsIn {F P : Nat} {S : xSt} (hS : xWF S) {v0 : Nat} {v1 : Int32} {v2 : Int32} {D : xDt} {r : Int64 × xDt} (k0 : xK S v0 12) (h : f_X12_sortsIn F P S v0 v1 v2 D = some r) : xSp md_X12_sortsIn (1, 0, 0) [.ref v0, .int v1, .int v2] (S, D) (xQl S r) := by
  unfold f_X12_sortsIn at h
  refine xEntry (by decide) (Nat.le_of_ble_eq_true rfl) ?_
  refine x_lv (lv' := [(0, .ref v0), (1, .int v1), (2, .int v2)]) [0, 1, 2] rfl ?_
  refine x_lconst 0 dX12_sortsIn_0 (by decide) ?_
  refine y_lstore_n 0 rfl [(3, .long 0), (0, .ref v0), (1, .int v1), (2, .int v2)] dX12_sortsIn_1 (by show _ < 6; decide) rfl ?_
  refine x_iconst 0 dX12_sortsIn_2 (by decide) ?_
  refine y_istore 0 rfl [(5, .int 0), (3, .long 0), (0, .ref v0), (1, .int v1), (2, .int v2)] dX12_sortsIn_3 (by show _ < 6; decide) rfl ?_
  refine x_lv (lv' := [(0, .ref v0), (1, .int v1), (2, .int v2), (3, .long 0), (5, .int 0)]) [2, 3, 4, 1, 0] rfl ?_
  exact t_X12_sortsIn_5 hS F k0 h

theorem dX12_areAsBefore_0 : decode cX12_areAsBefore 0 = .ok (.aload_n 0, 1) := by decide +kernel
theorem dX12_areAsBefore_1 : decode cX12_areAsBefore 1 = .ok (.getfield 128, 3) := by decide +kernel
theorem dX12_areAsBefore_4 : decode cX12_areAsBefore 4 = .ok (.iload_n 1, 1) := by decide +kernel
theorem dX12_areAsBefore_5 : decode cX12_areAsBefore 5 = .ok (.iaload, 1) := by decide +kernel
theorem dX12_areAsBefore_6 : decode cX12_areAsBefore 6 = .ok (.aload_n 0, 1) := by decide +kernel
theorem dX12_areAsBefore_7 : decode cX12_areAsBefore 7 = .ok (.getfield 128, 3) := by decide +kernel
theorem dX12_areAsBefore_10 : decode cX12_areAsBefore 10 = .ok (.iload_n 2, 1) := by decide +kernel
theorem dX12_areAsBefore_11 : decode cX12_areAsBefore 11 = .ok (.iaload, 1) := by decide +kernel
theorem dX12_areAsBefore_12 : decode cX12_areAsBefore 12 = .ok (.if_icmp .ne 7, 3) := by decide +kernel
theorem dX12_areAsBefore_15 : decode cX12_areAsBefore 15 = .ok (.iconst 1, 1) := by decide +kernel
theorem dX12_areAsBefore_16 : decode cX12_areAsBefore 16 = .ok (.goto 4, 3) := by decide +kernel
theorem dX12_areAsBefore_19 : decode cX12_areAsBefore 19 = .ok (.iconst 0, 1) := by decide +kernel
theorem dX12_areAsBefore_20 : decode cX12_areAsBefore 20 = .ok (.istore_n 3, 1) := by decide +kernel
theorem dX12_areAsBefore_21 : decode cX12_areAsBefore 21 = .ok (.iconst 1, 1) := by decide +kernel
theorem dX12_areAsBefore_22 : decode cX12_areAsBefore 22 = .ok (.istore 4, 2) := by decide +kernel
theorem dX12_areAsBefore_24 : decode cX12_areAsBefore 24 = .ok (.iload 4, 2) := by decide +kernel
theorem dX12_areAsBefore_26 : decode cX12_areAsBefore 26 = .ok (.iconst 4, 1) := by decide +kernel
theorem dX12_areAsBefore_27 : decode cX12_areAsBefore 27 = .ok (.if_icmp .gt 37, 3) := by decide +kernel
theorem dX12_areAsBefore_30 : decode cX12_areAsBefore 30 = .ok (.iload_n 3, 1) := by decide +kernel
theorem dX12_areAsBefore_31 : decode cX12_areAsBefore 31 = .ok (.ifCond .eq 33, 3) := by decide +kernel
theorem dX12_areAsBefore_34 : decode cX12_areAsBefore 34 = .ok (.aload_n 0, 1) := by decide +kernel
theorem dX12_areAsBefore_35 : decode cX12_areAsBefore 35 = .ok (.iload 4, 2) := by decide +kernel
theorem dX12_areAsBefore_37 : decode cX12_areAsBefore 37 = .ok (.iload_n 1, 1) := by decide +kernel
theorem dX12_areAsBefore_38 : decode cX12_areAsBefore 38 = .ok (.invokevirtual 274, 3) := by decide +kernel
theorem dX12_areAsBefore_41 : decode cX12_areAsBefore 41 = .ok (.aload_n 0, 1) := by decide +kernel
theorem dX12_areAsBefore_42 : decode cX12_areAsBefore 42 = .ok (.iload 4, 2) := by decide +kernel
theorem dX12_areAsBefore_44 : decode cX12_areAsBefore 44 = .ok (.iload_n 2, 1) := by decide +kernel
theorem dX12_areAsBefore_45 : decode cX12_areAsBefore 45 = .ok (.invokevirtual 274, 3) := by decide +kernel
theorem dX12_areAsBefore_48 : decode cX12_areAsBefore 48 = .ok (.lcmp, 1) := by decide +kernel
theorem dX12_areAsBefore_49 : decode cX12_areAsBefore 49 = .ok (.ifCond .ne 7, 3) := by decide +kernel
theorem dX12_areAsBefore_52 : decode cX12_areAsBefore 52 = .ok (.iconst 1, 1) := by decide +kernel
theorem dX12_areAsBefore_53 : decode cX12_areAsBefore 53 = .ok (.goto 4, 3) := by decide +kernel
theorem dX12_areAsBefore_56 : decode cX12_areAsBefore 56 = .ok (.iconst 0, 1) := by decide +kernel
theorem dX12_areAsBefore_57 : decode cX12_areAsBefore 57 = .ok (.istore_n 3, 1) := by decide +kernel
theorem dX12_areAsBefore_58 : decode cX12_areAsBefore 58 = .ok (.iinc 4 1, 3) := by decide +kernel
theorem dX12_areAsBefore_61 : decode cX12_areAsBefore 61 = .ok (.goto (-37), 3) := by decide +kernel
theorem dX12_areAsBefore_64 : decode cX12_areAsBefore 64 = .ok (.iload_n 3, 1) := by decide +kernel
theorem dX12_areAsBefore_65 : decode cX12_areAsBefore 65 = .ok (.ireturn, 1) := by decide +kernel
def f_X12_areAsBefore_57 (F P : Nat) (S : xSt) (rec_24 : Nat → Int32 → Int32 → Int32 → Int32 → xDt → Option (Int32 × xDt)) (v0 : Nat) (v1 : Int32) (v2 : Int32) (v4 : Int32) (s0 : Int32) (D : xDt) : Option (Int32 × xDt) :=
  xlet (v4 + 1) fun v4_1 => rec_24 v0 v1 v2 s0 v4_1 D
set_option maxHeartbeats 4000000 in
theorem t_X12_areAsBefore_57 {F P : Nat} {S : xSt} (hS : xWF S) {rec_24 : Nat → Int32 → Int32 → Int32 → Int32 → xDt → Option (Int32 × xDt)} (hrec_24 : ∀ {v0 : Nat} {v1 : Int32} {v2 : Int32} {v3 : Int32} {v4 : Int32} {D : xDt} {r : Int32 × xDt}, xK S v0 12 → rec_24 v0 v1 v2 v3 v4 D = some r → yEx md_X12_areAsBefore 2 24 [(0, .ref v0), (1, .int v1), (2, .int v2), (3, .int v3), (4, .int v4)] [] S D (xQi S r)) {v0 : Nat} {v1 : Int32} {v2 : Int32} {v4 : Int32} {s0 : Int32} {D : xDt} {r : Int32 × xDt} (k0 : xK S v0 12) (h : f_X12_areAsBefore_57 F P S rec_24 v0 v1 v2 v4 s0 D = some r) : yEx md_X12_areAsBefore 2 57 [(0, .ref v0), (1, .int v1), (2, .int v2), (4, .int v4)] [.int s0] S D (xQi S r) := by
  unfold f_X12_areAsBefore_57 at h
  refine y_istore_n s0 rfl [(3, .int s0), (0, .ref v0), (1, .int v1), (2, .int v2), (4, .int v4)] dX12_areAsBefore_57 (by show _ < 5; decide) rfl ?_
  refine xlet_e h (fun v4_1 ev4_1 h => ?_)
  refine y_iinc v4_1 ev4_1 (by decide) [(4, .int v4_1), (3, .int s0), (0, .ref v0), (1, .int v1), (2, .int v2)] dX12_areAsBefore_58 4 rfl (by show _ < 5; decide) rfl ?_
  refine x_goto 24 dX12_areAsBefore_61 (by decide) ?_
  refine x_lv (lv' := [(0, .ref v0), (1, .int v1), (2, .int v2), (3, .int s0), (4, .int v4_1)]) [2, 3, 4, 1, 0] rfl ?_
  exact hrec_24 k0 h

def f_X12_areAsBefore_24s (F P : Nat) (S : xSt) (rec_24 : Nat → Int32 → Int32 → Int32 → Int32 → xDt → Option (Int32 × xDt)) (v0 : Nat) (v1 : Int32) (v2 : Int32) (v3 : Int32) (v4 : Int32) (D : xDt) : Option (Int32 × xDt) :=
  if 4 < v4 then (xgrd (xb v3) (some (v3, D))) else (if v3 = 0 then (xgrd (xb v3) (some (v3, D))) else ((f_X12_sortsIn F P S v0 v4 v1 D).bind fun q3 => (f_X12_sortsIn F P S v0 v4 v2 q3.2).bind fun q4 => if (lg_cmp q3.1 q4.1) = 0 then (f_X12_areAsBefore_57 F P S rec_24 v0 v1 v2 v4 1 q4.2) else (f_X12_areAsBefore_57 F P S rec_24 v0 v1 v2 v4 0 q4.2)))
def f_X12_areAsBefore_24 (F P : Nat) (S : xSt) : Nat → Nat → Int32 → Int32 → Int32 → Int32 → xDt → Option (Int32 × xDt)
  | 0 => fun _ _ _ _ _ _ => none
  | n + 1 => f_X12_areAsBefore_24s F P S (f_X12_areAsBefore_24 F P S n)
set_option maxHeartbeats 4000000 in
theorem t_X12_areAsBefore_24s {F P : Nat} {S : xSt} (hS : xWF S) {rec_24 : Nat → Int32 → Int32 → Int32 → Int32 → xDt → Option (Int32 × xDt)} (hrec_24 : ∀ {v0 : Nat} {v1 : Int32} {v2 : Int32} {v3 : Int32} {v4 : Int32} {D : xDt} {r : Int32 × xDt}, xK S v0 12 → rec_24 v0 v1 v2 v3 v4 D = some r → yEx md_X12_areAsBefore 2 24 [(0, .ref v0), (1, .int v1), (2, .int v2), (3, .int v3), (4, .int v4)] [] S D (xQi S r)) {v0 : Nat} {v1 : Int32} {v2 : Int32} {v3 : Int32} {v4 : Int32} {D : xDt} {r : Int32 × xDt} (k0 : xK S v0 12) (h : f_X12_areAsBefore_24s F P S rec_24 v0 v1 v2 v3 v4 D = some r) : yEx md_X12_areAsBefore 2 24 [(0, .ref v0), (1, .int v1), (2, .int v2), (3, .int v3), (4, .int v4)] [] S D (xQi S r) := by
  unfold f_X12_areAsBefore_24s at h
  refine x_iload dX12_areAsBefore_24 4 rfl ?_
  refine x_iconst 4 dX12_areAsBefore_26 (by decide) ?_
  refine x_icmp_gt 64 dX12_areAsBefore_27 (by decide) (fun c => ?_) (fun c => ?_)
  · rw [if_pos c] at h
    refine x_iload_n dX12_areAsBefore_64 3 rfl ?_
    refine xgrd_e h (fun g1 h => ?_)
    obtain rfl := Option.some.inj h
    exact y_zret rfl g1 dX12_areAsBefore_65
  · rw [if_neg c] at h
    refine x_iload_n dX12_areAsBefore_30 3 rfl ?_
    refine x_if_eq 64 dX12_areAsBefore_31 (by decide) (fun c => ?_) (fun c => ?_)
    · rw [if_pos c] at h
      refine x_iload_n dX12_areAsBefore_64 3 rfl ?_
      refine xgrd_e h (fun g2 h => ?_)
      obtain rfl := Option.some.inj h
      exact y_zret rfl g2 dX12_areAsBefore_65
    · rw [if_neg c] at h
      refine x_aload_n dX12_areAsBefore_34 0 rfl ?_
      refine x_iload dX12_areAsBefore_35 4 rfl ?_
      refine x_iload_n dX12_areAsBefore_37 1 rfl ?_
      refine xbnd_e h (fun q3 e3 h => ?_)
      refine y_callVl (As := [.int v4, .int v1]) (q := q3) cv_RX12_274 dX12_areAsBefore_38 k0 rfl (Nat.le_of_ble_eq_true rfl) (by omega) (S_X12_sortsIn hS k0 e3) ?_
      refine x_aload_n dX12_areAsBefore_41 0 rfl ?_
      refine x_iload dX12_areAsBefore_42 4 rfl ?_
      refine x_iload_n dX12_areAsBefore_44 2 rfl ?_
      refine xbnd_e h (fun q4 e4 h => ?_)
      refine y_callVl (As := [.int v4, .int v2]) (q := q4) cv_RX12_274 dX12_areAsBefore_45 k0 rfl (Nat.le_of_ble_eq_true rfl) (by omega) (S_X12_sortsIn hS k0 e4) ?_
      refine x_lcmp dX12_areAsBefore_48 ?_
      refine x_if_ne 56 dX12_areAsBefore_49 (by decide) (fun c => ?_) (fun c => ?_)
      · rw [if_neg c] at h
        refine x_iconst 0 dX12_areAsBefore_56 (by decide) ?_
        refine x_lv (lv' := [(0, .ref v0), (1, .int v1), (2, .int v2), (4, .int v4)]) [0, 1, 2, 4] rfl ?_
        exact t_X12_areAsBefore_57 hS hrec_24 k0 h
      · rw [if_pos c] at h
        refine x_iconst 1 dX12_areAsBefore_52 (by decide) ?_
        refine x_goto 57 dX12_areAsBefore_53 (by decide) ?_
        refine x_lv (lv' := [(0, .ref v0), (1, .int v1), (2, .int v2), (4, .int v4)]) [0, 1, 2, 4] rfl ?_
        exact t_X12_areAsBefore_57 hS hrec_24 k0 h
theorem t_X12_areAsBefore_24 {F P : Nat} {S : xSt} (hS : xWF S) : ∀ (n : Nat) {v0 : Nat} {v1 : Int32} {v2 : Int32} {v3 : Int32} {v4 : Int32} {D : xDt} {r : Int32 × xDt}, xK S v0 12 → f_X12_areAsBefore_24 F P S n v0 v1 v2 v3 v4 D = some r → yEx md_X12_areAsBefore 2 24 [(0, .ref v0), (1, .int v1), (2, .int v2), (3, .int v3), (4, .int v4)] [] S D (xQi S r) := by
  intro n
  induction n with
  | zero => intros; rename_i h; cases h
  | succ n ih =>
    intro v0 v1 v2 v3 v4 D r k0 h
    exact t_X12_areAsBefore_24s hS (fun k0 h => ih k0 h) k0 h

def f_X12_areAsBefore_20 (F P : Nat) (S : xSt) (v0 : Nat) (v1 : Int32) (v2 : Int32) (s0 : Int32) (D : xDt) : Option (Int32 × xDt) :=
  f_X12_areAsBefore_24 F P S F v0 v1 v2 s0 1 D
set_option maxHeartbeats 4000000 in
theorem t_X12_areAsBefore_20 {F P : Nat} {S : xSt} (hS : xWF S) {v0 : Nat} {v1 : Int32} {v2 : Int32} {s0 : Int32} {D : xDt} {r : Int32 × xDt} (k0 : xK S v0 12) (h : f_X12_areAsBefore_20 F P S v0 v1 v2 s0 D = some r) : yEx md_X12_areAsBefore 2 20 [(0, .ref v0), (1, .int v1), (2, .int v2)] [.int s0] S D (xQi S r) := by
  unfold f_X12_areAsBefore_20 at h
  refine y_istore_n s0 rfl [(3, .int s0), (0, .ref v0), (1, .int v1), (2, .int v2)] dX12_areAsBefore_20 (by show _ < 5; decide) rfl ?_
  refine x_iconst 1 dX12_areAsBefore_21 (by decide) ?_
  refine y_istore 1 rfl [(4, .int 1), (3, .int s0), (0, .ref v0), (1, .int v1), (2, .int v2)] dX12_areAsBefore_22 (by show _ < 5; decide) rfl ?_
  refine x_lv (lv' := [(0, .ref v0), (1, .int v1), (2, .int v2), (3, .int s0), (4, .int 1)]) [2, 3, 4, 1, 0] rfl ?_
  exact t_X12_areAsBefore_24 hS F k0 h

def f_X12_areAsBefore (F P : Nat) (S : xSt) (v0 : Nat) (v1 : Int32) (v2 : Int32) (D : xDt) : Option (Int32 × xDt) :=
  xgrd (xin v1 (xl S (xr S v0 34))) (xgrd (xin v2 (xl S (xr S v0 34))) (if (D.1 (xr S v0 34) (v1).toNatClampNeg) = (D.1 (xr S v0 34) (v2).toNatClampNeg) then (f_X12_areAsBefore_20 F P S v0 v1 v2 1 D) else (f_X12_areAsBefore_20 F P S v0 v1 v2 0 D)))
set_option maxHeartbeats 4000000 in
theorem S_X12_areAsBefore {F P : Nat} {S : xSt} (hS : xWF S) {v0 : Nat} {v1 : Int32} {v2 : Int32} {D : xDt} {r : Int32 × xDt} (k0 : xK S v0 12) (h : f_X12_areAsBefore F P S v0 v1 v2 D = some r) : xSp md_X12_areAsBefore (2, 0, 0) [.ref v0, .int v1, .int v2] (S, D) (xQi S r) := by
  unfold f_X12_areAsBefore at h
  refine xEntry (by decide) (Nat.le_of_ble_eq_true rfl) ?_
  refine x_lv (lv' := [(0, .ref v0), (1, .int v1), (2, .int v2)]) [0, 1, 2] rfl ?_
  refine x_aload_n dX12_areAsBefore_0 0 rfl ?_
  refine y_getr (kd := 100) hS fl_RX12_128 dX12_areAsBefore_1 rfl k0 ?_
  refine x_iload_n dX12_areAsBefore_4 1 rfl ?_
  refine xgrd_e h (fun g1 h => ?_)
  refine y_iald dX12_areAsBefore_5 ((hS.f k0 34 100 rfl).2) g1 ?_
  refine x_aload_n dX12_areAsBefore_6 0 rfl ?_
  refine y_getr (kd := 100) hS fl_RX12_128 dX12_areAsBefore_7 rfl k0 ?_
  refine x_iload_n dX12_areAsBefore_10 2 rfl ?_
  refine xgrd_e h (fun g2 h => ?_)
  refine y_iald dX12_areAsBefore_11 ((hS.f k0 34 100 rfl).2) g2 ?_
  refine x_icmp_ne 19 dX12_areAsBefore_12 (by decide) (fun c => ?_) (fun c => ?_)
  · rw [if_neg c] at h
    refine x_iconst 0 dX12_areAsBefore_19 (by decide) ?_
    exact t_X12_areAsBefore_20 hS k0 h
  · rw [if_pos c] at h
    refine x_iconst 1 dX12_areAsBefore_15 (by decide) ?_
    refine x_goto 20 dX12_areAsBefore_16 (by decide) ?_
    exact t_X12_areAsBefore_20 hS k0 h

theorem dX12_beginLike_0 : decode cX12_beginLike 0 = .ok (.iconst 0, 1) := by decide +kernel
theorem dX12_beginLike_1 : decode cX12_beginLike 1 = .ok (.istore_n 1, 1) := by decide +kernel
theorem dX12_beginLike_2 : decode cX12_beginLike 2 = .ok (.iload_n 1, 1) := by decide +kernel
theorem dX12_beginLike_3 : decode cX12_beginLike 3 = .ok (.aload_n 0, 1) := by decide +kernel
theorem dX12_beginLike_4 : decode cX12_beginLike 4 = .ok (.getfield 7, 3) := by decide +kernel
theorem dX12_beginLike_7 : decode cX12_beginLike 7 = .ok (.if_icmp .ge 51, 3) := by decide +kernel
theorem dX12_beginLike_10 : decode cX12_beginLike 10 = .ok (.iload_n 1, 1) := by decide +kernel
theorem dX12_beginLike_11 : decode cX12_beginLike 11 = .ok (.istore_n 2, 1) := by decide +kernel
theorem dX12_beginLike_12 : decode cX12_beginLike 12 = .ok (.iload_n 1, 1) := by decide +kernel
theorem dX12_beginLike_13 : decode cX12_beginLike 13 = .ok (.istore_n 3, 1) := by decide +kernel
theorem dX12_beginLike_14 : decode cX12_beginLike 14 = .ok (.iload_n 3, 1) := by decide +kernel
theorem dX12_beginLike_15 : decode cX12_beginLike 15 = .ok (.ifCond .lt 30, 3) := by decide +kernel
theorem dX12_beginLike_18 : decode cX12_beginLike 18 = .ok (.aload_n 0, 1) := by decide +kernel
theorem dX12_beginLike_19 : decode cX12_beginLike 19 = .ok (.getfield 31, 3) := by decide +kernel
theorem dX12_beginLike_22 : decode cX12_beginLike 22 = .ok (.iload_n 3, 1) := by decide +kernel
theorem dX12_beginLike_23 : decode cX12_beginLike 23 = .ok (.iaload, 1) := by decide +kernel
theorem dX12_beginLike_24 : decode cX12_beginLike 24 = .ok (.aload_n 0, 1) := by decide +kernel
theorem dX12_beginLike_25 : decode cX12_beginLike 25 = .ok (.getfield 31, 3) := by decide +kernel
theorem dX12_beginLike_28 : decode cX12_beginLike 28 = .ok (.iload_n 1, 1) := by decide +kernel
theorem dX12_beginLike_29 : decode cX12_beginLike 29 = .ok (.iaload, 1) := by decide +kernel
theorem dX12_beginLike_30 : decode cX12_beginLike 30 = .ok (.if_icmp .ne 7, 3) := by decide +kernel
theorem dX12_beginLike_33 : decode cX12_beginLike 33 = .ok (.iload_n 3, 1) := by decide +kernel
theorem dX12_beginLike_34 : decode cX12_beginLike 34 = .ok (.goto 4, 3) := by decide +kernel
theorem dX12_beginLike_37 : decode cX12_beginLike 37 = .ok (.iload_n 2, 1) := by decide +kernel
theorem dX12_beginLike_38 : decode cX12_beginLike 38 = .ok (.istore_n 2, 1) := by decide +kernel
theorem dX12_beginLike_39 : decode cX12_beginLike 39 = .ok (.iinc 3 (-1), 3) := by decide +kernel
theorem dX12_beginLike_42 : decode cX12_beginLike 42 = .ok (.goto (-28), 3) := by decide +kernel
theorem dX12_beginLike_45 : decode cX12_beginLike 45 = .ok (.aload_n 0, 1) := by decide +kernel
theorem dX12_beginLike_46 : decode cX12_beginLike 46 = .ok (.getfield 128, 3) := by decide +kernel
theorem dX12_beginLike_49 : decode cX12_beginLike 49 = .ok (.iload_n 1, 1) := by decide +kernel
theorem dX12_beginLike_50 : decode cX12_beginLike 50 = .ok (.iload_n 2, 1) := by decide +kernel
theorem dX12_beginLike_51 : decode cX12_beginLike 51 = .ok (.iastore, 1) := by decide +kernel
theorem dX12_beginLike_52 : decode cX12_beginLike 52 = .ok (.iinc 1 1, 3) := by decide +kernel
theorem dX12_beginLike_55 : decode cX12_beginLike 55 = .ok (.goto (-53), 3) := by decide +kernel
theorem dX12_beginLike_58 : decode cX12_beginLike 58 = .ok (.return_, 1) := by decide +kernel
def f_X12_beginLike_38 (F P : Nat) (S : xSt) (rec_2 : Nat → Int32 → xDt → Option (xDt)) (rec_14 : Nat → Int32 → Int32 → Int32 → xDt → Option (xDt)) (v0 : Nat) (v1 : Int32) (v3 : Int32) (s0 : Int32) (D : xDt) : Option (xDt) :=
  xlet (v3 + (-1)) fun v3_1 => rec_14 v0 v1 s0 v3_1 D
set_option maxHeartbeats 4000000 in
theorem t_X12_beginLike_38 {F P : Nat} {S : xSt} (hS : xWF S) {rec_2 : Nat → Int32 → xDt → Option (xDt)} (hrec_2 : ∀ {v0 : Nat} {v1 : Int32} {D : xDt} {r : xDt}, xK S v0 12 → rec_2 v0 v1 D = some r → yEx md_X12_beginLike 0 2 [(0, .ref v0), (1, .int v1)] [] S D (xQv S r)) {rec_14 : Nat → Int32 → Int32 → Int32 → xDt → Option (xDt)} (hrec_14 : ∀ {v0 : Nat} {v1 : Int32} {v2 : Int32} {v3 : Int32} {D : xDt} {r : xDt}, xK S v0 12 → rec_14 v0 v1 v2 v3 D = some r → yEx md_X12_beginLike 0 14 [(0, .ref v0), (1, .int v1), (2, .int v2), (3, .int v3)] [] S D (xQv S r)) {v0 : Nat} {v1 : Int32} {v3 : Int32} {s0 : Int32} {D : xDt} {r : xDt} (k0 : xK S v0 12) (h : f_X12_beginLike_38 F P S rec_2 rec_14 v0 v1 v3 s0 D = some r) : yEx md_X12_beginLike 0 38 [(0, .ref v0), (1, .int v1), (3, .int v3)] [.int s0] S D (xQv S r) := by
  unfold f_X12_beginLike_38 at h
  refine y_istore_n s0 rfl [(2, .int s0), (0, .ref v0), (1, .int v1), (3, .int v3)] dX12_beginLike_38 (by show _ < 4; decide) rfl ?_
  refine xlet_e h (fun v3_1 ev3_1 h => ?_)
  refine y_iinc v3_1 ev3_1 (by decide) [(3, .int v3_1), (2, .int s0), (0, .ref v0), (1, .int v1)] dX12_beginLike_39 3 rfl (by show _ < 4; decide) rfl ?_
  refine x_goto 14 dX12_beginLike_42 (by decide) ?_
  refine x_lv (lv' := [(0, .ref v0), (1, .int v1), (2, .int s0), (3, .int v3_1)]) [2, 3, 1, 0] rfl ?_
  exact hrec_14 k0 h

def f_X12_beginLike_14s (F P : Nat) (S : xSt) (rec_2 : Nat → Int32 → xDt → Option (xDt)) (rec_14 : Nat → Int32 → Int32 → Int32 → xDt → Option (xDt)) (v0 : Nat) (v1 : Int32) (v2 : Int32) (v3 : Int32) (D : xDt) : Option (xDt) :=
  if v3 < 0 then (xgrd (xin v1 (xl S (xr S v0 34))) (xlet (xup D.1 (xr S v0 34) (v1).toNatClampNeg v2, D.2) fun D2 => xlet (v1 + 1) fun v1_3 => rec_2 v0 v1_3 D2)) else (xgrd (xin v3 (xl S (xr S v0 2))) (xgrd (xin v1 (xl S (xr S v0 2))) (if (D.1 (xr S v0 2) (v3).toNatClampNeg) = (D.1 (xr S v0 2) (v1).toNatClampNeg) then (f_X12_beginLike_38 F P S rec_2 rec_14 v0 v1 v3 v3 D) else (f_X12_beginLike_38 F P S rec_2 rec_14 v0 v1 v3 v2 D))))
def f_X12_beginLike_14 (F P : Nat) (S : xSt) (rec_2 : Nat → Int32 → xDt → Option (xDt)) : Nat → Nat → Int32 → Int32 → Int32 → xDt → Option (xDt)
  | 0 => fun _ _ _ _ _ => none
  | n + 1 => f_X12_beginLike_14s F P S rec_2 (f_X12_beginLike_14 F P S rec_2 n)
set_option maxHeartbeats 4000000 in
theorem t_X12_beginLike_14s {F P : Nat} {S : xSt} (hS : xWF S) {rec_2 : Nat → Int32 → xDt → Option (xDt)} (hrec_2 : ∀ {v0 : Nat} {v1 : Int32} {D : xDt} {r : xDt}, xK S v0 12 → rec_2 v0 v1 D = some r → yEx md_X12_beginLike 0 2 [(0, .ref v0), (1, .int v1)] [] S D (xQv S r)) {rec_14 : Nat → Int32 → Int32 → Int32 → xDt → Option (xDt)} (hrec_14 : ∀ {v0 : Nat} {v1 : Int32} {v2 : Int32} {v3 : Int32} {D : xDt} {r : xDt}, xK S v0 12 → rec_14 v0 v1 v2 v3 D = some r → yEx md_X12_beginLike 0 14 [(0, .ref v0), (1, .int v1), (2, .int v2), (3, .int v3)] [] S D (xQv S r)) {v0 : Nat} {v1 : Int32} {v2 : Int32} {v3 : Int32} {D : xDt} {r : xDt} (k0 : xK S v0 12) (h : f_X12_beginLike_14s F P S rec_2 rec_14 v0 v1 v2 v3 D = some r) : yEx md_X12_beginLike 0 14 [(0, .ref v0), (1, .int v1), (2, .int v2), (3, .int v3)] [] S D (xQv S r) := by
  unfold f_X12_beginLike_14s at h
  refine x_iload_n dX12_beginLike_14 3 rfl ?_
  refine x_if_lt 45 dX12_beginLike_15 (by decide) (fun c => ?_) (fun c => ?_)
  · rw [if_pos c] at h
    refine x_aload_n dX12_beginLike_45 0 rfl ?_
    refine y_getr (kd := 100) hS fl_RX12_128 dX12_beginLike_46 rfl k0 ?_
    refine x_iload_n dX12_beginLike_49 1 rfl ?_
    refine x_iload_n dX12_beginLike_50 2 rfl ?_
    refine xgrd_e h (fun g1 h => ?_)
    refine xlet_e h (fun D2 eD2 h => ?_)
    refine y_iast dX12_beginLike_51 ((hS.f k0 34 100 rfl).2) g1 eD2 ?_
    refine xlet_e h (fun v1_3 ev1_3 h => ?_)
    refine y_iinc v1_3 ev1_3 (by decide) [(1, .int v1_3), (0, .ref v0), (2, .int v2), (3, .int v3)] dX12_beginLike_52 1 rfl (by show _ < 4; decide) rfl ?_
    refine x_goto 2 dX12_beginLike_55 (by decide) ?_
    refine x_lv (lv' := [(0, .ref v0), (1, .int v1_3)]) [1, 0] rfl ?_
    exact hrec_2 k0 h
  · rw [if_neg c] at h
    refine x_aload_n dX12_beginLike_18 0 rfl ?_
    refine y_getr (kd := 100) hS fl_RX12_31 dX12_beginLike_19 rfl k0 ?_
    refine x_iload_n dX12_beginLike_22 3 rfl ?_
    refine xgrd_e h (fun g4 h => ?_)
    refine y_iald dX12_beginLike_23 ((hS.f k0 2 100 rfl).2) g4 ?_
    refine x_aload_n dX12_beginLike_24 0 rfl ?_
    refine y_getr (kd := 100) hS fl_RX12_31 dX12_beginLike_25 rfl k0 ?_
    refine x_iload_n dX12_beginLike_28 1 rfl ?_
    refine xgrd_e h (fun g5 h => ?_)
    refine y_iald dX12_beginLike_29 ((hS.f k0 2 100 rfl).2) g5 ?_
    refine x_icmp_ne 37 dX12_beginLike_30 (by decide) (fun c => ?_) (fun c => ?_)
    · rw [if_neg c] at h
      refine x_iload_n dX12_beginLike_37 2 rfl ?_
      refine x_lv (lv' := [(0, .ref v0), (1, .int v1), (3, .int v3)]) [0, 1, 3] rfl ?_
      exact t_X12_beginLike_38 hS hrec_2 hrec_14 k0 h
    · rw [if_pos c] at h
      refine x_iload_n dX12_beginLike_33 3 rfl ?_
      refine x_goto 38 dX12_beginLike_34 (by decide) ?_
      refine x_lv (lv' := [(0, .ref v0), (1, .int v1), (3, .int v3)]) [0, 1, 3] rfl ?_
      exact t_X12_beginLike_38 hS hrec_2 hrec_14 k0 h
theorem t_X12_beginLike_14 {F P : Nat} {S : xSt} (hS : xWF S) {rec_2 : Nat → Int32 → xDt → Option (xDt)} (hrec_2 : ∀ {v0 : Nat} {v1 : Int32} {D : xDt} {r : xDt}, xK S v0 12 → rec_2 v0 v1 D = some r → yEx md_X12_beginLike 0 2 [(0, .ref v0), (1, .int v1)] [] S D (xQv S r)) : ∀ (n : Nat) {v0 : Nat} {v1 : Int32} {v2 : Int32} {v3 : Int32} {D : xDt} {r : xDt}, xK S v0 12 → f_X12_beginLike_14 F P S rec_2 n v0 v1 v2 v3 D = some r → yEx md_X12_beginLike 0 14 [(0, .ref v0), (1, .int v1), (2, .int v2), (3, .int v3)] [] S D (xQv S r) := by
  intro n
  induction n with
  | zero => intros; rename_i h; cases h
  | succ n ih =>
    intro v0 v1 v2 v3 D r k0 h
    exact t_X12_beginLike_14s hS hrec_2 (fun k0 h => ih k0 h) k0 h

def f_X12_beginLike_2s (F P : Nat) (S : xSt) (rec_2 : Nat → Int32 → xDt → Option (xDt)) (v0 : Nat) (v1 : Int32) (D : xDt) : Option (xDt) :=
  if (D.1 v0 1) ≤ v1 then (some D) else (f_X12_beginLike_14 F P S rec_2 F v0 v1 v1 v1 D)
def f_X12_beginLike_2 (F P : Nat) (S : xSt) : Nat → Nat → Int32 → xDt → Option (xDt)
  | 0 => fun _ _ _ => none
  | n + 1 => f_X12_beginLike_2s F P S (f_X12_beginLike_2 F P S n)
set_option maxHeartbeats 4000000 in
theorem t_X12_beginLike_2s {F P : Nat} {S : xSt} (hS : xWF S) {rec_2 : Nat → Int32 → xDt → Option (xDt)} (hrec_2 : ∀ {v0 : Nat} {v1 : Int32} {D : xDt} {r : xDt}, xK S v0 12 → rec_2 v0 v1 D = some r → yEx md_X12_beginLike 0 2 [(0, .ref v0), (1, .int v1)] [] S D (xQv S r)) {v0 : Nat} {v1 : Int32} {D : xDt} {r : xDt} (k0 : xK S v0 12) (h : f_X12_beginLike_2s F P S rec_2 v0 v1 D = some r) : yEx md_X12_beginLike 0 2 [(0, .ref v0), (1, .int v1)] [] S D (xQv S r) := by
  unfold f_X12_beginLike_2s at h
  refine x_iload_n dX12_beginLike_2 1 rfl ?_
  refine x_aload_n dX12_beginLike_3 0 rfl ?_
  refine y_geti fl_RX12_7 dX12_beginLike_4 rfl k0 ?_
  refine x_icmp_ge 58 dX12_beginLike_7 (by decide) (fun c => ?_) (fun c => ?_)
  · rw [if_pos c] at h
    obtain rfl := Option.some.inj h
    exact y_vret rfl dX12_beginLike_58
  · rw [if_neg c] at h
    refine x_iload_n dX12_beginLike_10 1 rfl ?_
    refine y_istore_n v1 rfl [(2, .int v1), (0, .ref v0), (1, .int v1)] dX12_beginLike_11 (by show _ < 4; decide) rfl ?_
    refine x_iload_n dX12_beginLike_12 2 rfl ?_
    refine y_istore_n v1 rfl [(3, .int v1), (2, .int v1), (0, .ref v0), (1, .int v1)] dX12_beginLike_13 (by show _ < 4; decide) rfl ?_
    refine x_lv (lv' := [(0, .ref v0), (1, .int v1), (2, .int v1), (3, .int v1)]) [2, 3, 1, 0] rfl ?_
    exact t_X12_beginLike_14 hS hrec_2 F k0 h
theorem t_X12_beginLike_2 {F P : Nat} {S : xSt} (hS : xWF S) : ∀ (n : Nat) {v0 : Nat} {v1 : Int32} {D : xDt} {r : xDt}, xK S v0 12 → f_X12_beginLike_2 F P S n v0 v1 D = some r → yEx md_X12_beginLike 0 2 [(0, .ref v0), (1, .int v1)] [] S D (xQv S r) := by
  intro n
  induction n with
  | zero => intros; rename_i h; cases h
  | succ n ih =>
    intro v0 v1 D r k0 h
    exact t_X12_beginLike_2s hS (fun k0 h => ih k0 h) k0 h

def f_X12_beginLike (F P : Nat) (S : xSt) (v0 : Nat) (D : xDt) : Option (xDt) :=
  f_X12_beginLike_2 F P S F v0 0 D
set_option maxHeartbeats 4000000 in
theorem S_X12_beginLike {F P : Nat} {S : xSt} (hS : xWF S) {v0 : Nat} {D : xDt} {r : xDt} (k0 : xK S v0 12) (h : f_X12_beginLike F P S v0 D = some r) : xSp md_X12_beginLike (0, 0, 0) [.ref v0] (S, D) (xQv S r) := by
  unfold f_X12_beginLike at h
  refine xEntry (by decide) (Nat.le_of_ble_eq_true rfl) ?_
  refine x_lv (lv' := [(0, .ref v0)]) [0] rfl ?_
  refine x_iconst 0 dX12_beginLike_0 (by decide) ?_
  refine y_istore_n 0 rfl [(1, .int 0), (0, .ref v0)] dX12_beginLike_1 (by show _ < 4; decide) rfl ?_
  refine x_lv (lv' := [(0, .ref v0), (1, .int 0)]) [1, 0] rfl ?_
  exact t_X12_beginLike_2 hS F k0 h

theorem dX12_refine_0 : decode cX12_refine 0 = .ok (.iconst 0, 1) := by decide +kernel
theorem dX12_refine_1 : decode cX12_refine 1 = .ok (.istore_n 1, 1) := by decide +kernel
theorem dX12_refine_2 : decode cX12_refine 2 = .ok (.iload_n 1, 1) := by decide +kernel
theorem dX12_refine_3 : decode cX12_refine 3 = .ok (.aload_n 0, 1) := by decide +kernel
theorem dX12_refine_4 : decode cX12_refine 4 = .ok (.getfield 7, 3) := by decide +kernel
theorem dX12_refine_7 : decode cX12_refine 7 = .ok (.if_icmp .ge 45, 3) := by decide +kernel
theorem dX12_refine_10 : decode cX12_refine 10 = .ok (.iload_n 1, 1) := by decide +kernel
theorem dX12_refine_11 : decode cX12_refine 11 = .ok (.istore_n 2, 1) := by decide +kernel
theorem dX12_refine_12 : decode cX12_refine 12 = .ok (.iload_n 1, 1) := by decide +kernel
theorem dX12_refine_13 : decode cX12_refine 13 = .ok (.istore_n 3, 1) := by decide +kernel
theorem dX12_refine_14 : decode cX12_refine 14 = .ok (.iload_n 3, 1) := by decide +kernel
theorem dX12_refine_15 : decode cX12_refine 15 = .ok (.ifCond .lt 24, 3) := by decide +kernel
theorem dX12_refine_18 : decode cX12_refine 18 = .ok (.aload_n 0, 1) := by decide +kernel
theorem dX12_refine_19 : decode cX12_refine 19 = .ok (.iload_n 3, 1) := by decide +kernel
theorem dX12_refine_20 : decode cX12_refine 20 = .ok (.iload_n 1, 1) := by decide +kernel
theorem dX12_refine_21 : decode cX12_refine 21 = .ok (.invokevirtual 277, 3) := by decide +kernel
theorem dX12_refine_24 : decode cX12_refine 24 = .ok (.ifCond .eq 7, 3) := by decide +kernel
theorem dX12_refine_27 : decode cX12_refine 27 = .ok (.iload_n 3, 1) := by decide +kernel
theorem dX12_refine_28 : decode cX12_refine 28 = .ok (.goto 4, 3) := by decide +kernel
theorem dX12_refine_31 : decode cX12_refine 31 = .ok (.iload_n 2, 1) := by decide +kernel
theorem dX12_refine_32 : decode cX12_refine 32 = .ok (.istore_n 2, 1) := by decide +kernel
theorem dX12_refine_33 : decode cX12_refine 33 = .ok (.iinc 3 (-1), 3) := by decide +kernel
theorem dX12_refine_36 : decode cX12_refine 36 = .ok (.goto (-22), 3) := by decide +kernel
theorem dX12_refine_39 : decode cX12_refine 39 = .ok (.aload_n 0, 1) := by decide +kernel
theorem dX12_refine_40 : decode cX12_refine 40 = .ok (.getfield 131, 3) := by decide +kernel
theorem dX12_refine_43 : decode cX12_refine 43 = .ok (.iload_n 1, 1) := by decide +kernel
theorem dX12_refine_44 : decode cX12_refine 44 = .ok (.iload_n 2, 1) := by decide +kernel
theorem dX12_refine_45 : decode cX12_refine 45 = .ok (.iastore, 1) := by decide +kernel
theorem dX12_refine_46 : decode cX12_refine 46 = .ok (.iinc 1 1, 3) := by decide +kernel
theorem dX12_refine_49 : decode cX12_refine 49 = .ok (.goto (-47), 3) := by decide +kernel
theorem dX12_refine_52 : decode cX12_refine 52 = .ok (.iconst 0, 1) := by decide +kernel
theorem dX12_refine_53 : decode cX12_refine 53 = .ok (.istore_n 1, 1) := by decide +kernel
theorem dX12_refine_54 : decode cX12_refine 54 = .ok (.iconst 0, 1) := by decide +kernel
theorem dX12_refine_55 : decode cX12_refine 55 = .ok (.istore_n 2, 1) := by decide +kernel
theorem dX12_refine_56 : decode cX12_refine 56 = .ok (.iload_n 2, 1) := by decide +kernel
theorem dX12_refine_57 : decode cX12_refine 57 = .ok (.aload_n 0, 1) := by decide +kernel
theorem dX12_refine_58 : decode cX12_refine 58 = .ok (.getfield 7, 3) := by decide +kernel
theorem dX12_refine_61 : decode cX12_refine 61 = .ok (.if_icmp .ge 46, 3) := by decide +kernel
theorem dX12_refine_64 : decode cX12_refine 64 = .ok (.iload_n 1, 1) := by decide +kernel
theorem dX12_refine_65 : decode cX12_refine 65 = .ok (.ifCond .ne 18, 3) := by decide +kernel
theorem dX12_refine_68 : decode cX12_refine 68 = .ok (.aload_n 0, 1) := by decide +kernel
theorem dX12_refine_69 : decode cX12_refine 69 = .ok (.getfield 128, 3) := by decide +kernel
theorem dX12_refine_72 : decode cX12_refine 72 = .ok (.iload_n 2, 1) := by decide +kernel
theorem dX12_refine_73 : decode cX12_refine 73 = .ok (.iaload, 1) := by decide +kernel
theorem dX12_refine_74 : decode cX12_refine 74 = .ok (.aload_n 0, 1) := by decide +kernel
theorem dX12_refine_75 : decode cX12_refine 75 = .ok (.getfield 131, 3) := by decide +kernel
theorem dX12_refine_78 : decode cX12_refine 78 = .ok (.iload_n 2, 1) := by decide +kernel
theorem dX12_refine_79 : decode cX12_refine 79 = .ok (.iaload, 1) := by decide +kernel
theorem dX12_refine_80 : decode cX12_refine 80 = .ok (.if_icmp .eq 7, 3) := by decide +kernel
theorem dX12_refine_83 : decode cX12_refine 83 = .ok (.iconst 1, 1) := by decide +kernel
theorem dX12_refine_84 : decode cX12_refine 84 = .ok (.goto 4, 3) := by decide +kernel
theorem dX12_refine_87 : decode cX12_refine 87 = .ok (.iconst 0, 1) := by decide +kernel
theorem dX12_refine_88 : decode cX12_refine 88 = .ok (.istore_n 1, 1) := by decide +kernel
theorem dX12_refine_89 : decode cX12_refine 89 = .ok (.aload_n 0, 1) := by decide +kernel
theorem dX12_refine_90 : decode cX12_refine 90 = .ok (.getfield 128, 3) := by decide +kernel
theorem dX12_refine_93 : decode cX12_refine 93 = .ok (.iload_n 2, 1) := by decide +kernel
theorem dX12_refine_94 : decode cX12_refine 94 = .ok (.aload_n 0, 1) := by decide +kernel
theorem dX12_refine_95 : decode cX12_refine 95 = .ok (.getfield 131, 3) := by decide +kernel
theorem dX12_refine_98 : decode cX12_refine 98 = .ok (.iload_n 2, 1) := by decide +kernel
theorem dX12_refine_99 : decode cX12_refine 99 = .ok (.iaload, 1) := by decide +kernel
theorem dX12_refine_100 : decode cX12_refine 100 = .ok (.iastore, 1) := by decide +kernel
theorem dX12_refine_101 : decode cX12_refine 101 = .ok (.iinc 2 1, 3) := by decide +kernel
theorem dX12_refine_104 : decode cX12_refine 104 = .ok (.goto (-48), 3) := by decide +kernel
theorem dX12_refine_107 : decode cX12_refine 107 = .ok (.iload_n 1, 1) := by decide +kernel
theorem dX12_refine_108 : decode cX12_refine 108 = .ok (.ireturn, 1) := by decide +kernel
def f_X12_refine_32 (F P : Nat) (S : xSt) (rec_2 : Nat → Int32 → xDt → Option (Int32 × xDt)) (rec_14 : Nat → Int32 → Int32 → Int32 → xDt → Option (Int32 × xDt)) (v0 : Nat) (v1 : Int32) (v3 : Int32) (s0 : Int32) (D : xDt) : Option (Int32 × xDt) :=
  xlet (v3 + (-1)) fun v3_1 => rec_14 v0 v1 s0 v3_1 D
set_option maxHeartbeats 4000000 in
theorem t_X12_refine_32 {F P : Nat} {S : xSt} (hS : xWF S) {rec_2 : Nat → Int32 → xDt → Option (Int32 × xDt)} (hrec_2 : ∀ {v0 : Nat} {v1 : Int32} {D : xDt} {r : Int32 × xDt}, xK S v0 12 → rec_2 v0 v1 D = some r → yEx md_X12_refine 3 2 [(0, .ref v0), (1, .int v1)] [] S D (xQi S r)) {rec_14 : Nat → Int32 → Int32 → Int32 → xDt → Option (Int32 × xDt)} (hrec_14 : ∀ {v0 : Nat} {v1 : Int32} {v2 : Int32} {v3 : Int32} {D : xDt} {r : Int32 × xDt}, xK S v0 12 → rec_14 v0 v1 v2 v3 D = some r → yEx md_X12_refine 3 14 [(0, .ref v0), (1, .int v1), (2, .int v2), (3, .int v3)] [] S D (xQi S r)) {v0 : Nat} {v1 : Int32} {v3 : Int32} {s0 : Int32} {D : xDt} {r : Int32 × xDt} (k0 : xK S v0 12) (h : f_X12_refine_32 F P S rec_2 rec_14 v0 v1 v3 s0 D = some r) : yEx md_X12_refine 3 32 [(0, .ref v0), (1, .int v1), (3, .int v3)] [.int s0] S D (xQi S r) := by
  unfold f_X12_refine_32 at h
  refine y_istore_n s0 rfl [(2, .int s0), (0, .ref v0), (1, .int v1), (3, .int v3)] dX12_refine_32 (by show _ < 4; decide) rfl ?_
  refine xlet_e h (fun v3_1 ev3_1 h => ?_)
  refine y_iinc v3_1 ev3_1 (by decide) [(3, .int v3_1), (2, .int s0), (0, .ref v0), (1, .int v1)] dX12_refine_33 3 rfl (by show _ < 4; decide) rfl ?_
  refine x_goto 14 dX12_refine_36 (by decide) ?_
  refine x_lv (lv' := [(0, .ref v0), (1, .int v1), (2, .int s0), (3, .int v3_1)]) [2, 3, 1, 0] rfl ?_
  exact hrec_14 k0 h

def f_X12_refine_14s (F P : Nat) (S : xSt) (rec_2 : Nat → Int32 → xDt → Option (Int32 × xDt)) (rec_14 : Nat → Int32 → Int32 → Int32 → xDt → Option (Int32 × xDt)) (v0 : Nat) (v1 : Int32) (v2 : Int32) (v3 : Int32) (D : xDt) : Option (Int32 × xDt) :=
  if v3 < 0 then (xgrd (xin v1 (xl S (xr S v0 35))) (xlet (xup D.1 (xr S v0 35) (v1).toNatClampNeg v2, D.2) fun D2 => xlet (v1 + 1) fun v1_3 => rec_2 v0 v1_3 D2)) else ((f_X12_areAsBefore F P S v0 v3 v1 D).bind fun q4 => if q4.1 = 0 then (f_X12_refine_32 F P S rec_2 rec_14 v0 v1 v3 v2 q4.2) else (f_X12_refine_32 F P S rec_2 rec_14 v0 v1 v3 v3 q4.2))
def f_X12_refine_14 (F P : Nat) (S : xSt) (rec_2 : Nat → Int32 → xDt → Option (Int32 × xDt)) : Nat → Nat → Int32 → Int32 → Int32 → xDt → Option (Int32 × xDt)
  | 0 => fun _ _ _ _ _ => none
  | n + 1 => f_X12_refine_14s F P S rec_2 (f_X12_refine_14 F P S rec_2 n)
set_option maxHeartbeats 4000000 in
theorem t_X12_refine_14s {F P : Nat} {S : xSt} (hS : xWF S) {rec_2 : Nat → Int32 → xDt → Option (Int32 × xDt)} (hrec_2 : ∀ {v0 : Nat} {v1 : Int32} {D : xDt} {r : Int32 × xDt}, xK S v0 12 → rec_2 v0 v1 D = some r → yEx md_X12_refine 3 2 [(0, .ref v0), (1, .int v1)] [] S D (xQi S r)) {rec_14 : Nat → Int32 → Int32 → Int32 → xDt → Option (Int32 × xDt)} (hrec_14 : ∀ {v0 : Nat} {v1 : Int32} {v2 : Int32} {v3 : Int32} {D : xDt} {r : Int32 × xDt}, xK S v0 12 → rec_14 v0 v1 v2 v3 D = some r → yEx md_X12_refine 3 14 [(0, .ref v0), (1, .int v1), (2, .int v2), (3, .int v3)] [] S D (xQi S r)) {v0 : Nat} {v1 : Int32} {v2 : Int32} {v3 : Int32} {D : xDt} {r : Int32 × xDt} (k0 : xK S v0 12) (h : f_X12_refine_14s F P S rec_2 rec_14 v0 v1 v2 v3 D = some r) : yEx md_X12_refine 3 14 [(0, .ref v0), (1, .int v1), (2, .int v2), (3, .int v3)] [] S D (xQi S r) := by
  unfold f_X12_refine_14s at h
  refine x_iload_n dX12_refine_14 3 rfl ?_
  refine x_if_lt 39 dX12_refine_15 (by decide) (fun c => ?_) (fun c => ?_)
  · rw [if_pos c] at h
    refine x_aload_n dX12_refine_39 0 rfl ?_
    refine y_getr (kd := 100) hS fl_RX12_131 dX12_refine_40 rfl k0 ?_
    refine x_iload_n dX12_refine_43 1 rfl ?_
    refine x_iload_n dX12_refine_44 2 rfl ?_
    refine xgrd_e h (fun g1 h => ?_)
    refine xlet_e h (fun D2 eD2 h => ?_)
    refine y_iast dX12_refine_45 ((hS.f k0 35 100 rfl).2) g1 eD2 ?_
    refine xlet_e h (fun v1_3 ev1_3 h => ?_)
    refine y_iinc v1_3 ev1_3 (by decide) [(1, .int v1_3), (0, .ref v0), (2, .int v2), (3, .int v3)] dX12_refine_46 1 rfl (by show _ < 4; decide) rfl ?_
    refine x_goto 2 dX12_refine_49 (by decide) ?_
    refine x_lv (lv' := [(0, .ref v0), (1, .int v1_3)]) [1, 0] rfl ?_
    exact hrec_2 k0 h
  · rw [if_neg c] at h
    refine x_aload_n dX12_refine_18 0 rfl ?_
    refine x_iload_n dX12_refine_19 3 rfl ?_
    refine x_iload_n dX12_refine_20 1 rfl ?_
    refine xbnd_e h (fun q4 e4 h => ?_)
    refine y_callVi (As := [.int v3, .int v1]) (q := q4) cv_RX12_277 dX12_refine_21 k0 rfl (Nat.le_of_ble_eq_true rfl) (by omega) (S_X12_areAsBefore hS k0 e4) ?_
    refine x_if_eq 31 dX12_refine_24 (by decide) (fun c => ?_) (fun c => ?_)
    · rw [if_pos c] at h
      refine x_iload_n dX12_refine_31 2 rfl ?_
      refine x_lv (lv' := [(0, .ref v0), (1, .int v1), (3, .int v3)]) [0, 1, 3] rfl ?_
      exact t_X12_refine_32 hS hrec_2 hrec_14 k0 h
    · rw [if_neg c] at h
      refine x_iload_n dX12_refine_27 3 rfl ?_
      refine x_goto 32 dX12_refine_28 (by decide) ?_
      refine x_lv (lv' := [(0, .ref v0), (1, .int v1), (3, .int v3)]) [0, 1, 3] rfl ?_
      exact t_X12_refine_32 hS hrec_2 hrec_14 k0 h
theorem t_X12_refine_14 {F P : Nat} {S : xSt} (hS : xWF S) {rec_2 : Nat → Int32 → xDt → Option (Int32 × xDt)} (hrec_2 : ∀ {v0 : Nat} {v1 : Int32} {D : xDt} {r : Int32 × xDt}, xK S v0 12 → rec_2 v0 v1 D = some r → yEx md_X12_refine 3 2 [(0, .ref v0), (1, .int v1)] [] S D (xQi S r)) : ∀ (n : Nat) {v0 : Nat} {v1 : Int32} {v2 : Int32} {v3 : Int32} {D : xDt} {r : Int32 × xDt}, xK S v0 12 → f_X12_refine_14 F P S rec_2 n v0 v1 v2 v3 D = some r → yEx md_X12_refine 3 14 [(0, .ref v0), (1, .int v1), (2, .int v2), (3, .int v3)] [] S D (xQi S r) := by
  intro n
  induction n with
  | zero => intros; rename_i h; cases h
  | succ n ih =>
    intro v0 v1 v2 v3 D r k0 h
    exact t_X12_refine_14s hS hrec_2 (fun k0 h => ih k0 h) k0 h

def f_X12_refine_88 (F P : Nat) (S : xSt) (rec_56 : Nat → Int32 → Int32 → xDt → Option (Int32 × xDt)) (v0 : Nat) (v2 : Int32) (s0 : Int32) (D : xDt) : Option (Int32 × xDt) :=
  xgrd (xin v2 (xl S (xr S v0 35))) (xgrd (xin v2 (xl S (xr S v0 34))) (xlet (xup D.1 (xr S v0 34) (v2).toNatClampNeg (D.1 (xr S v0 35) (v2).toNatClampNeg), D.2) fun D3 => xlet (v2 + 1) fun v2_4 => rec_56 v0 s0 v2_4 D3))
set_option maxHeartbeats 4000000 in
theorem t_X12_refine_88 {F P : Nat} {S : xSt} (hS : xWF S) {rec_56 : Nat → Int32 → Int32 → xDt → Option (Int32 × xDt)} (hrec_56 : ∀ {v0 : Nat} {v1 : Int32} {v2 : Int32} {D : xDt} {r : Int32 × xDt}, xK S v0 12 → rec_56 v0 v1 v2 D = some r → yEx md_X12_refine 3 56 [(0, .ref v0), (1, .int v1), (2, .int v2)] [] S D (xQi S r)) {v0 : Nat} {v2 : Int32} {s0 : Int32} {D : xDt} {r : Int32 × xDt} (k0 : xK S v0 12) (h : f_X12_refine_88 F P S rec_56 v0 v2 s0 D = some r) : yEx md_X12_refine 3 88 [(0, .ref v0), (2, .int v2)] [.int s0] S D (xQi S r) := by
  unfold f_X12_refine_88 at h
  refine y_istore_n s0 rfl [(1, .int s0), (0, .ref v0), (2, .int v2)] dX12_refine_88 (by show _ < 4; decide) rfl ?_
  refine x_aload_n dX12_refine_89 1 rfl ?_
  refine y_getr (kd := 100) hS fl_RX12_128 dX12_refine_90 rfl k0 ?_
  refine x_iload_n dX12_refine_93 2 rfl ?_
  refine x_aload_n dX12_refine_94 1 rfl ?_
  refine y_getr (kd := 100) hS fl_RX12_131 dX12_refine_95 rfl k0 ?_
  refine x_iload_n dX12_refine_98 2 rfl ?_
  refine xgrd_e h (fun g1 h => ?_)
  refine y_iald dX12_refine_99 ((hS.f k0 35 100 rfl).2) g1 ?_
  refine xgrd_e h (fun g2 h => ?_)
  refine xlet_e h (fun D3 eD3 h => ?_)
  refine y_iast dX12_refine_100 ((hS.f k0 34 100 rfl).2) g2 eD3 ?_
  refine xlet_e h (fun v2_4 ev2_4 h => ?_)
  refine y_iinc v2_4 ev2_4 (by decide) [(2, .int v2_4), (1, .int s0), (0, .ref v0)] dX12_refine_101 2 rfl (by show _ < 4; decide) rfl ?_
  refine x_goto 56 dX12_refine_104 (by decide) ?_
  refine x_lv (lv' := [(0, .ref v0), (1, .int s0), (2, .int v2_4)]) [2, 1, 0] rfl ?_
  exact hrec_56 k0 h

def f_X12_refine_83 (F P : Nat) (S : xSt) (rec_56 : Nat → Int32 → Int32 → xDt → Option (Int32 × xDt)) (v0 : Nat) (v2 : Int32) (D : xDt) : Option (Int32 × xDt) :=
  f_X12_refine_88 F P S rec_56 v0 v2 1 D
set_option maxHeartbeats 4000000 in
theorem t_X12_refine_83 {F P : Nat} {S : xSt} (hS : xWF S) {rec_56 : Nat → Int32 → Int32 → xDt → Option (Int32 × xDt)} (hrec_56 : ∀ {v0 : Nat} {v1 : Int32} {v2 : Int32} {D : xDt} {r : Int32 × xDt}, xK S v0 12 → rec_56 v0 v1 v2 D = some r → yEx md_X12_refine 3 56 [(0, .ref v0), (1, .int v1), (2, .int v2)] [] S D (xQi S r)) {v0 : Nat} {v2 : Int32} {D : xDt} {r : Int32 × xDt} (k0 : xK S v0 12) (h : f_X12_refine_83 F P S rec_56 v0 v2 D = some r) : yEx md_X12_refine 3 83 [(0, .ref v0), (2, .int v2)] [] S D (xQi S r) := by
  unfold f_X12_refine_83 at h
  refine x_iconst 1 dX12_refine_83 (by decide) ?_
  refine x_goto 88 dX12_refine_84 (by decide) ?_
  exact t_X12_refine_88 hS hrec_56 k0 h

def f_X12_refine_56s (F P : Nat) (S : xSt) (rec_56 : Nat → Int32 → Int32 → xDt → Option (Int32 × xDt)) (v0 : Nat) (v1 : Int32) (v2 : Int32) (D : xDt) : Option (Int32 × xDt) :=
  if (D.1 v0 1) ≤ v2 then (xgrd (xb v1) (some (v1, D))) else (if v1 = 0 then (xgrd (xin v2 (xl S (xr S v0 34))) (xgrd (xin v2 (xl S (xr S v0 35))) (if (D.1 (xr S v0 34) (v2).toNatClampNeg) = (D.1 (xr S v0 35) (v2).toNatClampNeg) then (f_X12_refine_88 F P S rec_56 v0 v2 0 D) else (f_X12_refine_83 F P S rec_56 v0 v2 D)))) else (f_X12_refine_83 F P S rec_56 v0 v2 D))
def f_X12_refine_56 (F P : Nat) (S : xSt) : Nat → Nat → Int32 → Int32 → xDt → Option (Int32 × xDt)
  | 0 => fun _ _ _ _ => none
  | n + 1 => f_X12_refine_56s F P S (f_X12_refine_56 F P S n)
set_option maxHeartbeats 4000000 in
theorem t_X12_refine_56s {F P : Nat} {S : xSt} (hS : xWF S) {rec_56 : Nat → Int32 → Int32 → xDt → Option (Int32 × xDt)} (hrec_56 : ∀ {v0 : Nat} {v1 : Int32} {v2 : Int32} {D : xDt} {r : Int32 × xDt}, xK S v0 12 → rec_56 v0 v1 v2 D = some r → yEx md_X12_refine 3 56 [(0, .ref v0), (1, .int v1), (2, .int v2)] [] S D (xQi S r)) {v0 : Nat} {v1 : Int32} {v2 : Int32} {D : xDt} {r : Int32 × xDt} (k0 : xK S v0 12) (h : f_X12_refine_56s F P S rec_56 v0 v1 v2 D = some r) : yEx md_X12_refine 3 56 [(0, .ref v0), (1, .int v1), (2, .int v2)] [] S D (xQi S r) := by
  unfold f_X12_refine_56s at h
  refine x_iload_n dX12_refine_56 2 rfl ?_
  refine x_aload_n dX12_refine_57 0 rfl ?_
  refine y_geti fl_RX12_7 dX12_refine_58 rfl k0 ?_
  refine x_icmp_ge 107 dX12_refine_61 (by decide) (fun c => ?_) (fun c => ?_)
  · rw [if_pos c] at h
    refine x_iload_n dX12_refine_107 1 rfl ?_
    refine xgrd_e h (fun g1 h => ?_)
    obtain rfl := Option.some.inj h
    exact y_zret rfl g1 dX12_refine_108
  · rw [if_neg c] at h
    refine x_iload_n dX12_refine_64 1 rfl ?_
    refine x_if_ne 83 dX12_refine_65 (by decide) (fun c => ?_) (fun c => ?_)
    · rw [if_neg c] at h
      refine x_lv (lv' := [(0, .ref v0), (2, .int v2)]) [0, 2] rfl ?_
      exact t_X12_refine_83 hS hrec_56 k0 h
    · rw [if_pos c] at h
      refine x_aload_n dX12_refine_68 0 rfl ?_
      refine y_getr (kd := 100) hS fl_RX12_128 dX12_refine_69 rfl k0 ?_
      refine x_iload_n dX12_refine_72 2 rfl ?_
      refine xgrd_e h (fun g2 h => ?_)
      refine y_iald dX12_refine_73 ((hS.f k0 34 100 rfl).2) g2 ?_
      refine x_aload_n dX12_refine_74 0 rfl ?_
      refine y_getr (kd := 100) hS fl_RX12_131 dX12_refine_75 rfl k0 ?_
      refine x_iload_n dX12_refine_78 2 rfl ?_
      refine xgrd_e h (fun g3 h => ?_)
      refine y_iald dX12_refine_79 ((hS.f k0 35 100 rfl).2) g3 ?_
      refine x_icmp_eq 87 dX12_refine_80 (by decide) (fun c => ?_) (fun c => ?_)
      · rw [if_pos c] at h
        refine x_iconst 0 dX12_refine_87 (by decide) ?_
        refine x_lv (lv' := [(0, .ref v0), (2, .int v2)]) [0, 2] rfl ?_
        exact t_X12_refine_88 hS hrec_56 k0 h
      · rw [if_neg c] at h
        refine x_lv (lv' := [(0, .ref v0), (2, .int v2)]) [0, 2] rfl ?_
        exact t_X12_refine_83 hS hrec_56 k0 h
theorem t_X12_refine_56 {F P : Nat} {S : xSt} (hS : xWF S) : ∀ (n : Nat) {v0 : Nat} {v1 : Int32} {v2 : Int32} {D : xDt} {r : Int32 × xDt}, xK S v0 12 → f_X12_refine_56 F P S n v0 v1 v2 D = some r → yEx md_X12_refine 3 56 [(0, .ref v0), (1, .int v1), (2, .int v2)] [] S D (xQi S r) := by
  intro n
  induction n with
  | zero => intros; rename_i h; cases h
  | succ n ih =>
    intro v0 v1 v2 D r k0 h
    exact t_X12_refine_56s hS (fun k0 h => ih k0 h) k0 h

def f_X12_refine_2s (F P : Nat) (S : xSt) (rec_2 : Nat → Int32 → xDt → Option (Int32 × xDt)) (v0 : Nat) (v1 : Int32) (D : xDt) : Option (Int32 × xDt) :=
  if (D.1 v0 1) ≤ v1 then (f_X12_refine_56 F P S F v0 0 0 D) else (f_X12_refine_14 F P S rec_2 F v0 v1 v1 v1 D)
def f_X12_refine_2 (F P : Nat) (S : xSt) : Nat → Nat → Int32 → xDt → Option (Int32 × xDt)
  | 0 => fun _ _ _ => none
  | n + 1 => f_X12_refine_2s F P S (f_X12_refine_2 F P S n)
set_option maxHeartbeats 4000000 in
theorem t_X12_refine_2s {F P : Nat} {S : xSt} (hS : xWF S) {rec_2 : Nat → Int32 → xDt → Option (Int32 × xDt)} (hrec_2 : ∀ {v0 : Nat} {v1 : Int32} {D : xDt} {r : Int32 × xDt}, xK S v0 12 → rec_2 v0 v1 D = some r → yEx md_X12_refine 3 2 [(0, .ref v0), (1, .int v1)] [] S D (xQi S r)) {v0 : Nat} {v1 : Int32} {D : xDt} {r : Int32 × xDt} (k0 : xK S v0 12) (h : f_X12_refine_2s F P S rec_2 v0 v1 D = some r) : yEx md_X12_refine 3 2 [(0, .ref v0), (1, .int v1)] [] S D (xQi S r) := by
  unfold f_X12_refine_2s at h
  refine x_iload_n dX12_refine_2 1 rfl ?_
  refine x_aload_n dX12_refine_3 0 rfl ?_
  refine y_geti fl_RX12_7 dX12_refine_4 rfl k0 ?_
  refine x_icmp_ge 52 dX12_refine_7 (by decide) (fun c => ?_) (fun c => ?_)
  · rw [if_pos c] at h
    refine x_iconst 0 dX12_refine_52 (by decide) ?_
    refine y_istore_n 0 rfl [(1, .int 0), (0, .ref v0)] dX12_refine_53 (by show _ < 4; decide) rfl ?_
    refine x_iconst 0 dX12_refine_54 (by decide) ?_
    refine y_istore_n 0 rfl [(2, .int 0), (1, .int 0), (0, .ref v0)] dX12_refine_55 (by show _ < 4; decide) rfl ?_
    refine x_lv (lv' := [(0, .ref v0), (1, .int 0), (2, .int 0)]) [2, 1, 0] rfl ?_
    exact t_X12_refine_56 hS F k0 h
  · rw [if_neg c] at h
    refine x_iload_n dX12_refine_10 1 rfl ?_
    refine y_istore_n v1 rfl [(2, .int v1), (0, .ref v0), (1, .int v1)] dX12_refine_11 (by show _ < 4; decide) rfl ?_
    refine x_iload_n dX12_refine_12 2 rfl ?_
    refine y_istore_n v1 rfl [(3, .int v1), (2, .int v1), (0, .ref v0), (1, .int v1)] dX12_refine_13 (by show _ < 4; decide) rfl ?_
    refine x_lv (lv' := [(0, .ref v0), (1, .int v1), (2, .int v1), (3, .int v1)]) [2, 3, 1, 0] rfl ?_
    exact t_X12_refine_14 hS hrec_2 F k0 h
theorem t_X12_refine_2 {F P : Nat} {S : xSt} (hS : xWF S) : ∀ (n : Nat) {v0 : Nat} {v1 : Int32} {D : xDt} {r : Int32 × xDt}, xK S v0 12 → f_X12_refine_2 F P S n v0 v1 D = some r → yEx md_X12_refine 3 2 [(0, .ref v0), (1, .int v1)] [] S D (xQi S r) := by
  intro n
  induction n with
  | zero => intros; rename_i h; cases h
  | succ n ih =>
    intro v0 v1 D r k0 h
    exact t_X12_refine_2s hS (fun k0 h => ih k0 h) k0 h

def f_X12_refine (F P : Nat) (S : xSt) (v0 : Nat) (D : xDt) : Option (Int32 × xDt) :=
  f_X12_refine_2 F P S F v0 0 D
set_option maxHeartbeats 4000000 in
theorem S_X12_refine {F P : Nat} {S : xSt} (hS : xWF S) {v0 : Nat} {D : xDt} {r : Int32 × xDt} (k0 : xK S v0 12) (h : f_X12_refine F P S v0 D = some r) : xSp md_X12_refine (3, 0, 0) [.ref v0] (S, D) (xQi S r) := by
  unfold f_X12_refine at h
  refine xEntry (by decide) (Nat.le_of_ble_eq_true rfl) ?_
  refine x_lv (lv' := [(0, .ref v0)]) [0] rfl ?_
  refine x_iconst 0 dX12_refine_0 (by decide) ?_
  refine y_istore_n 0 rfl [(1, .int 0), (0, .ref v0)] dX12_refine_1 (by show _ < 4; decide) rfl ?_
  refine x_lv (lv' := [(0, .ref v0), (1, .int 0)]) [1, 0] rfl ?_
  exact t_X12_refine_2 hS F k0 h

