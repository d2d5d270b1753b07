/-! decide: the class builds -/
theorem ob_congr {α β : Type} {o : Option α} {f g : α → Option β} (h : ∀ q, f q = g q) : o.bind f = o.bind g := by rw [funext h]
theorem E_bstep {F P : Nat} {fu s m i k1 : Nat} {D1 : xDt} (w1 : 1 ≤ s) (w2 : s ≤ 15) (w3 : mOK s m) (hi : i < 2000) (g1 : D1.1 224 9 = 0) (g2 : D1.1 203 i = nI (tk s m)) : f_X8_build_32 F P xS0 (fu + 1) 224 202 (nI k1) (nI (i + 1) - 1) D1 = (if (if s ≤ 3 then (1 : Int32) else 0) = 0 then (f_X8_build_95 F P xS0 (f_X8_build_32 F P xS0 fu) 224 202 (nI k1) (nI i) (nI (tk s m)) (nI (sgn s m)) D1) else (if (Int32.ofNat 2000) ≤ nI k1 then (f_X8_build_95 F P xS0 (f_X8_build_32 F P xS0 fu) 224 202 (nI k1) (nI i) (nI (tk s m)) (nI (sgn s m)) D1) else ((f_X8_make F P xS0 224 (nI (tk s m)) 0 0 D1).bind fun q8 => xgrd (xin (nI k1) 2000) (f_X8_build_32 F P xS0 fu 224 202 (nI k1 + 1) (nI i - 1) (xup q8.2.1 231 (nI k1).toNatClampNeg q8.1, q8.2.2))))) := by
  have hm := m16 w3
  rw [e_X8_build_32, nI_s1 (show 1 ≤ i + 1 by omega), Nat.add_sub_cancel, if_neg (show ¬ nI i < 0 from nI_pos (by omega)), g1, if_pos (show (0 : Int32) = 0 from rfl), rr202, ll203, xgrd_in (show i < 2000 from hi) (by omega), nI_clamp (show i < 2 ^ 31 by omega), g2, xlet_q, E_signOf (by omega) hm, Option.bind_some]
  dsimp only
  rw [E_isLeaf w1 w2 w3, Option.bind_some]
  dsimp only
  by_cases c : s ≤ 3
  · rw [if_pos c, if_neg (show ¬ (1 : Int32) = 0 by decide), if_neg (show ¬ (1 : Int32) = 0 by decide)]
    by_cases c2 : (Int32.ofNat 2000) ≤ nI k1
    · rw [if_pos c2, if_pos c2]
    · rw [if_neg c2, if_neg c2, xlet_q]
      refine ob_congr (fun q8 => ?_)
      rw [xlet_q, e_X8_build_169, xlet_q, neg1]
  · rw [if_neg c, if_pos (show (0 : Int32) = 0 from rfl), if_pos (show (0 : Int32) = 0 from rfl)]
