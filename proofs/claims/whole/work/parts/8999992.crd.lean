/-! reduce: the class's run -/
theorem xlet_q {α β : Type} (a : α) (f : α → β) : xlet a f = f a := rfl
section
variable {F P : Nat} {D : xDt} {s m f h : Nat}
theorem E_pl0 (w1 : 1 ≤ s) (w2 : s ≤ 13) (w3 : mOK s m) (h3 : D.1 217 3 = nI 0) : f_X7_place F P xS0 217 (nI (tk s m)) D = some (0, D) := by
  rw [e_X7_place, E_signOf (by omega) (m16 w3), Option.bind_some]
  dsimp only
  rw [E_isSaying w1 (by omega) w3, Option.bind_some, if_neg (show ¬ 14 ≤ s by omega), if_pos (show (0 : Int32) = 0 from rfl), if_neg (by dsimp only; rw [h3]; decide)]
theorem E_p94 {v : Int32} (hf : 1 ≤ f) (hf2 : f ≤ 2000) (h3 : D.1 217 3 = nI f) : f_X7_place_94 F P xS0 217 v D = some (1, (xup (xup D.1 217 3 (nI (f - 1))) 218 (f - 1) v, D.2)) := by
  rw [e_X7_place_94, h3, nI_s1 hf]
  simp only [xlet]
  rw [xgrd_in (by omega) (by omega), nI_clamp (by omega)]
theorem E_pl1 (w1 : 1 ≤ s) (w2 : s ≤ 3) (w3 : mOK s m) (hf : 1 ≤ f) (hf2 : f ≤ 2000) (h3 : D.1 217 3 = nI f) (hh : h < 150) (h4 : D.1 217 4 = nI h) : f_X7_place F P xS0 217 (nI (tk s m)) D = some (1, (xup (xup (xup (xup D.1 217 4 (nI (h + 1))) 219 h (nI f)) 217 3 (nI (f - 1))) 218 (f - 1) (nI (tk s m)), D.2)) := by
  rw [e_X7_place, E_signOf (by omega) (m16 w3), Option.bind_some]
  dsimp only
  rw [E_isSaying w1 (by omega) w3, Option.bind_some, if_neg (show ¬ 14 ≤ s by omega), if_pos (show (0 : Int32) = 0 from rfl)]
  dsimp only
  rw [h3, if_pos (show (0 : Int32) < nI f from (nI_ltI (a := 0) (by omega) (by omega)).mpr (by omega)), E_isLeaf w1 (by omega) w3, Option.bind_some, if_pos w2, if_neg (show ¬ (1 : Int32) = 0 by decide)]
  dsimp only
  rw [h4, if_neg (show ¬ (Int32.ofNat 150) ≤ nI h from fun q => by have := (nI_leI (a := 150) (by omega) (by omega)).mp q; omega), nI_1]
  rw [xlet_q, xgrd_in (show h < 150 by omega) (by omega), xlet_q, nI_clamp (by omega)]
  dsimp only
  rw [xup_nk _ _ _ _ _ (show 3 ≠ 4 by omega), h3]
  generalize hg : ((xup (xup D.1 217 4 (nI (h + 1))) 219 h (nI f), D.2) : xDt) = D9
  have g3 : D9.1 217 3 = nI f := by rw [← hg]; dsimp only; rw [xup_na _ _ _ _ _ (by omega), xup_nk _ _ _ _ _ (by omega)]; exact h3
  rw [E_p94 hf hf2 g3, ← hg]
theorem E_pl2 (w1 : 4 ≤ s) (w2 : s ≤ 9) (w3 : mOK s m) (hf : 1 ≤ f) (hf2 : f ≤ 2000) (h3 : D.1 217 3 = nI f) : f_X7_place F P xS0 217 (nI (tk s m)) D = some (1, (xup (xup D.1 217 3 (nI (f - 1))) 218 (f - 1) (nI (tk s m)), D.2)) := by
  rw [e_X7_place, E_signOf (by omega) (m16 w3), Option.bind_some]
  dsimp only
  rw [E_isSaying (by omega) (by omega) w3, Option.bind_some, if_neg (show ¬ 14 ≤ s by omega), if_pos (show (0 : Int32) = 0 from rfl)]
  dsimp only
  rw [h3, if_pos (show (0 : Int32) < nI f from (nI_ltI (a := 0) (by omega) (by omega)).mpr (by omega)), E_isLeaf (by omega) (by omega) w3, Option.bind_some, if_neg (show ¬ s ≤ 3 by omega), if_pos (show (0 : Int32) = 0 from rfl)]
  dsimp only
  rw [e_X7_place_69, E_isJoin (by omega) (by omega) w3, Option.bind_some, if_neg (show ¬ (10 ≤ s ∧ s ≤ 13) by omega), if_pos (show (0 : Int32) = 0 from rfl)]
  exact E_p94 hf hf2 h3
theorem E_pl3 (w1 : 10 ≤ s) (w2 : s ≤ 13) (w3 : mOK s m) (hf : 1 ≤ f) (hf2 : f ≤ 2000) (h3 : D.1 217 3 = nI f) (hh : h + 2 ≤ 150) (h4 : D.1 217 4 = nI (h + 2)) : f_X7_place F P xS0 217 (nI (tk s m)) D = some (1, (xup (xup (xup D.1 217 4 (nI (h + 1))) 217 3 (nI (f - 1))) 218 (f - 1) (nI (tk s m)), D.2)) := by
  rw [e_X7_place, E_signOf (by omega) (m16 w3), Option.bind_some]
  dsimp only
  rw [E_isSaying (by omega) (by omega) w3, Option.bind_some, if_neg (show ¬ 14 ≤ s by omega), if_pos (show (0 : Int32) = 0 from rfl)]
  dsimp only
  rw [h3, if_pos (show (0 : Int32) < nI f from (nI_ltI (a := 0) (by omega) (by omega)).mpr (by omega)), E_isLeaf (by omega) (by omega) w3, Option.bind_some, if_neg (show ¬ s ≤ 3 by omega), if_pos (show (0 : Int32) = 0 from rfl)]
  dsimp only
  rw [e_X7_place_69, E_isJoin (by omega) (by omega) w3, Option.bind_some, if_pos (show 10 ≤ s ∧ s ≤ 13 from ⟨w1, w2⟩), if_neg (show ¬ (1 : Int32) = 0 by decide)]
  dsimp only
  rw [h4, if_neg (show ¬ nI (h + 2) < 2 from fun q => by rw [k2, nI_ltI (by omega) (by omega)] at q; omega), show nI (h + 2) - 1 = nI (h + 1) by rw [nI_s1 (by omega)]; rfl]
  rw [xlet_q]
  generalize hg : ((xup D.1 217 4 (nI (h + 1)), D.2) : xDt) = D9
  have g3 : D9.1 217 3 = nI f := by rw [← hg]; dsimp only; rw [xup_nk _ _ _ _ _ (by omega)]; exact h3
  rw [E_p94 hf hf2 g3, ← hg]
theorem E_pl4 (w1 : 14 ≤ s) (w2 : s ≤ 15) (w3 : mOK s m) {v : Int32} {D' : xDt} (hv : v = 0 ∨ v = 1) (hu : f_X7_unsay F P xS0 217 (nI (sgn s m)) D = some (v, D')) : f_X7_place F P xS0 217 (nI (tk s m)) D = some (v, D') := by
  rw [e_X7_place, E_signOf (by omega) (m16 w3), Option.bind_some]
  dsimp only
  rw [E_isSaying (by omega) (by omega) w3, Option.bind_some, if_pos w1, if_neg (show ¬ (1 : Int32) = 0 by decide)]
  dsimp only
  rw [hu, Option.bind_some]
  rcases hv with rfl | rfl <;> rfl
theorem E_a44 {i n : Nat} (w1 : 1 ≤ s) (hi : i < 2000) (h1 : D.1 203 i = nI (tk s m)) : f_X7_apply_44 F P xS0 (n + 1) 217 202 (nI (i + 1) - 1) D = (f_X7_place F P xS0 217 (nI (tk s m)) D).bind fun q4 => if q4.1 = 0 then (some ((-3), q4.2)) else (f_X7_apply_44 F P xS0 n 217 202 (nI i - 1) q4.2) := by
  rw [e_X7_apply_44, nI_s1 (by omega), Nat.add_sub_cancel, if_neg (nI_pos (by omega)), rr202, ll203, xgrd_in (by omega) (by omega), nI_clamp (by omega), h1]
  simp only [xlet, neg1]
end
/-- the class's state while it reduces -/
def rs (D : xDt) (f h : Nat) : Prop := D.1 217 3 = nI f ∧ D.1 217 4 = nI h
theorem tks_ok : ∀ {t : T}, wfT t → ∀ k, k ∈ tks t → ∃ s m, k = tk s m ∧ 1 ≤ s ∧ s ≤ 15 ∧ mOK s m
  | .leaf, h, _, _ => absurd h (by simp [wfT])
  | .inner s m () l r, hw, k, hk => by
    obtain ⟨w1, w2, w3, w4⟩ := hw
    rw [tks, List.mem_cons, List.mem_append] at hk
    rcases hk with rfl | hk | hk
    · exact ⟨s, m, rfl, w1, w2, w3⟩
    · rcases w4 with ⟨_, rfl, rfl⟩ | ⟨_, _, wl, rfl⟩ | ⟨_, wl, wr⟩
      · exact absurd hk (by simp [tks])
      · exact tks_ok wl k hk
      · exact tks_ok wl k hk
    · rcases w4 with ⟨_, rfl, rfl⟩ | ⟨_, _, wl, rfl⟩ | ⟨_, wl, wr⟩
      · exact absurd hk (by simp [tks])
      · exact absurd hk (by simp [tks])
      · exact tks_ok wr k hk
theorem tk_say {l r : T} {s : Nat} (hs : s = 14 ∨ s = 15) (wr : wfT (trd r)) (pr : plT (trd r)) : tks (trd (bn s 0 l r)) = (if s = 14 then [] else 126 :: tpsh (tks (trd l)) 126) ++ (tks (trd r)).flatMap (tpsh (tks (trd l))) := by
  rcases hs with rfl | rfl
  · rw [trd, if_pos rfl, if_pos rfl, List.nil_append, tpu_tk wr pr]
  · rw [trd, if_neg (by omega), if_pos rfl, if_neg (by omega), ← tpu_tk wr pr]
    simp [tks, tk, tpsh]
theorem E_rrun {F P : Nat} (hF : 10000 < F) : ∀ (t : T) (i f h : Nat) (D : xDt) (fu : Nat), wfT t → tnE t → tkAt (D.1 203) i (tks t) → i + sz t ≤ 2000 → h + sz t ≤ 150 → f ≤ 2000 → rs D f h → (sz (trd t) ≤ f → ∃ D', ch [217, 218, 219, 220, 221] [] D D' ∧ rs D' (f - sz (trd t)) (h + 1) ∧ D'.1 219 h = nI f ∧ (∀ j, j < h → D'.1 219 j = D.1 219 j) ∧ (∀ j, f ≤ j → D'.1 218 j = D.1 218 j) ∧ tkAt (D'.1 218) (f - sz (trd t)) (tks (trd t)) ∧ f_X7_apply_44 F P xS0 (fu + sz t) 217 202 (nI (i + sz t) - 1) D = f_X7_apply_44 F P xS0 fu 217 202 (nI i - 1) D') ∧ (f < sz (trd t) → ∃ D', f_X7_apply_44 F P xS0 (fu + sz t) 217 202 (nI (i + sz t) - 1) D = some (-3, D') ∧ ch [217, 218, 219, 220, 221] [] D D')
  | .leaf, _, _, _, _, _, h, _, _, _, _, _, _ => absurd h (by simp [wfT])
  | .inner s m () l r, i, f, h, D, fu, hw, hn, ht, hi, hk, hf, hr => by
    obtain ⟨w1, w2, w3, w4⟩ := id hw
    obtain ⟨n1, n2, n3⟩ := id hn
    rw [tks, tkAt_cons, tkAt_app] at ht
    obtain ⟨t1, t2, t3⟩ := ht
    rw [tks_len] at t3
    rw [sz] at hi hk
    have zero : ∀ {D1 : xDt} {h1 : Nat}, s ≤ 13 → rs D1 0 h1 → ch [217, 218, 219, 220, 221] [] D D1 → ∃ D', (f_X7_place F P xS0 217 (nI (tk s m)) D1).bind (fun q4 => if q4.1 = 0 then (some ((-3), q4.2)) else (f_X7_apply_44 F P xS0 fu 217 202 (nI i - 1) q4.2)) = some (-3, D') ∧ ch [217, 218, 219, 220, 221] [] D D' := by
      intro D1 h1 c q1 q2
      exact ⟨D1, by rw [E_pl0 w1 c w3 q1.1, Option.bind_some, if_pos rfl], q2⟩
    rcases w4 with ⟨w4, rfl, rfl⟩ | ⟨w4, w5, w6, rfl⟩ | ⟨w4, w5, w6⟩
    · have e : fu + sz (bn s m nil nil) = fu + 1 := rfl
      have e2 : i + sz (bn s m nil nil) = i + 1 := rfl
      have e3 : trd (bn s m nil nil) = bn s m nil nil := by rw [trd, if_neg (by omega), if_neg (by omega)]; rfl
      have e4 : sz (bn s m nil nil) = 1 := rfl
      rw [e, e2, E_a44 w1 (by omega) t1, e3, e4]
      refine ⟨fun hz => ?_, fun hz => ?_⟩
      · rw [E_pl1 w1 w4 w3 hz hf hr.1 (by omega) hr.2, Option.bind_some, if_neg (show ¬ (1 : Int32) = 0 by decide)]
        refine ⟨_, ⟨fun x hx => ?_, fun x _ => ?_⟩, ⟨?_, ?_⟩, ?_, fun j hj => ?_, fun j hj => ?_, ?_, rfl⟩
        · simp only [List.mem_cons, List.not_mem_nil, or_false, not_or] at hx
          dsimp only
          rw [xup_ne _ _ _ _ (by omega), xup_ne _ _ _ _ (by omega), xup_ne _ _ _ _ (by omega), xup_ne _ _ _ _ (by omega)]
        · rfl
        · dsimp only; rw [xup_na _ _ _ _ _ (by omega), xup_at]
        · dsimp only; rw [xup_na _ _ _ _ _ (by omega), xup_nk _ _ _ _ _ (by omega), xup_na _ _ _ _ _ (by omega), xup_at]
        · dsimp only; rw [xup_na _ _ _ _ _ (by omega), xup_na _ _ _ _ _ (by omega), xup_at]
        · dsimp only; rw [xup_na _ _ _ _ _ (by omega), xup_na _ _ _ _ _ (by omega), xup_nk _ _ _ _ _ (by omega), xup_na _ _ _ _ _ (by omega)]
        · dsimp only; rw [xup_nk _ _ _ _ _ (by omega), xup_na _ _ _ _ _ (by omega), xup_na _ _ _ _ _ (by omega), xup_na _ _ _ _ _ (by omega)]
        · refine tkAt_cons.mpr ⟨by dsimp only; rw [xup_at], fun i hi => absurd hi (by simp [tks])⟩
      · have : f = 0 := by omega
        subst this
        exact zero (by omega) hr (ch_rfl _ _ _)
    · have e : fu + sz (bn s m l nil) = fu + 1 + sz l := by rw [sz]; show fu + (1 + sz l + 0) = _; omega
      have e2 : i + sz (bn s m l nil) = i + 1 + sz l := by rw [sz]; show i + (1 + sz l + 0) = _; omega
      have e3 : trd (bn s m l nil) = bn s m (trd l) nil := by rw [trd, if_neg (by omega), if_neg (by omega)]; rfl
      have e4 : sz (bn s m (trd l) nil) = 1 + sz (trd l) := by rw [sz]; rfl
      have ih := E_rrun (F := F) (P := P) hF l (i + 1) f h D (fu + 1) w6 n2 t2 (by omega) (by omega) hf hr
      rw [e, e2, e3, e4]
      by_cases c : sz (trd l) ≤ f
      · obtain ⟨D1, c1, c2, c3, c4, c5, c6, c7⟩ := ih.1 c
        rw [c7, E_a44 w1 (by omega) (by rw [c1.1 203 (by decide)]; exact t1)]
        refine ⟨fun hz => ?_, fun hz => ?_⟩
        · rw [E_pl2 (f := f - sz (trd l)) w4 w5 w3 (by omega) (by omega) c2.1, Option.bind_some, if_neg (show ¬ (1 : Int32) = 0 by decide)]
          refine ⟨_, ⟨fun x hx => ?_, fun x hx => ?_⟩, ⟨?_, ?_⟩, ?_, fun j hj => ?_, fun j hj => ?_, ?_, rfl⟩
          · have := c1.1 x hx
            simp only [List.mem_cons, List.not_mem_nil, or_false, not_or] at hx
            dsimp only
            rw [xup_ne _ _ _ _ (by omega), xup_ne _ _ _ _ (by omega)]
            exact this
          · exact c1.2 x hx
          · dsimp only; rw [xup_na _ _ _ _ _ (by omega), xup_at]; congr 1; omega
          · dsimp only; rw [xup_na _ _ _ _ _ (by omega), xup_nk _ _ _ _ _ (by omega)]; exact c2.2
          · dsimp only; rw [xup_na _ _ _ _ _ (by omega), xup_na _ _ _ _ _ (by omega)]; exact c3
          · dsimp only; rw [xup_na _ _ _ _ _ (by omega), xup_na _ _ _ _ _ (by omega)]; exact c4 j hj
          · dsimp only; rw [xup_nk _ _ _ _ _ (by omega), xup_na _ _ _ _ _ (by omega)]; exact c5 j hj
          · rw [tks]
            refine tkAt_cons.mpr ⟨?_, ?_⟩
            · dsimp only
              rw [show f - (1 + sz (trd l)) = f - sz (trd l) - 1 by omega, xup_at]
            · rw [show f - (1 + sz (trd l)) + 1 = f - sz (trd l) by omega, show tks (trd l) ++ tks nil = tks (trd l) by simp [tks]]
              refine tkAt_congr (fun i hi => ?_) c6
              dsimp only
              rw [xup_nk _ _ _ _ _ (by omega), xup_ne _ _ _ _ (by omega)]
        · refine zero (by omega) (h1 := h + 1) ?_ c1
          rw [show f - sz (trd l) = 0 by omega] at c2
          exact c2
      · refine ⟨fun q => absurd q (by omega), fun _ => ?_⟩
        obtain ⟨D1, c1, c2⟩ := ih.2 (by omega)
        exact ⟨D1, c1, c2⟩
    · have e : fu + sz (bn s m l r) = fu + 1 + sz l + sz r := by rw [sz]; omega
      have e2 : i + sz (bn s m l r) = i + 1 + sz l + sz r := by rw [sz]; omega
      obtain ⟨i1, i2⟩ := trd_w w5 n2
      obtain ⟨i3, i4⟩ := trd_w w6 n3
      have p1 := sz_pos w5
      have p2 := sz_pos w6
      have q1 := sz_pos i1
      have q2 := sz_pos i3
      have hge : sz (trd l) + sz (trd r) ≤ sz (trd (Std.DTreeMap.Internal.Impl.inner s m () l r : T)) := by
        have := tpu_sz q1 i3 i4
        rw [trd]
        by_cases c1 : s = 14
        · rw [if_pos c1]; omega
        rw [if_neg c1]
        by_cases c2 : s = 15
        · rw [if_pos c2]; simp only [sz]; omega
        · rw [if_neg c2]; simp only [sz]; omega
      have ihr := E_rrun (F := F) (P := P) hF r (i + 1 + sz l) f h D (fu + 1 + sz l) w6 n3 t3 (by omega) (by omega) hf hr
      rw [e, e2]
      by_cases c : sz (trd r) ≤ f
      rotate_left
      · refine ⟨fun q => absurd q (by omega), fun _ => ?_⟩
        obtain ⟨D1, c1, c2⟩ := ihr.2 (by omega)
        exact ⟨D1, c1, c2⟩
      obtain ⟨D1, c1, c2, c3, c4, c5, c6, c7⟩ := ihr.1 c
      have ihl := E_rrun (F := F) (P := P) hF l (i + 1) (f - sz (trd r)) (h + 1) D1 (fu + 1) w5 n2 (by rw [c1.1 203 (by decide)]; exact t2) (by omega) (by omega) (by omega) c2
      rw [c7]
      by_cases c' : sz (trd l) ≤ f - sz (trd r)
      rotate_left
      · refine ⟨fun q => absurd q (by omega), fun _ => ?_⟩
        obtain ⟨D2, d1, d2⟩ := ihl.2 (by omega)
        exact ⟨D2, d1, ch_trans c1 d2⟩
      obtain ⟨D2, d1, d2, d3, d4, d5, d6, d7⟩ := ihl.1 c'
      have k12 := ch_trans c1 d1
      rw [d7, E_a44 w1 (by omega) (by rw [k12.1 203 (by decide)]; exact t1)]
      have hrow : tkAt (D2.1 218) (f - sz (trd r)) (tks (trd r)) := tkAt_congr (fun i hi => d5 _ (by omega)) c6
      have hfull : ∀ j, f ≤ j → D2.1 218 j = D.1 218 j := fun j hj => by rw [d5 j (by omega), c5 j hj]
      have hends : ∀ j, j < h → D2.1 219 j = D.1 219 j := fun j hj => by rw [d4 j (by omega), c4 j hj]
      have hend : D2.1 219 h = nI f := by rw [d4 h (by omega)]; exact c3
      by_cases cs : s ≤ 13
      · have e3 : trd (bn s m l r) = bn s m (trd l) (trd r) := by rw [trd, if_neg (by omega), if_neg (by omega)]
        have e4 : sz (bn s m (trd l) (trd r)) = 1 + sz (trd l) + sz (trd r) := by rw [sz]
        rw [e3, e4]
        refine ⟨fun hz => ?_, fun hz => ?_⟩
        · rw [E_pl3 (f := f - sz (trd r) - sz (trd l)) (h := h) w4 cs w3 (by omega) (by omega) d2.1 (by omega) d2.2, Option.bind_some, if_neg (show ¬ (1 : Int32) = 0 by decide)]
          refine ⟨_, ⟨fun x hx => ?_, fun x hx => ?_⟩, ⟨?_, ?_⟩, ?_, fun j hj => ?_, fun j hj => ?_, ?_, rfl⟩
          · have := k12.1 x hx
            simp only [List.mem_cons, List.not_mem_nil, or_false, not_or] at hx
            dsimp only
            rw [xup_ne _ _ _ _ (by omega), xup_ne _ _ _ _ (by omega), xup_ne _ _ _ _ (by omega)]
            exact this
          · exact k12.2 x hx
          · dsimp only; rw [xup_na _ _ _ _ _ (by omega), xup_at]; congr 1; omega
          · dsimp only; rw [xup_na _ _ _ _ _ (by omega), xup_nk _ _ _ _ _ (by omega), xup_at]
          · dsimp only; rw [xup_na _ _ _ _ _ (by omega), xup_na _ _ _ _ _ (by omega), xup_na _ _ _ _ _ (by omega)]; exact hend
          · dsimp only; rw [xup_na _ _ _ _ _ (by omega), xup_na _ _ _ _ _ (by omega), xup_na _ _ _ _ _ (by omega)]; exact hends j hj
          · dsimp only; rw [xup_nk _ _ _ _ _ (by omega), xup_na _ _ _ _ _ (by omega), xup_na _ _ _ _ _ (by omega)]; exact hfull j hj
          · rw [tks]
            refine tkAt_cons.mpr ⟨?_, tkAt_app.mpr ⟨?_, ?_⟩⟩
            · dsimp only
              rw [show f - (1 + sz (trd l) + sz (trd r)) = f - sz (trd r) - sz (trd l) - 1 by omega, xup_at]
            · rw [show f - (1 + sz (trd l) + sz (trd r)) + 1 = f - sz (trd r) - sz (trd l) by omega]
              refine tkAt_congr (fun i hi => ?_) d6
              dsimp only
              rw [xup_nk _ _ _ _ _ (by omega), xup_ne _ _ _ _ (by omega), xup_ne _ _ _ _ (by omega)]
            · rw [tks_len, show f - (1 + sz (trd l) + sz (trd r)) + 1 + sz (trd l) = f - sz (trd r) by omega]
              refine tkAt_congr (fun i hi => ?_) hrow
              dsimp only
              rw [xup_nk _ _ _ _ _ (by omega), xup_ne _ _ _ _ (by omega), xup_ne _ _ _ _ (by omega)]
        · refine zero cs (h1 := h + 1 + 1) ?_ k12
          rw [show f - sz (trd r) - sz (trd l) = 0 by omega] at d2
          exact d2
      · have hs : s = 14 ∨ s = 15 := by omega
        have hm0 : m = 0 := by unfold mOK at w3; omega
        subst hm0
        have u := E_unsay (F := F) (P := P) hF (D := D2) (s := s) (h := h) (f := f - sz (trd r) - sz (trd l)) (mi := f - sz (trd r)) (e := f) (xs := tks (trd l)) (ys := tks (trd r)) hs (by omega) d2.2 d3 hend d2.1 d6 hrow (by rw [tks_len]; omega) (by rw [tks_len]; omega) hf (tks_ok i3) (tks (trd (bn s 0 l r))) (tk_say hs i3 i4)
        rw [tks_len] at u
        refine ⟨fun hz => ?_, fun hz => ?_⟩
        · obtain ⟨D3, u1, u2, u3, u4, u5, u6⟩ := u.1 hz
          rw [E_pl4 (by omega) w2 w3 (Or.inr rfl) u1, Option.bind_some, if_neg (show ¬ (1 : Int32) = 0 by decide)]
          exact ⟨D3, ch_trans k12 (ch_mono u6 (fun x hx => by simp at hx ⊢; omega) (fun _ h => h)), ⟨u2, u3⟩, by rw [u6.1 219 (by decide)]; exact hend, fun j hj => by rw [u6.1 219 (by decide)]; exact hends j hj, fun j hj => by rw [u5 j hj]; exact hfull j hj, u4, rfl⟩
        · obtain ⟨D3, u1, u2⟩ := u.2 hz
          rw [E_pl4 (by omega) w2 w3 (Or.inl rfl) u1, Option.bind_some, if_pos rfl]
          exact ⟨D3, rfl, ch_trans k12 (ch_mono u2 (fun x hx => by simp at hx ⊢; omega) (fun _ h => h))⟩
