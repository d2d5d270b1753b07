/-! decide: the reference's NODES, each once -/
def rkc (N : List T) (b : Nat) (x : T) (v : Int32) : Prop := (x = nil ∧ v = -2) ∨ ∃ j, j < b ∧ N[j]? = some x ∧ v = nI (12800 + j)
def rN (f : Nat → Nat → Int32) (N : List T) : Prop := N.Nodup ∧ f 241 13 = nI (12800 + N.length) ∧ ∀ i x, N[i]? = some x → ∃ s m l r, x = bn s m l r ∧ s < 16 ∧ m < 16 ∧ f 247 (12800 + i) = nI s ∧ f 250 (12800 + i) = nI m ∧ rkc N i l (f 248 (12800 + i)) ∧ rkc N i r (f 249 (12800 + i))
def ext (N N' : List T) : Prop := ∀ (i : Nat) (x : T), N[i]? = some x → N'[i]? = some x
def mfw (D D' : xDt) : Prop := ch [241, 247, 248, 249, 250, 251] [] D D' ∧ (∀ j, j ≠ 13 → D'.1 241 j = D.1 241 j) ∧ ∀ x, x ≠ 241 → ∀ j, j < 12800 → D'.1 x j = D.1 x j
theorem mfw_rfl (D : xDt) : mfw D D := ⟨ch_rfl _ _ _, fun _ _ => rfl, fun _ _ _ _ => rfl⟩
theorem mfw_trans {D D' D'' : xDt} (h : mfw D D') (h' : mfw D' D'') : mfw D D'' := ⟨ch_trans h.1 h'.1, fun j hj => (h'.2.1 j hj).trans (h.2.1 j hj), fun x hx j hj => (h'.2.2 x hx j hj).trans (h.2.2 x hx j hj)⟩
theorem ext_trans {N N' N'' : List T} (h : ext N N') (h' : ext N' N'') : ext N N'' := fun i x hx => h' i x (h i x hx)
theorem lt_of_at {N : List T} {i : Nat} {x : T} (h : N[i]? = some x) : i < N.length := by
  by_cases c : i < N.length
  · exact c
  · rw [List.getElem?_eq_none (by omega)] at h; cases h
theorem rkc_ext {N N' : List T} {b b' : Nat} {x : T} {v : Int32} (h : ext N N') (hb : b ≤ b') (hc : rkc N b x v) : rkc N' b' x v := by
  rcases hc with h1 | ⟨j, h1, h2, h3⟩
  · exact Or.inl h1
  · exact Or.inr ⟨j, by omega, h j x h2, h3⟩
theorem rkc_at {N : List T} {j : Nat} {x : T} (h : N[j]? = some x) : rkc N N.length x (nI (12800 + j)) := Or.inr ⟨j, lt_of_at h, h, rfl⟩
theorem rN_nil {f : Nat → Nat → Int32} {N : List T} (h : rN f N) : nil ∉ N := by
  intro c
  obtain ⟨i, hi⟩ := List.mem_iff_getElem?.mp c
  obtain ⟨s, m, l, r, e, _⟩ := h.2.2 i _ hi
  cases e
theorem rkc_eq {N : List T} (hz : N.length ≤ 70000) (hn : N.Nodup) (h0 : nil ∉ N) {b b' : Nat} {x y : T} {v w : Int32} (h : rkc N b x v) (h' : rkc N b' y w) : v = w ↔ x = y := by
  rcases h with ⟨rfl, rfl⟩ | ⟨j, h1, h2, rfl⟩
  · rcases h' with ⟨rfl, rfl⟩ | ⟨j', h1', h2', rfl⟩
    · simp
    · have := lt_of_at h2'
      constructor
      · intro q
        have h3 : (0 : Int32) ≤ nI (12800 + j') := nI_pos' (by omega)
        rw [← q] at h3; exact absurd h3 (by decide)
      · rintro rfl; exact absurd (List.mem_of_getElem? h2') h0
  · have hj := lt_of_at h2
    rcases h' with ⟨rfl, rfl⟩ | ⟨j', h1', h2', rfl⟩
    · constructor
      · intro q
        have h3 : (0 : Int32) ≤ nI (12800 + j) := nI_pos' (by omega)
        rw [q] at h3; exact absurd h3 (by decide)
      · rintro rfl; exact absurd (List.mem_of_getElem? h2) h0
    · have hj' := lt_of_at h2'
      rw [nI_eq (by omega) (by omega)]
      constructor
      · intro q
        have : j = j' := by omega
        subst this
        rw [h2] at h2'; injection h2'
      · rintro rfl
        have e : j = j' := (List.getElem?_inj hj hn).mp (h2.trans h2'.symm)
        rw [e]
theorem E_nodeS {F P : Nat} {D : xDt} {top : Nat} {s l r m : Int32} (ht : top < 92800) (h13 : D.1 241 13 = nI top) (hl : l = -2 ∨ ∃ j, j < 92800 ∧ l = nI j) (hr : r = -2 ∨ ∃ j, j < 92800 ∧ r = nI j) : ∃ n, f_X12_node F P xS0 241 s l r m D = some (nI top, ndD D top s l r m n) := by
  rw [e_X12_node, h13, xgrd_in ht (by omega), nI_clamp (by omega)]
  simp only [xlet]
  rw [xup_na _ _ _ _ _ (show 241 ≠ 247 by omega), h13, xgrd_in ht (by omega), nI_clamp (by omega), xup_na _ _ _ _ _ (show 241 ≠ 248 by omega), xup_na _ _ _ _ _ (show 241 ≠ 247 by omega), h13, xgrd_in ht (by omega), nI_clamp (by omega), xup_na _ _ _ _ _ (show 241 ≠ 249 by omega), xup_na _ _ _ _ _ (show 241 ≠ 248 by omega), xup_na _ _ _ _ _ (show 241 ≠ 247 by omega), h13, xgrd_in ht (by omega), nI_clamp (by omega)]
  generalize hf : xup (xup (xup (xup D.1 247 top s) 248 top l) 249 top r) 250 top m = f
  have f241 : f 241 13 = nI top := by rw [← hf, xup_na _ _ _ _ _ (by omega), xup_na _ _ _ _ _ (by omega), xup_na _ _ _ _ _ (by omega), xup_na _ _ _ _ _ (by omega)]; exact h13
  have h96 : ∀ y : Int32, f_X12_node_96 F P xS0 241 y (nI top) 251 (f, D.2) = some (nI top, ndD D top s l r m y) := by
    intro y
    rw [e_X12_node_96, show xl xS0 251 = 92800 by decide +kernel, xgrd_in ht (by omega), nI_clamp (by omega)]
    simp only [xlet]
    rw [xup_na _ _ _ _ _ (show 241 ≠ 251 by omega), f241, xup_at, nI_1, nI_s1 (by omega), Nat.add_sub_cancel]
    unfold ndD
    rw [hf]
  have h71 : ∀ x y : Int32, ∃ n, f_X12_node_71 F P xS0 241 y x (f, D.2) = some (nI top, ndD D top s l r m n) := by
    intro x y
    rw [e_X12_node_71]
    simp only [xlet]
    rw [f241]
    by_cases c : x + y ≤ 1000000
    · rw [if_pos c]; exact ⟨_, h96 _⟩
    · rw [if_neg c]; exact ⟨_, h96 _⟩
  have h56 : ∀ x y : Int32, ∃ n, f_X12_node_56 F P xS0 241 r x y (f, D.2) = some (nI top, ndD D top s l r m n) := by
    intro x y
    rw [e_X12_node_56]
    rcases hr with rfl | ⟨j, hj, rfl⟩
    · rw [if_neg (by decide)]; exact h71 _ _
    · rw [if_pos (nI_pos' (by omega)), xgrd_in hj (by omega)]; exact h71 _ _
  rcases hl with rfl | ⟨j, hj, rfl⟩
  · rw [if_neg (by decide)]; exact h56 _ _
  · rw [if_pos (nI_pos' (by omega)), xgrd_in hj (by omega)]; exact h56 _ _
theorem rkc_v {N : List T} (hz : N.length ≤ 70000) {b : Nat} {x : T} {v : Int32} (h : rkc N b x v) : v = -2 ∨ ∃ j, j < 92800 ∧ v = nI j := by
  rcases h with ⟨_, h⟩ | ⟨j, _, h2, h⟩
  · exact Or.inl h
  · exact Or.inr ⟨12800 + j, by have := lt_of_at h2; omega, h⟩
/-- one more NODE -/
theorem rN_add {D : xDt} {N : List T} {s m : Nat} {l r : T} {xl xr n : Int32} (h : rN D.1 N) (hs : s < 16) (hm : m < 16) (hl : rkc N N.length l xl) (hr : rkc N N.length r xr) (hx : bn s m l r ∉ N) : rN (ndD D (12800 + N.length) (nI s) xl xr (nI m) n).1 (N ++ [bn s m l r]) ∧ ext N (N ++ [bn s m l r]) := by
  have he : ext N (N ++ [bn s m l r]) := fun i x hi => by rw [List.getElem?_append_left (lt_of_at hi)]; exact hi
  refine ⟨⟨?_, ?_, fun i x hi => ?_⟩, he⟩
  · rw [List.nodup_append]
    refine ⟨h.1, by simp, fun a ha b hb => ?_⟩
    rw [List.mem_singleton] at hb
    subst hb
    exact fun c => hx (by rw [← c]; exact ha)
  · rw [ndD_13, List.length_append]; rfl
  · by_cases c : i < N.length
    · rw [List.getElem?_append_left c] at hi
      obtain ⟨s', m', l', r', e, h1, h2, h3, h4, h5, h6⟩ := h.2.2 i x hi
      refine ⟨s', m', l', r', e, h1, h2, ?_, ?_, ?_, ?_⟩
      · rw [ndD_o (by omega) (by omega)]; exact h3
      · rw [ndD_o (by omega) (by omega)]; exact h4
      · rw [ndD_o (by omega) (by omega)]; exact rkc_ext he (Nat.le_refl _) h5
      · rw [ndD_o (by omega) (by omega)]; exact rkc_ext he (Nat.le_refl _) h6
    · have hi2 := lt_of_at hi
      rw [List.length_append, List.length_singleton] at hi2
      have : i = N.length := by omega
      subst this
      rw [List.getElem?_append_right (Nat.le_refl _), Nat.sub_self] at hi
      simp only [List.getElem?_cons_zero, Option.some.injEq] at hi
      subst hi
      obtain ⟨t1, t2, t3, t4, _⟩ := ndD_t (D := D) (top := 12800 + N.length) (s := nI s) (l := xl) (r := xr) (m := nI m) (n := n)
      exact ⟨s, m, l, r, rfl, hs, hm, t1, t4, by rw [t2]; exact rkc_ext he (Nat.le_refl _) hl, by rw [t3]; exact rkc_ext he (Nat.le_refl _) hr⟩
theorem mfw_nd {D : xDt} {top : Nat} {s l r m n : Int32} (h : 12800 ≤ top) : mfw D (ndD D top s l r m n) := ⟨⟨fun x hx => by simp at hx; exact ndD_x (by omega) (by omega), fun x _ => rfl⟩, fun j hj => ndD_241 hj, fun x hx j hj => ndD_o hx (by omega)⟩
theorem E_sh5 {F P : Nat} {D : xDt} {N : List T} {s m : Nat} {l r : T} {xl xr : Int32} (hN : rN D.1 N) (hz : N.length ≤ 70000) (hs : s < 16) (hm : m < 16) (hl : rkc N N.length l xl) (hr : rkc N N.length r xr) : ∀ (d i n : Nat), i + d = N.length → d < n → (∀ j, j < i → N[j]? ≠ some (bn s m l r)) → (∃ k, N[k]? = some (bn s m l r) ∧ f_X12_shared_5 F P xS0 n 241 (nI s) xl xr (nI m) (nI (12800 + i)) D = some (nI (12800 + k), D)) ∨ (bn s m l r ∉ N ∧ f_X12_shared_5 F P xS0 n 241 (nI s) xl xr (nI m) (nI (12800 + i)) D = (f_X12_node F P xS0 241 (nI s) xl xr (nI m) D).bind fun q1 => some (q1.1, q1.2))
  | _, _, 0, _, h, _ => absurd h (by omega)
  | 0, i, n + 1, h1, _, h3 => by
    refine Or.inr ⟨fun c => ?_, ?_⟩
    · obtain ⟨j, hj⟩ := List.mem_iff_getElem?.mp c
      exact h3 j (by have := lt_of_at hj; omega) hj
    · rw [e_X12_shared_5, hN.2.1, if_pos (by rw [nI_leI (by omega) (by omega)]; omega)]
  | d + 1, i, n + 1, h1, h2, h3 => by
    have hi : i < N.length := by omega
    obtain ⟨y, hy⟩ : ∃ y, N[i]? = some y := ⟨N[i], List.getElem?_eq_getElem hi⟩
    obtain ⟨s', m', l', r', e, g1, g2, g3, g4, g5, g6⟩ := hN.2.2 i y hy
    have e1 := rkc_eq hz hN.1 (rN_nil hN) g5 hl
    have e2 := rkc_eq hz hN.1 (rN_nil hN) g6 hr
    have e3 : nI s' = nI s ↔ s' = s := nI_eq (by omega) (by omega)
    have e4 : nI m' = nI m ↔ m' = m := nI_eq (by omega) (by omega)
    have next : y ≠ bn s m l r → f_X12_shared_62 F P xS0 (f_X12_shared_5 F P xS0 n) 241 (nI s) xl xr (nI m) (nI (12800 + i)) D = f_X12_shared_5 F P xS0 n 241 (nI s) xl xr (nI m) (nI (12800 + (i + 1))) D := by
      intro _
      rw [e_X12_shared_62, nI_1]
      rfl
    have ih := E_sh5 (F := F) (P := P) hN hz hs hm hl hr d (i + 1) n (by omega) (by omega)
    rw [e_X12_shared_5, hN.2.1, if_neg (by rw [nI_leI (by omega) (by omega)]; omega)]
    rw [xgrd_in (by omega) (by omega), xgrd_in (by omega) (by omega), xgrd_in (by omega) (by omega), xgrd_in (by omega) (by omega), nI_clamp (by omega), g3, g4]
    by_cases c : y = bn s m l r
    · have hc := c
      rw [e] at hc
      injection hc with a1 a2 a3 a4 a5
      rw [if_pos (e3.mpr a1), if_pos (e1.mpr a4), if_pos (e2.mpr a5), if_pos (e4.mpr a2)]
      exact Or.inl ⟨i, by rw [hy, c], rfl⟩
    · have hh : ∀ j, j < i + 1 → N[j]? ≠ some (bn s m l r) := by
        intro j hj q
        by_cases cj : j = i
        · subst cj; rw [hy] at q; injection q with q; exact c q
        · exact h3 j (by omega) q
      have key : ∀ o : Option (Int32 × xDt), o = f_X12_shared_5 F P xS0 n 241 (nI s) xl xr (nI m) (nI (12800 + (i + 1))) D → (∃ k, N[k]? = some (bn s m l r) ∧ o = some (nI (12800 + k), D)) ∨ (bn s m l r ∉ N ∧ o = (f_X12_node F P xS0 241 (nI s) xl xr (nI m) D).bind fun q1 => some (q1.1, q1.2)) := by
        intro o ho
        rw [ho]
        exact ih hh
      by_cases b1 : s' = s
      · rw [if_pos (e3.mpr b1)]
        by_cases b2 : l' = l
        · rw [if_pos (e1.mpr b2)]
          by_cases b3 : r' = r
          · rw [if_pos (e2.mpr b3)]
            by_cases b4 : m' = m
            · subst b1 b2 b3 b4; exact absurd e c
            · rw [if_neg (fun q => b4 (e4.mp q))]; exact key _ (next c)
          · rw [if_neg (fun q => b3 (e2.mp q))]; exact key _ (next c)
        · rw [if_neg (fun q => b2 (e1.mp q))]; exact key _ (next c)
      · rw [if_neg (fun q => b1 (e3.mp q))]; exact key _ (next c)
theorem E_sh {F P : Nat} (hF : 100000 < F) {D : xDt} {N : List T} {s m : Nat} {l r : T} {xl xr : Int32} (hN : rN D.1 N) (hz : N.length < 70000) (hs : s < 16) (hm : m < 16) (hl : rkc N N.length l xl) (hr : rkc N N.length r xr) : ∃ D' N' i, f_X12_shared F P xS0 241 (nI s) xl xr (nI m) D = some (nI (12800 + i), D') ∧ rN D'.1 N' ∧ ext N N' ∧ N'[i]? = some (bn s m l r) ∧ (∀ x, x ∈ N' ↔ x ∈ N ∨ x = bn s m l r) ∧ N'.length ≤ N.length + 1 ∧ mfw D D' ∧ (bn s m l r ∈ N → D' = D ∧ N' = N) := by
  rw [e_X12_shared]
  have h := E_sh5 (F := F) (P := P) hN (by omega) hs hm hl hr N.length 0 F (by omega) (by omega) (fun j hj => absurd hj (by omega))
  rw [Nat.add_zero] at h
  rw [show (12800 : Int32) = nI 12800 from rfl]
  rcases h with ⟨k, hk, e⟩ | ⟨hx, e⟩
  · exact ⟨D, N, k, e, hN, fun _ _ h => h, hk, fun x => ⟨Or.inl, fun q => q.elim (fun q => q) (fun q => by rw [q]; exact List.mem_of_getElem? hk)⟩, by omega, mfw_rfl D, fun _ => ⟨rfl, rfl⟩⟩
  · obtain ⟨n, en⟩ := E_nodeS (F := F) (P := P) (s := nI s) (m := nI m) (show 12800 + N.length < 92800 by omega) hN.2.1 (rkc_v (by omega) hl) (rkc_v (by omega) hr)
    obtain ⟨a1, a2⟩ := rN_add (n := n) hN hs hm hl hr hx
    refine ⟨_, N ++ [bn s m l r], N.length, by rw [e, en]; rfl, a1, a2, by rw [List.getElem?_append_right (Nat.le_refl _), Nat.sub_self]; rfl, fun x => by simp, by simp, mfw_nd (by omega), fun q => absurd q hx⟩
theorem m_bit : ∀ m, m < 16 → ∀ a, a < 4 → ((jishr (nI m) (nI a)) &&& 1 = 1 ↔ m.testBit a = true) := by decide +kernel
theorem a_bit : ∀ a, a < 4 → jishl 1 (nI a) = nI (2 ^ a) := by decide +kernel
theorem a_16 : ∀ a, a < 4 → 2 ^ a < 16 := by decide
theorem tal_nn {m : Nat} {x : T} : ∀ (d a : Nat) (acc : T), (acc ≠ nil ∨ ∃ b, a ≤ b ∧ b < a + d ∧ m.testBit b = true) → tal m x d a acc ≠ nil
  | 0, a, acc, h => by
    rcases h with h | ⟨b, h1, h2, _⟩
    · exact h
    · omega
  | d + 1, a, acc, h => by
    rw [tal]
    by_cases c : m.testBit a = true
    · rw [if_pos c]
      refine tal_nn d (a + 1) _ (Or.inl ?_)
      split <;> exact fun q => nomatch q
    · rw [if_neg c]
      refine tal_nn d (a + 1) acc (h.imp (fun q => q) ?_)
      rintro ⟨b, h1, h2, h3⟩
      refine ⟨b, ?_, by omega, h3⟩
      by_cases e : b = a
      · subst e; exact absurd h3 c
      · omega
theorem E_p123 {F P : Nat} (hF : 100000 < F) {fs : Nat → Int32 → xDt → Option (Int32 × xDt)} {i m p : Nat} {x : T} (hi : i < 12800) (hm : m < 16) : ∀ (d a n : Nat) (acc : T) (v : Int32) (D : xDt) (N : List T), a + d = 4 → d < n → D.1 250 i = nI m → rN D.1 N → N.length + 2 * d < 70000 → N[p]? = some x → rkc N N.length acc v → ∃ D' N' w, f_X12_plain_123 F P xS0 fs n 241 (nI i) (nI (12800 + p)) v (nI a) D = some (w, D') ∧ rN D'.1 N' ∧ ext N N' ∧ rkc N' N'.length (tal m x d a acc) w ∧ (∀ y, y ∈ N' ↔ y ∈ N ∨ y ∈ tall m x d a acc) ∧ N'.length ≤ N.length + (tall m x d a acc).length ∧ mfw D D'
  | _, _, 0, _, _, _, _, _, h, _, _, _, _, _ => absurd h (by omega)
  | 0, a, n + 1, acc, v, D, N, h1, h2, h3, h4, h5, h6, h7 => by
    refine ⟨D, N, v, ?_, h4, fun _ _ h => h, h7, fun y => by simp [tall], by simp [tall], mfw_rfl D⟩
    rw [e_X12_plain_123, if_pos (show (4 : Int32) ≤ nI a from (nI_leI (a := 4) (by omega) (by omega)).mpr (by omega))]
  | d + 1, a, n + 1, acc, v, D, N, h1, h2, h3, h4, h5, h6, h7 => by
    have ha : a < 4 := by omega
    rw [e_X12_plain_123, if_neg (show ¬ (4 : Int32) ≤ nI a from fun q => by have := (nI_leI (a := 4) (by omega) (by omega)).mp q; omega), xgrd_in (by omega) (by omega), nI_clamp (by omega), h3, a_bit a ha]
    by_cases c : m.testBit a = true
    · rw [if_pos ((m_bit m hm a ha).mpr c)]
      obtain ⟨D1, N1, k1, e1, b1, b2, b3, b4, b5, b6, _⟩ := E_sh (F := F) (P := P) hF (s := 5) (m := 2 ^ a) (l := x) (r := nil) (xr := -2) h4 (by omega) (by omega) (a_16 a ha) (rkc_at h6) (Or.inl ⟨rfl, rfl⟩)
      rw [show f_X12_shared F P xS0 241 5 (nI (12800 + p)) (-2) (nI (2 ^ a)) D = some (nI (12800 + k1), D1) from e1, Option.bind_some]
      have m1 : D1.1 250 i = nI m := by rw [b6.2.2 250 (by omega) i hi]; exact h3
      by_cases ca : acc = nil
      · have hv : v = -2 := by
          rcases h7 with ⟨_, h⟩ | ⟨j, _, h, _⟩
          · exact h
          · rw [ca] at h; exact absurd (List.mem_of_getElem? h) (rN_nil h4)
        rw [hv, if_neg (by decide), e_X12_plain_179, e_X12_plain_181, nI_1]
        simp only [xlet]
        obtain ⟨D2, N2, w, e2, c1, c2, c3, c4, c5, c6⟩ := E_p123 (P := P) hF (fs := fs) hi hm d (a + 1) n (tK a x) (nI (12800 + k1)) D1 N1 (by omega) (by omega) m1 b1 (by omega) (b2 p x h6) (rkc_at b3)
        refine ⟨D2, N2, w, e2, c1, ext_trans b2 c2, ?_, fun y => ?_, ?_, mfw_trans b6 c6⟩
        · rw [tal, if_pos c, if_pos (teq_iff.mpr ca)]; exact c3
        · rw [tall, if_pos c, c4, b4, if_pos (teq_iff.mpr ca), if_pos (teq_iff.mpr ca), List.nil_append, List.mem_cons]
          exact or_assoc
        · rw [tall, if_pos c, if_pos (teq_iff.mpr ca), if_pos (teq_iff.mpr ca), List.nil_append, List.length_cons]; omega
      · obtain ⟨j, hj, hj2, rfl⟩ : ∃ j, j < N.length ∧ N[j]? = some acc ∧ v = nI (12800 + j) := by
          rcases h7 with ⟨h, _⟩ | h
          · exact absurd h ca
          · exact h
        have nt : ¬ teq acc nil = true := fun q => ca (teq_iff.mp q)
        rw [if_pos (nI_pos' (by omega))]
        obtain ⟨D2, N2, k2, e2, c1, c2, c3, c4, c5, c6, _⟩ := E_sh (F := F) (P := P) hF (s := 13) (m := 0) (l := acc) (r := tK a x) b1 (by omega) (by omega) (by omega) (rkc_at (b2 j acc hj2)) (rkc_at b3)
        dsimp only
        rw [show f_X12_shared F P xS0 241 13 (nI (12800 + j)) (nI (12800 + k1)) 0 D1 = some (nI (12800 + k2), D2) from e2, Option.bind_some, e_X12_plain_179, e_X12_plain_181, nI_1]
        simp only [xlet]
        obtain ⟨D3, N3, w, e3, d1, d2, d3, d4, d5, d6⟩ := E_p123 (P := P) hF (fs := fs) hi hm d (a + 1) n (bn 13 0 acc (tK a x)) (nI (12800 + k2)) D2 N2 (by omega) (by omega) (by rw [c6.2.2 250 (by omega) i hi]; exact m1) c1 (by omega) (c2 p x (b2 p x h6)) (rkc_at c3)
        refine ⟨D3, N3, w, e3, d1, ext_trans b2 (ext_trans c2 d2), ?_, fun y => ?_, ?_, mfw_trans b6 (mfw_trans c6 d6)⟩
        · rw [tal, if_pos c, if_neg nt]; exact d3
        · rw [tall, if_pos c, d4, c4, b4, if_neg nt, if_neg nt, List.mem_cons, List.mem_append, List.mem_singleton]
          simp only [or_assoc]
        · rw [tall, if_pos c, if_neg nt, if_neg nt, List.length_cons, List.length_append, List.length_singleton]; omega
    · rw [if_neg (fun q => c ((m_bit m hm a ha).mp q)), e_X12_plain_181, nI_1]
      simp only [xlet]
      obtain ⟨D3, N3, w, e3, d1, d2, d3, d4, d5, d6⟩ := E_p123 (P := P) hF (fs := fs) hi hm d (a + 1) n acc v D N (by omega) (by omega) h3 h4 (by omega) h6 h7
      refine ⟨D3, N3, w, e3, d1, d2, ?_, fun y => ?_, ?_, d6⟩
      · rw [tal, if_neg c]; exact d3
      · rw [tall, if_neg c]; exact d4 y
      · rw [tall, if_neg c]; exact d5
