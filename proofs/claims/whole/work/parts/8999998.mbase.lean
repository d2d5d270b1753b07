/-! decide: the reference's BASE -/
def rB (f : Nat → Nat → Int32) (N B : List T) : Prop := B.Nodup ∧ f 241 38 = nI B.length ∧ ∀ k x, B[k]? = some x → ∃ i, N[i]? = some x ∧ f 267 k = nI (12800 + i)
def mfb (D D' : xDt) : Prop := ch [241, 247, 248, 249, 250, 251, 267] [] D D' ∧ (∀ j, j ≠ 13 → j ≠ 38 → D'.1 241 j = D.1 241 j) ∧ ∀ x, 247 ≤ x → x ≤ 251 → ∀ j, j < 12800 → D'.1 x j = D.1 x j
theorem mfb_rfl (D : xDt) : mfb D D := ⟨ch_rfl _ _ _, fun _ _ _ => rfl, fun _ _ _ _ _ => rfl⟩
theorem mfb_trans {D D' D'' : xDt} (h : mfb D D') (h' : mfb D' D'') : mfb D D'' := ⟨ch_trans h.1 h'.1, fun j hj hj2 => (h'.2.1 j hj hj2).trans (h.2.1 j hj hj2), fun x hx hx2 j hj => (h'.2.2 x hx hx2 j hj).trans (h.2.2 x hx hx2 j hj)⟩
theorem mfb_w {D D' : xDt} (h : mfw D D') : mfb D D' := ⟨ch_mono h.1 (fun x hx => by simp at hx ⊢; omega) (fun _ h => h), fun j hj _ => h.2.1 j hj, fun x hx _ j hj => h.2.2 x (by omega) j hj⟩
theorem rN_congr {f g : Nat → Nat → Int32} {N : List T} (h1 : g 241 13 = f 241 13) (h2 : ∀ x, 247 ≤ x → x ≤ 251 → g x = f x) (h : rN f N) : rN g N := by
  refine ⟨h.1, by rw [h1]; exact h.2.1, fun i x hx => ?_⟩
  obtain ⟨s, m, l, r, e, a1, a2, a3, a4, a5, a6⟩ := h.2.2 i x hx
  exact ⟨s, m, l, r, e, a1, a2, by rw [h2 247 (by omega) (by omega)]; exact a3, by rw [h2 250 (by omega) (by omega)]; exact a4, by rw [h2 248 (by omega) (by omega)]; exact a5, by rw [h2 249 (by omega) (by omega)]; exact a6⟩
theorem rB_congr {f g : Nat → Nat → Int32} {N N' B : List T} (h1 : g 241 38 = f 241 38) (h2 : g 267 = f 267) (h3 : ext N N') (h : rB f N B) : rB g N' B := by
  refine ⟨h.1, by rw [h1]; exact h.2.1, fun k x hx => ?_⟩
  obtain ⟨i, a1, a2⟩ := h.2.2 k x hx
  exact ⟨i, h3 i x a1, by rw [h2]; exact a2⟩
theorem E_inB2 {F P : Nat} {D : xDt} {N B : List T} {i : Nat} {x : T} (hN : N.Nodup) (hz : N.length ≤ 70000) (hB : rB D.1 N B) (hl : B.length < 2100) (hx : N[i]? = some x) : ∀ (d k n : Nat), k + d = B.length → d < n → (∀ j, j < k → B[j]? ≠ some x) → (x ∈ B ∧ f_X12_inBase_2 F P xS0 n 241 (nI (12800 + i)) (nI k) D = some D) ∨ (x ∉ B ∧ f_X12_inBase_2 F P xS0 n 241 (nI (12800 + i)) (nI k) D = some (xup (xup D.1 267 B.length (nI (12800 + i))) 241 38 (nI (B.length + 1)), D.2))
  | _, _, 0, _, h, _ => absurd h (by omega)
  | 0, k, n + 1, h1, _, h3 => by
    refine Or.inr ⟨fun c => ?_, ?_⟩
    · obtain ⟨j, hj⟩ := List.mem_iff_getElem?.mp c
      exact h3 j (by have := lt_of_at hj; omega) hj
    · rw [e_X12_inBase_2, hB.2.1, if_pos (by rw [nI_leI (by omega) (by omega)]; omega), xgrd_in hl (by omega), nI_clamp (by omega)]
      simp only [xlet]
      rw [xup_na _ _ _ _ _ (by omega), hB.2.1, nI_1]
  | d + 1, k, n + 1, h1, h2, h3 => by
    have hk : k < B.length := by omega
    obtain ⟨y, hy⟩ : ∃ y, B[k]? = some y := ⟨B[k], List.getElem?_eq_getElem hk⟩
    obtain ⟨j, hj, hj2⟩ := hB.2.2 k y hy
    have := lt_of_at hj
    have := lt_of_at hx
    rw [e_X12_inBase_2, hB.2.1, if_neg (by rw [nI_leI (by omega) (by omega)]; omega), xgrd_in (by omega) (by omega), nI_clamp (by omega), hj2]
    by_cases c : y = x
    · subst c
      have : j = i := (List.getElem?_inj (lt_of_at hj) hN).mp (by rw [hj, hx])
      subst this
      rw [if_pos rfl]
      exact Or.inl ⟨List.mem_of_getElem? hy, rfl⟩
    · rw [if_neg (fun q => by
        rw [nI_eq (by omega) (by omega)] at q
        have : j = i := by omega
        subst this
        rw [hj] at hx; injection hx with hx; exact c hx)]
      simp only [xlet]
      rw [nI_1]
      refine E_inB2 hN hz hB hl hx d (k + 1) n (by omega) (by omega) (fun j hj q => ?_)
      by_cases cj : j = k
      · subst cj; rw [hy] at q; injection q with q; exact c q
      · exact h3 j (by omega) q
theorem E_inB {F P : Nat} (hF : 100000 < F) {D : xDt} {N B : List T} {i : Nat} {x : T} (hN : rN D.1 N) (hz : N.length ≤ 70000) (hB : rB D.1 N B) (hl : B.length < 2100) (hx : N[i]? = some x) : ∃ D' B', f_X12_inBase F P xS0 241 (nI (12800 + i)) D = some D' ∧ rN D'.1 N ∧ rB D'.1 N B' ∧ (∀ y, y ∈ B' ↔ y ∈ B ∨ y = x) ∧ mfb D D' := by
  rw [e_X12_inBase]
  rcases E_inB2 (F := F) (P := P) hN.1 hz hB hl hx B.length 0 F (by omega) (by omega) (fun j hj => absurd hj (by omega)) with ⟨h, e⟩ | ⟨h, e⟩
  · exact ⟨D, B, e, hN, hB, fun y => ⟨Or.inl, fun q => q.elim (fun q => q) (fun q => by rw [q]; exact h)⟩, mfb_rfl D⟩
  · refine ⟨_, B ++ [x], e, rN_congr ?_ (fun a h1 h2 => ?_) hN, ⟨?_, ?_, fun k y hy => ?_⟩, fun y => by simp, ⟨⟨fun a ha => ?_, fun a _ => rfl⟩, fun j h1 h2 => ?_, fun a h1 h2 j _ => ?_⟩⟩
    · dsimp only; rw [xup_nk _ _ _ _ _ (by omega), xup_na _ _ _ _ _ (by omega)]
    · dsimp only; rw [xup_ne _ _ _ _ (by omega), xup_ne _ _ _ _ (by omega)]
    · rw [List.nodup_append]
      refine ⟨hB.1, by simp, fun a ha b hb => ?_⟩
      rw [List.mem_singleton] at hb
      subst hb
      exact fun c => h (by rw [← c]; exact ha)
    · dsimp only; rw [xup_at, List.length_append]; rfl
    · by_cases c : k < B.length
      · rw [List.getElem?_append_left c] at hy
        obtain ⟨j, h1, h2⟩ := hB.2.2 k y hy
        refine ⟨j, h1, ?_⟩
        dsimp only
        rw [xup_na _ _ _ _ _ (by omega), xup_nk _ _ _ _ _ (by omega)]; exact h2
      · have hk := lt_of_at hy
        rw [List.length_append, List.length_singleton] at hk
        have : k = B.length := by omega
        subst this
        rw [List.getElem?_append_right (Nat.le_refl _), Nat.sub_self] at hy
        simp only [List.getElem?_cons_zero, Option.some.injEq] at hy
        subst hy
        exact ⟨i, hx, by dsimp only; rw [xup_na _ _ _ _ _ (by omega), xup_at]⟩
    · simp only [List.mem_cons, List.not_mem_nil, or_false, not_or] at ha
      dsimp only; rw [xup_ne _ _ _ _ (by omega), xup_ne _ _ _ _ (by omega)]
    · dsimp only; rw [xup_nk _ _ _ _ _ h2, xup_na _ _ _ _ _ (by omega)]
    · dsimp only; rw [xup_na _ _ _ _ _ (by omega), xup_na _ _ _ _ _ (by omega)]
theorem E_b99 {F P : Nat} (hF : 100000 < F) {rec : Nat → Int32 → Int32 → Int32 → Int32 → xDt → Option (Int32 × xDt)} {v1 v2 v3 : Int32} {g m : Nat} {l : T} {M M2 : List T} (hm : m < 16) (hM : M.length < 2100) (hM2 : M2.length ≤ 8000) (hK : ∀ b, b < 4 → m.testBit b = true → tK b (bn 8 m l nil) ∈ M ∧ tK b (bn 8 m l nil) ∈ M2) : ∀ (d a n : Nat) (D : xDt) (N B : List T), a + d = 4 → d < n → rN D.1 N → rB D.1 N B → (∀ x, x ∈ B → x ∈ M) → (∀ x, x ∈ N → x ∈ M2) → N[g]? = some (bn 8 m l nil) → ∃ D' N' B', f_X12_decide_99 F P xS0 rec n 241 v1 v2 v3 (nI (12800 + g)) 8 (nI a) D = f_X12_decide_151 F P xS0 rec 241 v1 v2 v3 (nI (12800 + g)) D' ∧ rN D'.1 N' ∧ rB D'.1 N' B' ∧ ext N N' ∧ (∀ x, x ∈ N' ↔ x ∈ N ∨ x ∈ tKs m (bn 8 m l nil) d a) ∧ (∀ x, x ∈ B' ↔ x ∈ B ∨ x ∈ tKs m (bn 8 m l nil) d a) ∧ mfb D D'
  | _, _, 0, _, _, _, _, h, _, _, _, _, _ => absurd h (by omega)
  | 0, a, n + 1, D, N, B, h1, h2, h3, h4, h5, h6, h7 => by
    refine ⟨D, N, B, ?_, h3, h4, fun _ _ h => h, fun x => by simp [tKs], fun x => by simp [tKs], mfb_rfl D⟩
    rw [e_X12_decide_99, if_pos (show (4 : Int32) ≤ nI a from (nI_leI (a := 4) (by omega) (by omega)).mpr (by omega))]
  | d + 1, a, n + 1, D, N, B, h1, h2, h3, h4, h5, h6, h7 => by
    have ha : a < 4 := by omega
    have hNl := sub_len h3.1 h6
    have hBl := sub_len h4.1 h5
    have hg := lt_of_at h7
    obtain ⟨s', m', l', r', e, g1, g2, g3, g4, g5, g6⟩ := h3.2.2 g _ h7
    injection e with a1 a2 a3 a4 a5
    subst a2
    rw [e_X12_decide_99, if_neg (show ¬ (4 : Int32) ≤ nI a from fun q => by have := (nI_leI (a := 4) (by omega) (by omega)).mp q; omega), if_pos rfl, xgrd_in (by omega) (by omega), nI_clamp (by omega), g4, a_bit a ha]
    by_cases c : m.testBit a = true
    · rw [if_pos ((m_bit m hm a ha).mpr c)]
      obtain ⟨D1, N1, k1, e1, b1, b2, b3, b4, b5, b6, _⟩ := E_sh (F := F) (P := P) hF (s := 5) (m := 2 ^ a) (l := bn 8 m l nil) (r := nil) (xr := -2) h3 (by omega) (by omega) (a_16 a ha) (rkc_at h7) (Or.inl ⟨rfl, rfl⟩)
      rw [show f_X12_shared F P xS0 241 5 (nI (12800 + g)) (-2) (nI (2 ^ a)) D = some (nI (12800 + k1), D1) from e1, Option.bind_some]
      have hB1 : rB D1.1 N1 B := rB_congr (b6.2.1 38 (by omega)) (b6.1.1 267 (by decide)) b2 h4
      obtain ⟨D2, B2, e2, c1, c2, c3, c4⟩ := E_inB (F := F) (P := P) hF b1 (by omega) hB1 (by omega) b3
      dsimp only
      rw [e2, Option.bind_some, e_X12_decide_145, nI_1]
      simp only [xlet]
      obtain ⟨D3, N3, B3, e3, d1, d2, d3, d4, d5, d6⟩ := E_b99 (P := P) hF (rec := rec) (v1 := v1) (v2 := v2) (v3 := v3) (g := g) hm hM hM2 hK d (a + 1) n D2 N1 B2 (by omega) (by omega) c1 c2 (fun x hx => by
        rcases (c3 x).mp hx with q | q
        · exact h5 x q
        · rw [q]; exact (hK a ha c).1) (fun x hx => by
        rcases (b4 x).mp hx with q | q
        · exact h6 x q
        · rw [q]; exact (hK a ha c).2) (b2 g _ h7)
      refine ⟨D3, N3, B3, e3, d1, d2, ext_trans b2 d3, fun x => ?_, fun x => ?_, mfb_trans (mfb_w b6) (mfb_trans c4 d6)⟩
      · rw [d4, b4, tKs, if_pos c, List.mem_cons, or_assoc]
      · rw [d5, c3, tKs, if_pos c, List.mem_cons, or_assoc]
    · rw [if_neg (fun q => c ((m_bit m hm a ha).mp q)), e_X12_decide_145, nI_1]
      simp only [xlet]
      obtain ⟨D3, N3, B3, e3, d1, d2, d3, d4, d5, d6⟩ := E_b99 (P := P) hF (rec := rec) (v1 := v1) (v2 := v2) (v3 := v3) (g := g) hm hM hM2 hK d (a + 1) n D N B (by omega) (by omega) h3 h4 h5 h6 h7
      refine ⟨D3, N3, B3, e3, d1, d2, d3, fun x => ?_, fun x => ?_, d6⟩
      · rw [d4, tKs, if_neg c]
      · rw [d5, tKs, if_neg c]
/-- what is of the BASE by one NODE -/
def bof (y : T) : List T := if tsr y = 8 then y :: tKs (mrk y) y 4 0 else if isB (tsr y) = true then [y] else []
def kof8 (y : T) : List T := if tsr y = 8 then tKs (mrk y) y 4 0 else []
theorem E_b56 {F P : Nat} (hF : 100000 < F) {v1 v2 : Int32} {N0 M M2 : List T} (hn0 : N0.Nodup) (hM : M.length < 2100) (hM2 : M2.length ≤ 8000) (hNd : ∀ y, y ∈ N0 → tsr y = 8 → ∃ m l, y = bn 8 m l nil) (hK : ∀ y, y ∈ N0 → (∀ x, x ∈ bof y → x ∈ M) ∧ (∀ x, x ∈ kof8 y → x ∈ M2)) : ∀ (d g n : Nat) (D : xDt) (N B : List T), g + d = N0.length → d < n → rN D.1 N → rB D.1 N B → ext N0 N → (∀ x, x ∈ B ↔ ∃ i y, i < g ∧ N0[i]? = some y ∧ x ∈ bof y) → (∀ x, x ∈ N ↔ x ∈ N0 ∨ ∃ i y, i < g ∧ N0[i]? = some y ∧ x ∈ kof8 y) → (∀ x, x ∈ N0 → x ∈ M2) → ∃ D' N' B', f_X12_decide_56 F P xS0 n 241 v1 v2 (nI (12800 + N0.length)) (nI (12800 + g)) D = (if (D'.1 241 38) ≤ 13 then (f_X12_decide_188 F P xS0 F 241 v1 v2 (D'.1 241 13) (jishl 1 (D'.1 241 38)) 0 0 D') else (some ((-3), D'))) ∧ rN D'.1 N' ∧ rB D'.1 N' B' ∧ ext N0 N' ∧ (∀ x, x ∈ B' ↔ ∃ y, y ∈ N0 ∧ x ∈ bof y) ∧ (∀ x, x ∈ N' ↔ x ∈ N0 ∨ ∃ y, y ∈ N0 ∧ x ∈ kof8 y) ∧ mfb D D'
  | _, _, 0, _, _, _, _, h, _, _, _, _, _, _ => absurd h (by omega)
  | 0, g, n + 1, D, N, B, h1, h2, h3, h4, h5, h6, h7, h8 => by
    have hgl : ∀ (y : T), y ∈ N0 ↔ ∃ i, i < g ∧ N0[i]? = some y := by
      intro y
      rw [List.mem_iff_getElem?]
      constructor
      · rintro ⟨i, hi⟩; exact ⟨i, by have := lt_of_at hi; omega, hi⟩
      · rintro ⟨i, _, hi⟩; exact ⟨i, hi⟩
    have hN0 : N0.length ≤ 70000 := by have := sub_len hn0 h8; omega
    refine ⟨D, N, B, ?_, h3, h4, h5, fun x => ?_, fun x => ?_, mfb_rfl D⟩
    · rw [e_X12_decide_56, if_pos (by rw [nI_leI (by omega) (by omega)]; omega)]
      simp only [xlet]
    · rw [h6]
      constructor
      · rintro ⟨i, y, a, b, c⟩; exact ⟨y, (hgl y).mpr ⟨i, a, b⟩, c⟩
      · rintro ⟨y, a, c⟩
        obtain ⟨i, a, b⟩ := (hgl y).mp a
        exact ⟨i, y, a, b, c⟩
    · rw [h7]
      constructor
      · rintro (h | ⟨i, y, a, b, c⟩)
        · exact Or.inl h
        · exact Or.inr ⟨y, (hgl y).mpr ⟨i, a, b⟩, c⟩
      · rintro (h | ⟨y, a, c⟩)
        · exact Or.inl h
        · obtain ⟨i, a, b⟩ := (hgl y).mp a
          exact Or.inr ⟨i, y, a, b, c⟩
  | d + 1, g, n + 1, D, N, B, h1, h2, h3, h4, h5, h6, h7, h8 => by
    have hg0 : g < N0.length := by omega
    obtain ⟨y, hy⟩ : ∃ y, N0[g]? = some y := ⟨N0[g], List.getElem?_eq_getElem hg0⟩
    have hyN := h5 g y hy
    have hyM : y ∈ N0 := List.mem_of_getElem? hy
    have hg := lt_of_at hyN
    have hNM : ∀ x, x ∈ N → x ∈ M2 := fun x hx => by
      rcases (h7 x).mp hx with q | ⟨i, z, _, q1, q2⟩
      · exact h8 x q
      · exact (hK z (List.mem_of_getElem? q1)).2 x q2
    have hBM : ∀ x, x ∈ B → x ∈ M := fun x hx => by
      obtain ⟨i, z, _, q1, q2⟩ := (h6 x).mp hx
      exact (hK z (List.mem_of_getElem? q1)).1 x q2
    have hNl := sub_len h3.1 hNM
    have hBl := sub_len h4.1 hBM
    obtain ⟨s, m, l, r, e, g1, g2, g3, g4, g5, g6⟩ := h3.2.2 g _ hyN
    -- one more is done
    have fin : ∀ (D1 : xDt) (N1 B1 : List T), rN D1.1 N1 → rB D1.1 N1 B1 → ext N N1 → (∀ x, x ∈ B1 ↔ x ∈ B ∨ x ∈ bof y) → (∀ x, x ∈ N1 ↔ x ∈ N ∨ x ∈ kof8 y) → mfb D D1 → ∃ D' N' B', f_X12_decide_151 F P xS0 (f_X12_decide_56 F P xS0 n) 241 v1 v2 (nI (12800 + N0.length)) (nI (12800 + g)) D1 = (if (D'.1 241 38) ≤ 13 then (f_X12_decide_188 F P xS0 F 241 v1 v2 (D'.1 241 13) (jishl 1 (D'.1 241 38)) 0 0 D') else (some ((-3), D'))) ∧ rN D'.1 N' ∧ rB D'.1 N' B' ∧ ext N0 N' ∧ (∀ x, x ∈ B' ↔ ∃ y, y ∈ N0 ∧ x ∈ bof y) ∧ (∀ x, x ∈ N' ↔ x ∈ N0 ∨ ∃ y, y ∈ N0 ∧ x ∈ kof8 y) ∧ mfb D D' := by
      intro D1 N1 B1 a1 a2 a3 a4 a5 a6
      obtain ⟨D', N', B', e', b1, b2, b3, b4, b5, b6⟩ := E_b56 (P := P) hF (v1 := v1) (v2 := v2) hn0 hM hM2 hNd hK d (g + 1) n D1 N1 B1 (by omega) (by omega) a1 a2 (ext_trans h5 a3) (fun x => by
        rw [a4, h6]
        constructor
        · rintro (⟨i, z, q1, q2, q3⟩ | q)
          · exact ⟨i, z, by omega, q2, q3⟩
          · exact ⟨g, y, by omega, hy, q⟩
        · rintro ⟨i, z, q1, q2, q3⟩
          by_cases c : i = g
          · subst c; rw [hy] at q2; injection q2 with q2; subst q2; exact Or.inr q3
          · exact Or.inl ⟨i, z, by omega, q2, q3⟩) (fun x => by
        rw [a5, h7]
        constructor
        · rintro ((q | ⟨i, z, q1, q2, q3⟩) | q)
          · exact Or.inl q
          · exact Or.inr ⟨i, z, by omega, q2, q3⟩
          · exact Or.inr ⟨g, y, by omega, hy, q⟩
        · rintro (q | ⟨i, z, q1, q2, q3⟩)
          · exact Or.inl (Or.inl q)
          · by_cases c : i = g
            · subst c; rw [hy] at q2; injection q2 with q2; subst q2; exact Or.inr q3
            · exact Or.inl (Or.inr ⟨i, z, by omega, q2, q3⟩)) h8
      refine ⟨D', N', B', ?_, b1, b2, b3, b4, b5, mfb_trans a6 b6⟩
      rw [e_X12_decide_151, nI_1]
      exact e'
    have not8 : ∀ (D1 : xDt), s ≠ 8 → f_X12_decide_96 F P xS0 (f_X12_decide_56 F P xS0 n) 241 v1 v2 (nI (12800 + N0.length)) (nI (12800 + g)) (nI s) D1 = f_X12_decide_151 F P xS0 (f_X12_decide_56 F P xS0 n) 241 v1 v2 (nI (12800 + N0.length)) (nI (12800 + g)) D1 := by
      intro D1 c
      obtain ⟨n', hn'⟩ : ∃ n', F = n' + 1 := ⟨F - 1, by omega⟩
      have : ∀ n', f_X12_decide_99 F P xS0 (f_X12_decide_56 F P xS0 n) (n' + 1) 241 v1 v2 (nI (12800 + N0.length)) (nI (12800 + g)) (nI s) 0 D1 = f_X12_decide_151 F P xS0 (f_X12_decide_56 F P xS0 n) 241 v1 v2 (nI (12800 + N0.length)) (nI (12800 + g)) D1 := fun n' => by
        rw [e_X12_decide_99, if_neg (show ¬ (4 : Int32) ≤ 0 by decide), if_neg (show ¬ nI s = 8 from fun q => c ((nI_eq (b := 8) (by omega) (by omega)).mp q))]
      have h := this n'
      rw [← hn'] at h
      rw [e_X12_decide_96]
      exact h
    have hsy : tsr y = s := by rw [e]; rfl
    have hN0 : N0.length ≤ 70000 := by have := sub_len hn0 h8; omega
    rw [e_X12_decide_56, if_neg (by rw [nI_leI (by omega) (by omega)]; omega), xgrd_in (by omega) (by omega), nI_clamp (by omega), g3]
    simp only [xlet]
    by_cases cb : isB s = true
    · -- of the BASE
      have e90 : (if nI s = 1 then (f_X12_decide_90 F P xS0 (f_X12_decide_56 F P xS0 n) 241 v1 v2 (nI (12800 + N0.length)) (nI (12800 + g)) (nI s) D) else (if nI s = 5 then (f_X12_decide_90 F P xS0 (f_X12_decide_56 F P xS0 n) 241 v1 v2 (nI (12800 + N0.length)) (nI (12800 + g)) (nI s) D) else (if nI s = 8 then (f_X12_decide_90 F P xS0 (f_X12_decide_56 F P xS0 n) 241 v1 v2 (nI (12800 + N0.length)) (nI (12800 + g)) (nI s) D) else (f_X12_decide_96 F P xS0 (f_X12_decide_56 F P xS0 n) 241 v1 v2 (nI (12800 + N0.length)) (nI (12800 + g)) (nI s) D)))) = f_X12_decide_90 F P xS0 (f_X12_decide_56 F P xS0 n) 241 v1 v2 (nI (12800 + N0.length)) (nI (12800 + g)) (nI s) D := by
        have : s = 1 ∨ s = 5 ∨ s = 8 := by
          unfold isB at cb
          simp only [Bool.or_eq_true, decide_eq_true_eq] at cb
          omega
        rcases this with q | q | q
        · rw [if_pos (by rw [q]; rfl)]
        · rw [q, if_neg (show ¬ nI 5 = 1 by decide), if_pos (show nI 5 = 5 from rfl)]
        · rw [q, if_neg (show ¬ nI 8 = 1 by decide), if_neg (show ¬ nI 8 = 5 by decide), if_pos (show nI 8 = 8 from rfl)]
      rw [e90, e_X12_decide_90]
      obtain ⟨D2, B2, e2, c1, c2, c3, c4⟩ := E_inB (F := F) (P := P) hF h3 (by omega) h4 (by omega) hyN
      rw [e2, Option.bind_some]
      by_cases c8 : s = 8
      · obtain ⟨m', l', ey⟩ := hNd y hyM (by omega)
        have ey2 := ey
        rw [e] at ey2
        injection ey2 with q1 q2 q3 q4 q5
        subst q2
        have hyK : ∀ x, x ∈ bof y ↔ x = y ∨ x ∈ tKs m y 4 0 := by
          intro x
          rw [bof, if_pos (by omega), List.mem_cons, show mrk y = m by rw [ey]; rfl]
        have hyK8 : ∀ x, x ∈ kof8 y ↔ x ∈ tKs m y 4 0 := by
          intro x
          rw [kof8, if_pos (by omega), show mrk y = m by rw [ey]; rfl]
        rw [e_X12_decide_96, c8]
        obtain ⟨D3, N3, B3, e3, d1, d2, d3, d4, d5, d6⟩ := E_b99 (F := F) (P := P) hF (rec := f_X12_decide_56 F P xS0 n) (v1 := v1) (v2 := v2) (v3 := nI (12800 + N0.length)) (g := g) (m := m) (l := l') (M := M) (M2 := M2) g2 hM hM2 (fun b hb hbt => by
          have hmem : tK b y ∈ tKs m y 4 0 := (tKs_mem 4 0).mpr ⟨b, by omega, by omega, hbt, rfl⟩
          rw [← ey]
          exact ⟨(hK y hyM).1 _ ((hyK _).mpr (Or.inr hmem)), (hK y hyM).2 _ ((hyK8 _).mpr hmem)⟩) 4 0 F D2 N B2 (by omega) (by omega) c1 c2 (fun x hx => by
          rcases (c3 x).mp hx with q | q
          · exact hBM x q
          · exact (hK y hyM).1 x ((hyK x).mpr (Or.inl q))) hNM (by rw [← ey]; exact hyN)
        rw [show f_X12_decide_99 F P xS0 (f_X12_decide_56 F P xS0 n) F 241 v1 v2 (nI (12800 + N0.length)) (nI (12800 + g)) (nI 8) 0 D2 = _ from e3]
        rw [← ey] at d4 d5
        exact fin D3 N3 B3 d1 d2 d3 (fun x => by rw [d5, c3, hyK, or_assoc]) (fun x => by rw [d4, hyK8]) (mfb_trans c4 d6)
      · rw [not8 D2 c8]
        have hb1 : bof y = [y] := by rw [bof, if_neg (by omega), if_pos (by rw [hsy]; exact cb)]
        have hb2 : kof8 y = [] := by rw [kof8, if_neg (by omega)]
        exact fin D2 N B2 c1 c2 (fun _ _ h => h) (fun x => by rw [c3, hb1, List.mem_singleton]) (fun x => by rw [hb2]; simp) c4
    · have hns : s ≠ 1 ∧ s ≠ 5 ∧ s ≠ 8 := by
        unfold isB at cb
        simp only [Bool.or_eq_true, decide_eq_true_eq] at cb
        omega
      rw [if_neg (show ¬ nI s = 1 from fun q => hns.1 ((nI_eq (b := 1) (by omega) (by omega)).mp q)), if_neg (show ¬ nI s = 5 from fun q => hns.2.1 ((nI_eq (b := 5) (by omega) (by omega)).mp q)), if_neg (show ¬ nI s = 8 from fun q => hns.2.2 ((nI_eq (b := 8) (by omega) (by omega)).mp q)), not8 D hns.2.2]
      have hb1 : bof y = [] := by rw [bof, if_neg (by omega), if_neg (by rw [hsy]; exact cb)]
      have hb2 : kof8 y = [] := by rw [kof8, if_neg (by omega)]
      exact fin D N B h3 h4 (fun _ _ h => h) (fun x => by rw [hb1]; simp) (fun x => by rw [hb2]; simp) (mfb_rfl D)
