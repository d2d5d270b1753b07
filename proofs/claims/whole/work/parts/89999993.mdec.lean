/-! decide: the reference's answer -/
theorem tall_l {m : Nat} {x : T} : ∀ (d a : Nat) (acc y : T), y ∈ tall m x d a acc → tsr y = 5 → lft y = x
  | 0, _, _, _, h, _ => absurd h (by simp [tall])
  | d + 1, a, acc, y, h, h5 => by
    rw [tall] at h
    split at h
    · rw [List.mem_cons, List.mem_append] at h
      rcases h with rfl | h | h
      · rfl
      · split at h
        · exact absurd h (by simp)
        · rw [List.mem_singleton] at h; subst h; exact absurd h5 (by simp [tsr])
      · exact tall_l _ _ _ _ h h5
    · exact tall_l _ _ _ _ h h5
theorem rts_8 : ∀ (t : T), wfT t → ∀ y, y ∈ rts t → (tsr y = 8 → ∃ m l, y = bn 8 m l nil) ∧ (tsr y = 5 ∨ tsr y = 8 → lft y ≠ nil)
  | .leaf, h, _, _ => absurd h (by simp [wfT])
  | .inner s m () l r, hw, y, hy => by
    obtain ⟨w1, w2, w3, w4⟩ := hw
    have ihl : ∀ y, y ∈ rts l → (tsr y = 8 → ∃ m l, y = bn 8 m l nil) ∧ (tsr y = 5 ∨ tsr y = 8 → lft y ≠ nil) := by
      rcases w4 with ⟨_, rfl, _⟩ | ⟨_, _, wl, _⟩ | ⟨_, wl, _⟩
      · intro y hy; exact absurd hy (by simp [rts])
      · exact rts_8 l wl
      · exact rts_8 l wl
    have ihr : ∀ y, y ∈ rts r → (tsr y = 8 → ∃ m l, y = bn 8 m l nil) ∧ (tsr y = 5 ∨ tsr y = 8 → lft y ≠ nil) := by
      rcases w4 with ⟨_, _, rfl⟩ | ⟨_, _, _, rfl⟩ | ⟨_, _, wr⟩
      · intro y hy; exact absurd hy (by simp [rts])
      · intro y hy; exact absurd hy (by simp [rts])
      · exact rts_8 r wr
    have hln : 4 ≤ s → tp l ≠ nil := by
      intro h
      rcases w4 with ⟨h', _⟩ | ⟨_, _, wl, _⟩ | ⟨_, wl, _⟩
      · omega
      · exact tp_nn wl
      · exact tp_nn wl
    rw [rts] at hy
    by_cases c6 : s = 6
    · rw [if_pos c6, List.mem_append] at hy
      rcases hy with hy | hy
      · exact ihl y hy
      · simp only [List.mem_cons, List.not_mem_nil, or_false] at hy
        rcases hy with rfl | rfl | rfl
        · exact ⟨fun q => absurd q (by simp [tsr]), fun q => absurd q (by simp [tsr])⟩
        · exact ⟨fun q => absurd q (by simp [tsr]), fun _ q => nomatch q⟩
        · exact ⟨fun q => absurd q (by simp [tsr]), fun q => absurd q (by simp [tsr])⟩
    rw [if_neg c6] at hy
    by_cases c7 : s = 7
    · rw [if_pos c7, List.mem_append] at hy
      rcases hy with hy | hy
      · exact ihl y hy
      · have h5 := tall_s _ _ _ _ hy
        refine ⟨fun q => by omega, fun q => ?_⟩
        rw [tall_l _ _ _ _ hy (by omega)]
        exact hln (by omega)
    rw [if_neg c7, List.mem_append, List.mem_append, List.mem_singleton] at hy
    rcases hy with (hy | hy) | rfl
    · exact ihl y hy
    · exact ihr y hy
    · refine ⟨fun q => ?_, fun q => ?_⟩
      · have hs : s = 8 := q
        have hr : r = nil := by
          rcases w4 with ⟨_, _, rfl⟩ | ⟨_, _, _, rfl⟩ | ⟨h, _, _⟩
          · rfl
          · rfl
          · omega
        exact ⟨m, tp l, by rw [hs, hr]; rfl⟩
      · have hs : s = 5 ∨ s = 8 := q
        exact hln (by omega)
theorem isDC : ∀ s, s < 16 → ((jishr 49664 (nI s)) &&& 1 = 1 ↔ pS 2 s = true) := by decide +kernel
def mfd (D D' : xDt) : Prop := ch [241, 247, 248, 249, 250, 251, 267, 268, 269, 270, 271, 272] [] D D' ∧ (∀ j, j ≠ 13 → j ≠ 38 → D'.1 241 j = D.1 241 j) ∧ ∀ x, 247 ≤ x → x ≤ 251 → ∀ j, j < 12800 → D'.1 x j = D.1 x j
theorem E_mdecide {F P : Nat} (hF : 100000 < F) (hP : 2005 < P) {D : xDt} {t : T} {i h : Nat} {r : Nat → Int32} (hr : dSp t r) (hi : i < 6) (hw : wfT t) (hz : sz t ≤ 2000) (hp : sz t ≤ 150 ∨ plT t) (hh : h < 2000) (h14 : D.1 241 14 = nI h) (hd : nd D.1 0 t h) : ∃ D', f_X12_decide F P xS0 241 (nI i) D = some (r i, D') ∧ mfd D D' := by
  have e0 : f_X12_in F P xS0 (nI i) 0 5 D = some (1, D) := E_in1 (lo := 0) (hi := 5) (by omega) (by omega) (by omega)
  have e1 := E_mhas (F := F) (P := P) isDC t h P hw hd (by omega)
  rcases hq : tha (pS 2) t with _ | _
  rotate_left
  · refine ⟨D, ?_, ⟨ch_rfl _ _ _, fun _ _ _ => rfl, fun _ _ _ _ _ => rfl⟩⟩
    rw [e_X12_decide, e0, Option.bind_some, if_neg (show ¬ (1 : Int32) = 0 by decide)]
    dsimp only
    rw [h14, e1, Option.bind_some, hq, if_neg (show ¬ (if true = true then (1 : Int32) else 0) = 0 by decide), hr.1 hq i hi]
  generalize hD3 : ((xup D.1 241 13 12800, D.2) : xDt) = D3
  have d3 : ∀ a, a ≠ 241 → D3.1 a = D.1 a := fun a ha => by rw [← hD3]; dsimp only; rw [xup_ne _ _ _ _ ha]
  have d3' : ∀ j, j ≠ 13 → D3.1 241 j = D.1 241 j := fun j hj => by rw [← hD3]; dsimp only; rw [xup_nk _ _ _ _ _ hj]
  obtain ⟨D4, N0, jf, e4, a1, a2, a3, a4, a5, a6⟩ := E_pln (F := F) (P := P) hF t h P D3 [] hw hq (nd_congr (fun x hx hx2 j _ _ => by rw [d3 x (by omega)]) hd) (by omega) (by omega) ⟨by simp, by rw [← hD3]; dsimp only; rw [xup_at]; rfl, fun i x hx => absurd hx (by simp)⟩ (by simp; omega)
  have hN0 : ∀ x, x ∈ N0 ↔ x ∈ rts t := fun x => by rw [a4]; simp
  rw [List.length_nil] at a5
  generalize hD6 : ((xup D4.1 241 38 0, D4.2) : xDt) = D6
  have d6 : ∀ a, a ≠ 241 → D6.1 a = D4.1 a := fun a ha => by rw [← hD6]; dsimp only; rw [xup_ne _ _ _ _ ha]
  have d6' : ∀ j, j ≠ 38 → D6.1 241 j = D4.1 241 j := fun j hj => by rw [← hD6]; dsimp only; rw [xup_nk _ _ _ _ _ hj]
  have e5 : f_X12_decide F P xS0 241 (nI i) D = f_X12_decide_56 F P xS0 F 241 (nI i) (nI (12800 + jf)) (nI (12800 + N0.length)) 12800 D6 := by
    rw [e_X12_decide, e0, Option.bind_some, if_neg (show ¬ (1 : Int32) = 0 by decide)]
    dsimp only
    rw [h14, e1, Option.bind_some, hq, if_pos (show (if false = true then (1 : Int32) else 0) = 0 from rfl)]
    simp only [xlet]
    rw [hD3, show xup D.1 241 13 12800 241 14 = nI h from by rw [xup_nk _ _ _ _ _ (by omega)]; exact h14, e4, Option.bind_some]
    dsimp only
    rw [hD6, a1.2.1]
  have hl := cts_len t
  have hcl : (cts t).length ≤ 8000 := by
    rcases hp with q | q
    · have := hl.1; omega
    · have := (hl.2 q).1; omega
  have hML : ((cts t).filter (fun x => isB (tsr x))).length < 2100 := by
    rcases hp with q | q
    · have h1 := hl.1
      have h2 := List.length_filter_le (fun x => isB (tsr x)) (cts t)
      omega
    · have := (hl.2 q).2; omega
  have hcr := cts_rts t hw
  have h8 := rts_8 t hw
  have hbof : ∀ x, (∃ y, y ∈ rts t ∧ x ∈ bof y) ↔ dB t x := by
    intro x
    unfold dB
    rw [hcr]
    constructor
    · rintro ⟨y, hy, hx⟩
      rw [bof] at hx
      by_cases c8 : tsr y = 8
      · rw [if_pos c8, List.mem_cons] at hx
        rcases hx with rfl | hx
        · exact ⟨Or.inl hy, by rw [c8]; rfl⟩
        · obtain ⟨b, _, q2, q3, rfl⟩ := (tKs_mem 4 0).mp hx
          exact ⟨Or.inr ⟨y, b, hy, c8, by omega, q3, rfl⟩, rfl⟩
      · rw [if_neg c8] at hx
        by_cases cb : isB (tsr y) = true
        · rw [if_pos cb, List.mem_singleton] at hx
          subst hx; exact ⟨Or.inl hy, cb⟩
        · rw [if_neg cb] at hx; exact absurd hx (by simp)
    · rintro ⟨hx | ⟨c, a, q1, q2, q3, q4, rfl⟩, hb⟩
      · refine ⟨x, hx, ?_⟩
        rw [bof]
        by_cases c8 : tsr x = 8
        · rw [if_pos c8]; simp
        · rw [if_neg c8, if_pos hb]; simp
      · refine ⟨c, q1, ?_⟩
        rw [bof, if_pos q2, List.mem_cons]
        exact Or.inr ((tKs_mem 4 0).mpr ⟨a, by omega, by omega, q4, rfl⟩)
  have hkof : ∀ x, (x ∈ rts t ∨ ∃ y, y ∈ rts t ∧ x ∈ kof8 y) ↔ x ∈ cts t := by
    intro x
    rw [hcr]
    refine or_congr_right ?_
    constructor
    · rintro ⟨y, hy, hx⟩
      rw [kof8] at hx
      by_cases c8 : tsr y = 8
      · rw [if_pos c8] at hx
        obtain ⟨b, _, q2, q3, rfl⟩ := (tKs_mem 4 0).mp hx
        exact ⟨y, b, hy, c8, by omega, q3, rfl⟩
      · rw [if_neg c8] at hx; exact absurd hx (by simp)
    · rintro ⟨c, a, q1, q2, q3, q4, rfl⟩
      refine ⟨c, q1, ?_⟩
      rw [kof8, if_pos q2]
      exact (tKs_mem 4 0).mpr ⟨a, by omega, by omega, q4, rfl⟩
  obtain ⟨D7, N, B, e7, b1, b2, b3, b4, b5, b6⟩ := E_b56 (F := F) (P := P) hF (v1 := nI i) (v2 := nI (12800 + jf)) (N0 := N0) (M := (cts t).filter (fun x => isB (tsr x))) (M2 := cts t) a1.1 hML hcl (fun y hy => (h8 y ((hN0 y).mp hy)).1) (fun y hy => ⟨fun x hx => by
      have := (hbof x).mp ⟨y, (hN0 y).mp hy, hx⟩
      rw [List.mem_filter]; exact this, fun x hx => (hkof x).mp (Or.inr ⟨y, (hN0 y).mp hy, hx⟩)⟩) N0.length 0 F D6 N0 [] (by omega) (by omega) (rN_congr (d6' 13 (by omega)) (fun a q1 q2 => d6 a (by omega)) a1) ⟨by simp, by rw [← hD6]; dsimp only; rw [xup_at]; rfl, fun k x hx => absurd hx (by simp)⟩ (fun _ _ h => h) (fun x => by simp) (fun x => by simp) (fun x hx => (hkof x).mp (Or.inl ((hN0 x).mp hx)))
  have hB : ∀ x, x ∈ B ↔ dB t x := fun x => by
    rw [b4, ← hbof]
    exact ⟨fun ⟨y, q1, q2⟩ => ⟨y, (hN0 y).mp q1, q2⟩, fun ⟨y, q1, q2⟩ => ⟨y, (hN0 y).mpr q1, q2⟩⟩
  have hN : ∀ x, x ∈ N ↔ x ∈ cts t := fun x => by
    rw [b5, ← hkof]
    exact or_congr (hN0 x) ⟨fun ⟨y, q1, q2⟩ => ⟨y, (hN0 y).mp q1, q2⟩, fun ⟨y, q1, q2⟩ => ⟨y, (hN0 y).mpr q1, q2⟩⟩
  have f7 : mfd D D7 := by
    refine ⟨⟨fun x hx => ?_, fun x hx => ?_⟩, fun j j1 j2 => ?_, fun x hx hx2 j hj => ?_⟩
    · simp only [List.mem_cons, List.not_mem_nil, or_false, not_or] at hx
      rw [b6.1.1 x (by simp; omega), d6 x (by omega), a6.1.1 x (by simp; omega), d3 x (by omega)]
    · rw [b6.1.2 x hx, ← hD6]; dsimp only; rw [a6.1.2 x hx, ← hD3]
    · rw [b6.2.1 j j1 j2, d6' j j2, a6.2.1 j j1, d3' j j1]
    · rw [b6.2.2 x hx hx2 j hj, d6 x (by omega), a6.2.2 x (by omega) j hj, d3 x (by omega)]
  rw [e5, show f_X12_decide_56 F P xS0 F 241 (nI i) (nI (12800 + jf)) (nI (12800 + N0.length)) 12800 D6 = _ from e7, b2.2.1]
  have hBl : B.length < 2100 := Nat.lt_of_le_of_lt (sub_len b2.1 (M := (cts t).filter (fun x => isB (tsr x))) (fun x hx => by rw [List.mem_filter]; exact (hB x).mp hx)) hML
  have hsp := hr.2 hq B b2.1 hB
  by_cases hb : B.length ≤ 13
  rotate_left
  · refine ⟨D7, ?_, f7⟩
    rw [if_neg (show ¬ nI B.length ≤ 13 from fun q => hb ((nI_leI (b := 13) (by omega) (by omega)).mp q)), hsp.1 (by omega) i hi]
  rw [if_pos (show nI B.length ≤ 13 from (nI_leI (b := 13) (by omega) (by omega)).mpr hb), sh_1 B.length (by omega), b1.2.1]
  have hK : 2 ^ B.length ≤ 8192 := by
    have : 2 ^ B.length ≤ 2 ^ 13 := Nat.pow_le_pow_right (by omega) hb
    exact this
  have hNl : N.length ≤ 8000 := Nat.le_trans (sub_len b1.1 (fun x hx => (hN x).mp hx)) hcl
  obtain ⟨tyv, htyv⟩ := pd_ex (isTy (dB t))
  obtain ⟨stv, hstv⟩ := pd_ex (Gst (dB t))
  have hc8 : ∀ y, y ∈ cts t → tsr y = 8 → y ∈ rts t := fun y hy h8y => by
    rcases (hcr y).mp hy with q | ⟨c, a, _, _, _, _, rfl⟩
    · exact q
    · exact absurd h8y (by simp [tsr])
  have hnl : ∀ x, x ∈ B → tsr x ≠ 1 → lft x ≠ nil := fun x hx hs => by
    obtain ⟨q1, q2⟩ := (hB x).mp hx
    rcases (hcr x).mp q1 with q | ⟨c, a, c1, _, _, _, rfl⟩
    · refine (h8 x q).2 ?_
      unfold isB at q2
      simp only [Bool.or_eq_true, decide_eq_true_eq] at q2
      omega
    · intro q
      have q' : c = nil := q
      subst q'
      exact absurd ((hN0 nil).mpr c1) (rN_nil a1)
  obtain ⟨D8, e8, c1, c2, c3, c4, c5⟩ := E_d188 (F := F) (P := P) hF (bx := dB t) (y := tp t) (K := 2 ^ B.length) (jf := jf) (ty := fun u => tyv (val B u)) (v1 := nI i) hNl hb hB hK (fun u => htyv _) (fun x hx => ((hB x).mp hx).2) (fun x hx hb => (hB x).mpr ⟨(hN x).mp hx, hb⟩) (fun y hy h8y => (h8 y (hc8 y ((hN y).mp hy) h8y)).1 h8y) hnl (fun y hy h8y a ha hab => (hN _).mpr ((hcr _).mpr (Or.inr ⟨y, a, hc8 y ((hB y).mp hy).1 h8y, h8y, ha, hab, rfl⟩))) (b3 jf _ a3) (2 ^ B.length) 0 F D7 (by omega) (by omega) b1 b2 (fun u hu => absurd hu (by omega)) (fun u hu => absurd hu (by omega))
  rw [show f_X12_decide_188 F P xS0 F 241 (nI i) (nI (12800 + jf)) (nI (12800 + N.length)) (nI (2 ^ B.length)) 0 0 D7 = _ from e8]
  have hcn := cn_le (fun u => tyv (val B u)) (2 ^ B.length)
  obtain ⟨D9, L, e9, g1, g2, g3⟩ := E_d347 (F := F) (P := P) hF (bx := dB t) (y := tp t) (v1 := nI i) (v5 := nI (cn (fun u => tyv (val B u)) (2 ^ B.length))) hNl hb hB rfl hK 8192 F D8 (fun u => tyv (val B u)) (by omega) (by omega) c1 c2 c3 c4 (fun u _ hu => (htyv _).mp hu) (fun u _ hu => (htyv _).mpr (Gst_ty hu))
  rw [e9]
  have hL : ∀ u, u < 2 ^ B.length → L u = stv (val B u) := fun u hu => Bool.eq_iff_iff.mpr ((g2 u hu).trans (hstv _).symm)
  have hA := hsp.2 hb tyv stv htyv hstv
  rw [cn_congr (p := fun u => stv (val B u)) (q := L) (fun u hu => (hL u hu).symm), cn_congr (p := fun u => stv (val B u) && evt (val B u) (tp t)) (q := fun u => L u && evt (val B u) (tp t)) (fun u hu => by rw [hL u hu])] at hA
  refine ⟨D9, E_d424 (F := F) (P := P) hK g1 (fun u hu => by rw [g3.1 269 (by decide)]; exact c4 u hu) hi (by rw [g3.1 241 (by decide)]; exact c2.2.1) hA (2 ^ B.length) 0 F (by omega) (by omega), ⟨fun x hx => ?_, fun x hx => ?_⟩, fun j j1 j2 => ?_, fun x hx hx2 j hj => ?_⟩
  · have := f7.1.1 x hx
    simp only [List.mem_cons, List.not_mem_nil, or_false, not_or] at hx
    rw [g3.1 x (by simp; omega), c5.1 x (by simp; omega)]; exact this
  · rw [g3.2 x hx, c5.2 x hx]; exact f7.1.2 x hx
  · rw [g3.1 241 (by decide), c5.1 241 (by decide)]; exact f7.2.1 j j1 j2
  · rw [g3.1 x (by simp; omega), c5.1 x (by simp; omega)]; exact f7.2.2 x hx hx2 j hj
