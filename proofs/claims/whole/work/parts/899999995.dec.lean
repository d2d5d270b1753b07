/-! decide -/
theorem l223 : xl xS0 223 = 6 := by decide +kernel
theorem E_work {F P : Nat} (hF : 100000 < F) {D : xDt} {t : T} {r : Nat → Int32} (hr : dSp t r) (hw : wfT t) (hz : sz t ≤ 2000) (hp : sz t ≤ 150 ∨ plT t) (hf : fmC D 202 203 t) : ∃ D', f_X0_work F P xS0 222 202 D = some D' ∧ (∀ i, i < 6 → D'.1 223 i = r i) ∧ frW D D' := by
  have e0 := E_hasAny (F := F) (P := P) (v := 2) (by omega) (by omega) hw hz hf
  rw [e_X0_work, e0, Option.bind_some]
  have fl : ∀ (D0 : xDt) (v : Int32), ∃ D', (f_J7_fill_53178 F P xS0 223 v D0).bind (fun q => some q) = some D' ∧ (∀ j, j < 6 → D'.1 223 j = v) ∧ ch [223] [] D0 D' := by
    intro D0 v
    obtain ⟨D', e, a1, a2⟩ := E_fillA (F := F) (P := P) (a := 223) (len := 6) (v := v) (D := D0) hF l223 (by omega)
    exact ⟨D', by rw [e]; rfl, a1, a2⟩
  rcases hq : tha (pS 2) t with _ | _
  rotate_left
  · rw [if_neg (show ¬ (if true = true then (1 : Int32) else 0) = 0 by decide)]
    obtain ⟨D', e, a1, a2⟩ := fl D (-1)
    exact ⟨D', e, fun i hi => by rw [a1 i hi, hr.1 hq i hi], fun x hx => a2.1 x (by simp; omega), fun x hx => a2.2 x (by simp)⟩
  rw [if_pos (show (if false = true then (1 : Int32) else 0) = 0 from rfl)]
  dsimp only
  rcases E_build (F := F) (P := P) hF hw hz hp hq hf with ⟨D1, N, B, jw, e1, b1, b2, b3, b4, b5⟩ | ⟨g, v, D1, e1, b2, b3⟩
  rotate_left
  · rw [e1, Option.bind_some, if_neg (show ¬ D1.1 224 9 = 0 by rw [b2]; decide)]
    obtain ⟨D', e, a1, a2⟩ := fl D1 (-3)
    obtain ⟨M, m1, m2⟩ := dd_ex ((cts t).filter (fun x => isB (tsr x)))
    obtain ⟨L, l1, l2, l3⟩ := g
    have hM : ∀ x, x ∈ M ↔ dB t x := fun x => by rw [m2, List.mem_filter]; exact Iff.rfl
    have hlen := sub_len l1 (fun y hy => (hM y).mpr (l3 y hy))
    refine ⟨D', e, fun i hi => by rw [a1 i hi, (hr.2 hq M m1 hM).1 (by omega) i hi], fun x hx => ?_, fun x hx => ?_⟩
    · rw [a2.1 x (by simp; omega), b3.1 x (by simp; omega)]
    · rw [a2.2 x (by simp), b3.2 x (by simp)]
  have hcr := cts_rts t hw
  have hB : ∀ x, x ∈ B ↔ dB t x := by
    intro x
    constructor
    · intro hx
      obtain ⟨k, hk⟩ := List.mem_iff_getElem?.mp hx
      obtain ⟨h1, i, hi, _⟩ := b1.1.2.2.2.2.2.2.2 k x hk
      exact ⟨(b5 x).mp (List.mem_of_getElem? hi), h1⟩
    · rintro ⟨h1, h2⟩
      obtain ⟨i, hi⟩ := List.mem_iff_getElem?.mp ((b5 x).mpr h1)
      rcases (b1.1.2.2.2.1 i x hi).2.2.2.2 with ⟨q, _⟩ | ⟨k, q, _⟩
      · rw [h2] at q; cases q
      · exact List.mem_of_getElem? q
  have hK : ∀ x, x ∈ B → tsr x = 8 → ∀ a, a < 4 → (mrk x).testBit a = true → tK a x ∈ B := by
    intro x hx h8 a ha hab
    refine (hB _).mpr ⟨(hcr _).mpr (Or.inr ⟨x, a, ?_, h8, ha, hab, rfl⟩), rfl⟩
    rcases (hcr x).mp ((hB x).mp hx).1 with q | ⟨c, a', _, _, _, _, rfl⟩
    · exact q
    · exact absurd h8 (by simp [tsr])
  have h13 := b1.1.2.2.2.2.2.1
  have hn := b1.1.2.2.2.2.1
  obtain ⟨w1, w2, w3, w4⟩ := wdn_le h13
  have hK8 : 2 ^ B.length ≤ 8192 := by omega
  obtain ⟨D2, e2, c1, c2⟩ := E_fk2 (F := F) (P := P) hF (N := N) (B := B) 4 0 F D1 (by omega) (by omega) b1 (fun b hb => absurd hb (by omega))
  have s2 : cst D2 N B := cst_ch b1 (fun x q1 q2 => c2.1 x (by simp; omega))
  obtain ⟨D3, e3, d1, d2, d3, d4, d5⟩ := E_mt (F := F) (P := P) hF s2 b4 hK
  have s3 : sCd D3 N B := ⟨cst_ch s2 (fun x q1 q2 => d3 x (by omega)), d1, fun a ha => by unfold kB; rw [d3 238 (by omega)]; exact c1 a ha, fun w hw => (d2 w hw).2.1⟩
  obtain ⟨tyv, htyv⟩ := pd_ex (isTy (dB t))
  obtain ⟨stv, hstv⟩ := pd_ex (Gst (dB t))
  have hA := (hr.2 hq B hn hB).2 h13 tyv stv htyv hstv
  have hty : ∀ u, tyv (val B u) = true ↔ ∀ (j : Nat) (x : T), B[j]? = some x → tyc (val B u) x := by
    intro u
    rw [htyv]
    constructor
    · intro q j x hx; exact q x ((hB x).mp (List.mem_of_getElem? hx))
    · intro q x hx
      obtain ⟨j, hj⟩ := List.mem_iff_getElem?.mp ((hB x).mpr hx)
      exact q j x hj
  generalize hL0 : (fun u => decide (u < 2 ^ B.length) && tyv (val B u)) = L0
  have hL0' : ∀ u, L0 u = (decide (u < 2 ^ B.length) && tyv (val B u)) := fun u => by rw [← hL0]
  have hLK : ∀ u, L0 u = true → u < 2 ^ B.length := fun u q => by rw [hL0', Bool.and_eq_true, decide_eq_true_eq] at q; exact q.1
  have r3 : rS D3 235 (wdn B.length) L0 := fun w hw b hb => by
    apply Bool.eq_iff_iff.mpr
    rw [(d2 w hw).1 b hb, hL0', Bool.and_eq_true, decide_eq_true_eq, hty]
  have r34 : ∀ w, w < wdn B.length → ∀ b, b < 64 → bt (D3.2 234 w) b = evt (val B (64 * w + b)) (tp t) := fun w hw => (d2 w hw).2.2
  -- how many
  have szf : ∀ (D0 : xDt) (S : Nat → Bool), D0.1 222 9 = nI (wdn B.length) → rS D0 235 (wdn B.length) S → (∀ u, S u = true → u < 2 ^ B.length) → f_X0_sizeOf F P xS0 222 0 D0 = some (nI (cn S (2 ^ B.length)), D0) := by
    intro D0 S q1 q2 q3
    rw [e_X0_sizeOf]
    have := E_sz (F := F) (P := P) (D := D0) (W := wdn B.length) (S := S) (wh := false) w2 q1 (fun w hw b hb => by rw [q2 w hw b hb]; simp) (wdn B.length) 0 F (by omega) (by omega)
    rw [cn_more' (p := S) w3 (fun j hj => by
      rcases h : S j with _ | _
      · rfl
      · have := q3 j h; omega)] at this
    exact this
  generalize hD6 : ((xup D3.1 223 2 (nI B.length), D3.2) : xDt) = D6
  have d6 : ∀ x, x ≠ 223 → D6.1 x = D3.1 x := fun x hx => by rw [← hD6]; dsimp only; rw [xup_ne _ _ _ _ hx]
  have d6L : D6.2 = D3.2 := by rw [← hD6]
  have z7 := szf D6 L0 (by rw [d6 222 (by omega)]; exact d1) (fun w hw b hb => by rw [d6L]; exact r3 w hw b hb) hLK
  generalize ha : cn L0 (2 ^ B.length) = a at z7
  have ha2 : cn (fun u => tyv (val B u)) (2 ^ B.length) = a := by
    rw [← ha]
    exact cn_congr (fun u hu => by rw [hL0', decide_eq_true hu]; rfl)
  generalize hD9 : ((xup D6.1 223 3 (nI a), D6.2) : xDt) = D9
  have d9 : ∀ x, x ≠ 223 → D9.1 x = D6.1 x := fun x hx => by rw [← hD9]; dsimp only; rw [xup_ne _ _ _ _ hx]
  have d9L : D9.2 = D3.2 := by rw [← hD9]; exact d6L
  have sCd_r : ∀ {Da Db : xDt}, sCd Da N B → (∀ x, x ≠ 223 → Db.1 x = Da.1 x) → Db.2 = Da.2 → sCd Db N B := by
    intro Da Db q1 q2 q3
    refine ⟨cst_ch q1.1 (fun x _ _ => q2 x (by omega)), by rw [q2 222 (by omega)]; exact q1.2.1, fun a ha => ?_, fun w hw => ?_⟩
    · unfold kB; rw [q2 238 (by omega)]; exact q1.2.2.1 a ha
    · unfold pR2; rw [q3]; exact q1.2.2.2 w hw
  have s9 : sCd D9 N B := sCd_r s3 (fun x hx => by rw [d9 x hx, d6 x hx]) d9L
  have hcl := cn_le L0 (2 ^ B.length)
  obtain ⟨D10, L, e10, g1, g2, g3, g4⟩ := E_s4 (F := F) (P := P) hF (N := N) (B := B) (bx := dB t) hB 8192 0 F D9 L0 (by omega) (by omega) (by omega) hLK s9 (fun w hw b hb => by rw [d9L]; exact r3 w hw b hb) (fun u _ q => by rw [hL0', Bool.and_eq_true] at q; exact (htyv _).mp q.2) (fun u hu q => by rw [hL0', decide_eq_true hu, (htyv _).mpr (Gst_ty q)]; rfl)
  have hL : ∀ u, u < 2 ^ B.length → L u = stv (val B u) := fun u hu => Bool.eq_iff_iff.mpr ((g3 u hu).trans (hstv _).symm)
  have z11 := szf D10 L (by rw [g4.1]; exact s9.2.1) g1 g2
  generalize hs : cn L (2 ^ B.length) = s at z11
  have hs2 : cn (fun u => stv (val B u)) (2 ^ B.length) = s := by
    rw [← hs]
    exact cn_congr (fun u hu => (hL u hu).symm)
  generalize hD13 : ((xup D10.1 223 4 (nI s), D10.2) : xDt) = D13
  have d13 : ∀ x, x ≠ 223 → D13.1 x = D10.1 x := fun x hx => by rw [← hD13]; dsimp only; rw [xup_ne _ _ _ _ hx]
  have d13L : D13.2 = D10.2 := by rw [← hD13]
  have z14 : f_X0_sizeOf F P xS0 222 1 D13 = some (nI (cn (fun u => L u && evt (val B u) (tp t)) (2 ^ B.length)), D13) := by
    rw [e_X0_sizeOf]
    have := E_sz (F := F) (P := P) (D := D13) (W := wdn B.length) (S := fun u => L u && evt (val B u) (tp t)) (wh := true) w2 (by rw [d13 222 (by omega), g4.1]; exact s9.2.1) (fun w hw b hb => by
      rw [d13L, g1 w hw b hb, g4.2 234 (by decide), d9L, r34 w hw b hb]; rfl) (wdn B.length) 0 F (by omega) (by omega)
    rw [cn_more' (p := fun u => L u && evt (val B u) (tp t)) w3 (fun j hj => by
      rcases h : L j with _ | _
      · simp [h]
      · have := g2 j h; omega)] at this
    exact this
  generalize hh : cn (fun u => L u && evt (val B u) (tp t)) (2 ^ B.length) = h at z14
  have hh2 : cn (fun u => stv (val B u) && evt (val B u) (tp t)) (2 ^ B.length) = h := by
    rw [← hh]
    exact cn_congr (fun u hu => by rw [hL u hu])
  rw [ha2, hs2, hh2] at hA
  obtain ⟨r2, r3', r4, r5, r0, r1⟩ := hA
  have bs : s ≤ 8192 := by have := cn_le L (2 ^ B.length); omega
  have bh : h ≤ 8192 := by have := cn_le (fun u => L u && evt (val B u) (tp t)) (2 ^ B.length); omega
  generalize hD16 : ((xup D13.1 223 5 (nI h), D13.2) : xDt) = D16
  have d16 : ∀ x, x ≠ 223 → D16.1 x = D13.1 x := fun x hx => by rw [← hD16]; dsimp only; rw [xup_ne _ _ _ _ hx]
  have v16 : D16.1 223 2 = nI B.length ∧ D16.1 223 3 = nI a ∧ D16.1 223 4 = nI s ∧ D16.1 223 5 = nI h := by
    have q10 : ∀ j, D10.1 223 j = D9.1 223 j := fun j => by rw [g4.1]
    rw [← hD16, ← hD13]
    dsimp only
    refine ⟨?_, ?_, ?_, ?_⟩
    · rw [xup_nk _ _ _ _ _ (by omega), xup_nk _ _ _ _ _ (by omega), q10, ← hD9, ← hD6]; dsimp only; rw [xup_nk _ _ _ _ _ (by omega), xup_at]
    · rw [xup_nk _ _ _ _ _ (by omega), xup_nk _ _ _ _ _ (by omega), q10, ← hD9]; dsimp only; rw [xup_at]
    · rw [xup_nk _ _ _ _ _ (by omega), xup_at]
    · rw [xup_at]
  have e16 : f_X0_work F P xS0 222 202 D = if (D16.1 223 5) ≤ 0 then (f_X0_work_125 F P xS0 222 0 0 223 D16) else (f_X0_work_125 F P xS0 222 1 0 223 D16) := by
    rw [e_X0_work, e0, Option.bind_some, hq, if_pos (show (if false = true then (1 : Int32) else 0) = 0 from rfl)]
    dsimp only
    rw [e1, Option.bind_some, if_pos (show D1.1 224 9 = 0 from b2), e_X0_findKnownBits, show f_X0_findKnownBits_2 F P xS0 F 222 0 D1 = _ from e2, Option.bind_some]
    dsimp only
    rw [e3, Option.bind_some, show xin 2 6 = true by decide, xgrd_t, show (2 : Int32).toNatClampNeg = 2 from rfl, d3 224 (by omega), s2.1.2.2.2.2.2.2.1, hD6, xlet_q, z7, Option.bind_some]
    dsimp only
    rw [show xin 3 6 = true by decide, xgrd_t, show (3 : Int32).toNatClampNeg = 3 from rfl, hD9, xlet_q, e_X0_sift, show f_X0_sift_4 F P xS0 F 222 1 0 D9 = _ from e10, Option.bind_some, z11, Option.bind_some]
    dsimp only
    rw [show xin 4 6 = true by decide, xgrd_t, show (4 : Int32).toNatClampNeg = 4 from rfl, hD13, xlet_q, z14, Option.bind_some]
    dsimp only
    rw [show xin 5 6 = true by decide, xgrd_t, show (5 : Int32).toNatClampNeg = 5 from rfl, hD16, xlet_q, xgrd_t]
  have fr16 : frW D D16 := by
    refine ⟨fun x hx => ?_, fun x hx => ?_⟩
    · rw [d16 x (by omega), d13 x (by omega), g4.1, d9 x (by omega), d6 x (by omega), d3 x (by omega), c2.1 x (by simp; omega), b3.1 x (by simp; omega)]
    · rw [← hD16]; dsimp only; rw [d13L, g4.2 x (by simp; omega), d9L, d5 x (by simp; omega), c2.2 x (by simp), b3.2 x (by simp)]
  -- the last two
  have fin : ∀ z : Int32, z = (if h = 0 then 0 else 1) → ∃ D', f_X0_work_125 F P xS0 222 z 0 223 D16 = some D' ∧ (∀ i, i < 6 → D'.1 223 i = r i) ∧ frW D D' := by
    intro z hz0
    generalize hD17 : ((xup D16.1 223 0 z, D16.2) : xDt) = D17
    have v17 : ∀ j, j ≠ 0 → D17.1 223 j = D16.1 223 j := fun j hj => by rw [← hD17]; dsimp only; rw [xup_nk _ _ _ _ _ hj]
    have v170 : D17.1 223 0 = z := by rw [← hD17]; dsimp only; rw [xup_at]
    have d17 : ∀ x, x ≠ 223 → D17.1 x = D16.1 x := fun x hx => by rw [← hD17]; dsimp only; rw [xup_ne _ _ _ _ hx]
    have last : ∀ y : Int32, y = (if h = s then 1 else 0) → (∀ i, i < 6 → ((xup D17.1 223 1 y, D17.2) : xDt).1 223 i = r i) ∧ frW D (xup D17.1 223 1 y, D17.2) := by
      intro y hy
      refine ⟨fun i hi => ?_, fun x hx => ?_, fun x hx => ?_⟩
      · have : i = 0 ∨ i = 1 ∨ i = 2 ∨ i = 3 ∨ i = 4 ∨ i = 5 := by omega
        rcases this with rfl | rfl | rfl | rfl | rfl | rfl
        · dsimp only; rw [xup_nk _ _ _ _ _ (by omega), v170, hz0, r0]
        · dsimp only; rw [xup_at, hy, r1]
        · dsimp only; rw [xup_nk _ _ _ _ _ (by omega), v17 2 (by omega), v16.1, r2]
        · dsimp only; rw [xup_nk _ _ _ _ _ (by omega), v17 3 (by omega), v16.2.1, r3']
        · dsimp only; rw [xup_nk _ _ _ _ _ (by omega), v17 4 (by omega), v16.2.2.1, r4]
        · dsimp only; rw [xup_nk _ _ _ _ _ (by omega), v17 5 (by omega), v16.2.2.2, r5]
      · dsimp only; rw [xup_ne _ _ _ _ (by omega), d17 x (by omega)]; exact fr16.1 x hx
      · dsimp only; rw [← hD17]; exact fr16.2 x hx
    rw [e_X0_work_125, l223, show xin 0 6 = true by decide, xgrd_t, show (0 : Int32).toNatClampNeg = 0 from rfl, hD17, xlet_q, show xin 5 6 = true by decide, xgrd_t, show xin 4 6 = true by decide, xgrd_t, show (5 : Int32).toNatClampNeg = 5 from rfl, show (4 : Int32).toNatClampNeg = 4 from rfl, v17 5 (by omega), v17 4 (by omega), v16.2.2.2, v16.2.2.1, show xin 1 6 = true by decide, show (1 : Int32).toNatClampNeg = 1 from rfl]
    by_cases c : h = s
    · obtain ⟨q1, q2⟩ := last 1 (by rw [if_pos c])
      exact ⟨_, by rw [if_pos (by rw [c]), xgrd_t, xlet_q], q1, q2⟩
    · obtain ⟨q1, q2⟩ := last 0 (by rw [if_neg c])
      exact ⟨_, by rw [if_neg (fun q => c ((nI_eq (by omega) (by omega)).mp q)), xgrd_t, xlet_q], q1, q2⟩
  have e17 := e16
  rw [e_X0_work, e0, Option.bind_some, hq, if_pos (show (if false = true then (1 : Int32) else 0) = 0 from rfl)] at e17
  dsimp only at e17
  rw [e17, v16.2.2.2]
  by_cases c : h = 0
  · rw [if_pos (by rw [c]; decide)]
    exact fin 0 (by rw [if_pos c])
  · rw [if_neg (show ¬ nI h ≤ 0 from fun q => by have := (nI_leI (b := 0) (by omega) (by omega)).mp q; omega)]
    exact fin 1 (by rw [if_neg c])
theorem M_decide {dA : T → Nat → Int32} (hdA : ∀ t, dSp t (dA t)) {F P : Nat} (hF : 100000 < F) (hP : 2005 < P) {D : xDt} (h : Iv dA D) (x : Int32) : Two dA D (f_X11_decide F P xS0 0 x) (f_X12_decide F P xS0 241 x) := by
  obtain ⟨W, L, t, E, sg, tx, a1, a2, a3, a4, a5, a6, a7, a8⟩ := id h
  obtain ⟨b1, b2, b3, b4, i0, b5, b6, b7⟩ := id a3
  rcases i_in 6 x with ⟨i, hi, _, rfl⟩ | hx
  rotate_left
  · refine Iv_same (r := -1) h ?_ ?_
    · rw [e_X11_decide]
      rcases hx with h1 | ⟨j, h1, h2, rfl⟩
      · rw [if_pos h1]
      · rw [if_neg (nI_pos h2), if_neg (show ¬ nI j < 6 from fun q => by have := (nI_ltI (b := 6) h2 (by omega)).mp q; omega)]
    · rw [e_X12_decide, show f_X12_in F P xS0 x 0 5 D = some (0, D) from in_f (hi := 5) (by omega) hx]; rfl
  -- the class
  obtain ⟨D1, e1, k0, k1, k2, k3⟩ : ∃ D1, f_X11_decide F P xS0 0 (nI i) D = some (dA t i, D1) ∧ D1.1 0 14 = 1 ∧ (∀ j, j < 6 → D1.1 223 j = dA t j) ∧ (∀ x, (0 < x ∧ x < 222) ∨ 238 < x → D1.1 x = D.1 x) ∧ (∀ j, j ≠ 14 → D1.1 0 j = D.1 0 j) ∧ ∀ x, x < 232 ∨ 237 < x → D1.2 x = D.2 x := by
    rw [e_X11_decide, if_neg (nI_pos (by omega)), if_pos (show nI i < 6 from (nI_ltI (b := 6) (by omega) (by omega)).mpr hi)]
    rcases a8 with q | ⟨q1, q2⟩
    · obtain ⟨D', e, u1, u2⟩ := E_work (F := F) (P := P) hF (hdA t) b1 b2 b3 b4
      rw [if_pos q, e, Option.bind_some, xlet_q, e_X11_decide_35, xgrd_in hi (by omega), nI_clamp (by omega)]
      refine ⟨(xup D'.1 0 14 1, D'.2), by dsimp only; rw [xup_na _ _ _ _ _ (by omega), u1 i hi], by dsimp only; rw [xup_at], fun j hj => by dsimp only; rw [xup_na _ _ _ _ _ (by omega)]; exact u1 j hj, fun x hx => by dsimp only; rw [xup_ne _ _ _ _ (by omega)]; exact u2.1 x (by omega), fun j hj => by dsimp only; rw [xup_nk _ _ _ _ _ hj, u2.1 0 (by omega)], fun x hx => u2.2 x hx⟩
    · rw [if_neg (show ¬ D.1 0 14 = 0 by rw [q1]; decide), e_X11_decide_35, xgrd_in hi (by omega), nI_clamp (by omega), q2 i hi]
      exact ⟨D, rfl, q1, q2, fun _ _ => rfl, fun _ _ => rfl, fun _ _ => rfl⟩
  obtain ⟨k2, k3, k4⟩ : (∀ x, (0 < x ∧ x < 222) ∨ 238 < x → D1.1 x = D.1 x) ∧ (∀ j, j ≠ 14 → D1.1 0 j = D.1 0 j) ∧ ∀ x, x < 232 ∨ 237 < x → D1.2 x = D.2 x := ⟨k2, k3⟩
  -- the reference
  obtain ⟨D2, e2, m1, m2, m3⟩ := E_mdecide (F := F) (P := P) hF hP (D := D1) (hdA t) hi b1 b2 b3 b5 (by rw [k2 241 (by omega)]; exact b6) (nd_congr (fun x hx hx2 j _ _ => by rw [k2 x (by omega)]) b7)
  have q : ∀ x, (0 < x ∧ x < 222) ∨ (238 < x ∧ x < 241) ∨ (241 < x ∧ x < 247) ∨ (251 < x ∧ x < 267) ∨ 272 < x → D2.1 x = D.1 x := fun x hx => by rw [m1.1 x (by simp; omega), k2 x (by omega)]
  have qL : ∀ x, x < 232 ∨ 237 < x → D2.2 x = D.2 x := fun x hx => by rw [m1.2 x (by simp), k4 x hx]
  have q1 : ∀ j, j ≠ 13 → j ≠ 38 → D2.1 241 j = D.1 241 j := fun j h1 h2 => by rw [m2 j h1 h2, k2 241 (by omega)]
  have qn : ∀ x, 247 ≤ x → x ≤ 251 → ∀ j, j < 12800 → D2.1 x j = D.1 x j := fun x h1 h2 j hj => by rw [m3 x h1 h2 j hj, k2 x (by omega)]
  have q0 : ∀ j, D2.1 0 j = D1.1 0 j := fun j => by rw [m1.1 0 (by decide)]
  refine ⟨_, D1, D2, e1, e2, W, L, t, E, sg, tx, ?_, ?_, ?_, ?_, ?_, ?_, ?_, ?_⟩
  · exact iW_congr (congrFun (q 1 (by omega)) 0) (qL 2 (by omega)) (qL 3 (by omega)) (q1 1 (by omega) (by omega)) (q 242 (by omega)) (q 243 (by omega)) a1
  · exact iK_congr (q 4 (by omega)) (q1 7 (by omega) (by omega)) (fun x hx hx2 => ⟨q x (by omega), qL x (by omega)⟩) (fun x hx hx2 => q x (by omega)) a2
  · exact iT_congr (congrFun (q 202 (by omega)) 1) (q 203 (by omega)) (q1 14 (by omega) (by omega)) (fun x hx hx2 j hj => qn x hx hx2 j (by omega)) a3
  · exact iE_congr (congrFun (q 42 (by omega)) 0) (q1 25 (by omega) (by omega)) (fun x hx => q x (by omega)) (fun x hx hx2 j _ hj => qn x hx hx2 j hj) a4
  · exact iS_congr (congrFun (q 192 (by omega)) 1) (q 193 (by omega)) (q1 16 (by omega) (by omega)) (q 252 (by omega)) a5
  · exact iX_congr (congrFun (q 204 (by omega)) 1) (q 205 (by omega)) (q1 21 (by omega) (by omega)) (q 253 (by omega)) a6
  · exact iJ_congr (by rw [q0, k3 13 (by omega)]) (qL 0 (by omega)) a7
  · exact Or.inr ⟨by rw [q0]; exact k0, fun j hj => by rw [m1.1 223 (by decide)]; exact k1 j hj⟩
