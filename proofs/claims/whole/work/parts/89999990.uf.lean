/-! decide: the reference unites types -/
def UF (p ro d : Nat → Nat) (K M : Nat) : Prop := ∀ t, t < K → p t < K ∧ ro t < K ∧ ro (p t) = ro t ∧ p (ro t) = ro t ∧ d t ≤ M ∧ d (ro t) = 0 ∧ (p t = t ∨ d (p t) < d t) ∧ (p t = t → ro t = t)
def fu1 (p : Nat → Nat) (a b : Nat) : Nat → Nat := fun x => if x = a then b else p x
theorem fu1_a (p : Nat → Nat) (a b : Nat) : fu1 p a b a = b := by simp [fu1]
theorem fu1_n (p : Nat → Nat) (a b : Nat) {x : Nat} (h : x ≠ a) : fu1 p a b x = p x := by simp [fu1, h]
theorem uf_half {p ro d : Nat → Nat} {K M t : Nat} (h : UF p ro d K M) (ht : t < K) (hp : p t ≠ t) : UF (fu1 p t (p (p t))) ro d K M ∧ p (p t) < K ∧ d (p (p t)) < d t ∧ ro (p (p t)) = ro t := by
  obtain ⟨a1, a2, a3, a4, a5, a6, a7, a8⟩ := h t ht
  obtain ⟨b1, b2, b3, b4, b5, b6, b7, b8⟩ := h (p t) a1
  have a7' := a7.resolve_left hp
  have hd : d (p (p t)) < d t := by
    rcases b7 with q | q
    · rw [q]; exact a7'
    · omega
  refine ⟨fun u hu => ?_, b1, hd, by rw [b3, a3]⟩
  obtain ⟨c1, c2, c3, c4, c5, c6, c7, c8⟩ := h u hu
  have hrt : ro u ≠ t := fun q => hp (by rw [← q]; exact c4)
  by_cases c : u = t
  · subst c
    rw [fu1_a, fu1_n _ _ _ hrt]
    refine ⟨b1, c2, by rw [b3, a3], c4, c5, c6, Or.inr hd, fun q => ?_⟩
    rw [q] at hd; omega
  · rw [fu1_n _ _ _ c, fu1_n _ _ _ hrt]
    exact ⟨c1, c2, c3, c4, c5, c6, c7, c8⟩
theorem uf_link {p ro d : Nat → Nat} {K M t t0 : Nat} (h : UF p ro d K M) (ht : t < K) (ht0 : t0 < K) : UF (fu1 p (ro t) (ro t0)) (fun u => if ro u = ro t then ro t0 else ro u) (fun u => if ro u = ro t ∧ ro t ≠ ro t0 then d u + 1 else d u) K (M + 1) := by
  have idem : ∀ u, u < K → ro (ro u) = ro u := fun u hu => by
    obtain ⟨_, c2, _, c4, _⟩ := h u hu
    exact (h (ro u) c2).2.2.2.2.2.2.2 c4
  have i1 := idem t ht
  have i2 := idem t0 ht0
  have r1 := (h t ht).2.1
  have r2 := (h t0 ht0).2.1
  intro u hu
  obtain ⟨c1, c2, c3, c4, c5, c6, c7, c8⟩ := h u hu
  have iu := idem u hu
  have e0 : (if ro (ro t0) = ro t then ro t0 else ro (ro t0)) = ro t0 := by rw [i2]; split <;> rfl
  have z0 : (if ro (ro t0) = ro t ∧ ro t ≠ ro t0 then d (ro t0) + 1 else d (ro t0)) = 0 := by
    rw [if_neg (fun q => q.2 (by rw [← q.1, i2]))]
    exact (h t0 ht0).2.2.2.2.2.1
  have p0 : fu1 p (ro t) (ro t0) (ro t0) = ro t0 := by
    by_cases c : ro t0 = ro t
    · rw [← c, fu1_a]
    · rw [fu1_n _ _ _ c]; exact (h t0 ht0).2.2.2.1
  dsimp only
  refine ⟨?_, ?_, ?_, ?_, ?_, ?_, ?_, ?_⟩
  · by_cases c : u = ro t
    · rw [c, fu1_a]; exact r2
    · rw [fu1_n _ _ _ c]; exact c1
  · split
    · exact r2
    · exact c2
  · by_cases c : u = ro t
    · rw [c, fu1_a, e0, i1, if_pos rfl]
    · rw [fu1_n _ _ _ c, c3]
  · by_cases c : ro u = ro t
    · rw [if_pos c]; exact p0
    · rw [if_neg c, fu1_n _ _ _ c]; exact c4
  · split <;> omega
  · by_cases c : ro u = ro t
    · rw [if_pos c]; exact z0
    · rw [if_neg c, iu, if_neg (fun q => c q.1)]; exact c6
  · by_cases c : u = ro t
    · rw [c, fu1_a]
      by_cases c2 : ro t0 = ro t
      · exact Or.inl c2
      · right
        rw [z0, i1, if_pos ⟨rfl, fun q => c2 q.symm⟩]; omega
    · rw [fu1_n _ _ _ c, c3]
      rcases c7 with q | q
      · exact Or.inl q
      · right; split <;> omega
  · intro q
    by_cases c : u = ro t
    · rw [c, fu1_a] at q
      rw [c, i1, if_pos rfl]; exact q
    · rw [fu1_n _ _ _ c] at q
      rw [c8 q, if_neg c]
def pR (D : xDt) (p : Nat → Nat) (K : Nat) : Prop := ∀ t, t < K → D.1 270 t = nI (p t)
theorem E_root2 {F P K M : Nat} {ro d : Nat → Nat} (hK : K ≤ 8192) : ∀ (m t : Nat) (D : xDt) (p : Nat → Nat), UF p ro d K M → pR D p K → t < K → d t < m → ∃ D' p', f_X12_root_2 F P xS0 m 241 (nI t) D = some (nI (ro t), D') ∧ UF p' ro d K M ∧ pR D' p' K ∧ ch [270] [] D D'
  | 0, _, _, _, _, _, _, h => absurd h (by omega)
  | m + 1, t, D, p, h1, h2, h3, h4 => by
    have hpt := (h1 t h3).1
    rw [e_X12_root_2, xgrd_in (by omega) (by omega), nI_clamp (by omega), h2 t h3]
    by_cases c : p t = t
    · rw [if_pos (by rw [c])]
      exact ⟨D, p, by rw [(h1 t h3).2.2.2.2.2.2.2 c], h1, h2, ch_rfl _ _ _⟩
    · obtain ⟨a1, a2, a3, a4⟩ := uf_half h1 h3 c
      rw [if_neg (fun q => c ((nI_eq (by omega) (by omega)).mp q)), xgrd_in (by omega) (by omega), xgrd_in (by omega) (by omega), xgrd_in (by omega) (by omega), nI_clamp (by omega), h2 (p t) hpt]
      simp only [xlet]
      rw [xgrd_in (by omega) (by omega), xup_at]
      obtain ⟨D', p', e, b1, b2, b3⟩ := E_root2 (F := F) (P := P) hK m (p (p t)) (xup D.1 270 t (nI (p (p t))), D.2) (fu1 p t (p (p t))) a1 (fun u hu => by
        dsimp only
        by_cases c2 : u = t
        · subst c2; rw [xup_at, fu1_a]
        · rw [xup_nk _ _ _ _ _ c2, fu1_n _ _ _ c2]; exact h2 u hu) a2 (by omega)
      exact ⟨D', p', by rw [e, a4], b1, b2, ch_trans (ch_i (by simp) (ch_rfl _ _ _)) b3⟩
theorem E_root {F P K M : Nat} {ro d : Nat → Nat} (hK : K ≤ 8192) {t : Nat} {D : xDt} {p : Nat → Nat} (h1 : UF p ro d K M) (h2 : pR D p K) (h3 : t < K) (hM : M < F) : ∃ D' p', f_X12_root F P xS0 241 (nI t) D = some (nI (ro t), D') ∧ UF p' ro d K M ∧ pR D' p' K ∧ ch [270] [] D D' := by
  rw [e_X12_root]
  exact E_root2 hK F t D p h1 h2 h3 (by have := (h1 t h3).2.2.2.2.1; omega)
/-- what is joined by steps -/
def Rc (st : Nat → Nat → Prop) (K : Nat) (L : Nat → Bool) (u w : Nat) : Prop := ∀ Y : Nat → Prop, (∀ a b, a < K → b < K → L a = true → L b = true → st a b → (Y a ↔ Y b)) → (Y u ↔ Y w)
def Lr (D : xDt) (L : Nat → Bool) (K : Nat) : Prop := ∀ t, t < K → D.1 268 t = bI (L t)
theorem E_u33 {F P K w : Nat} {L : Nat → Bool} {st : Nat → Nat → Prop} (hK : K ≤ 8192) (hw : ∀ t, t < K → t &&& w < K) (hst : ∀ a b, a < K → b < K → L a = true → L b = true → a &&& w = b &&& w → st a b) : ∀ (e t n : Nat) (D : xDt) (p ro d : Nat → Nat) (M : Nat), t + e = K → e < n → M + e < F → UF p ro d K M → pR D p K → Lr D L K → (∀ u, u < K → Rc st K L u (ro u)) → (∀ k, k < K → (D.1 271 k = -2 ∧ ∀ u, u < t → L u = true → u &&& w ≠ k) ∨ ∃ u0, u0 < t ∧ L u0 = true ∧ u0 &&& w = k ∧ D.1 271 k = nI u0 ∧ ∀ u, u < t → L u = true → u &&& w = k → ro u = ro u0) → ∃ D' p' ro' d', f_X12_unite_33 F P xS0 n 241 (nI K) (nI w) (nI t) D = some D' ∧ UF p' ro' d' K (M + e) ∧ pR D' p' K ∧ (∀ u, u < K → Rc st K L u (ro' u)) ∧ (∀ u v, ro u = ro v → ro' u = ro' v) ∧ (∀ u v, u < K → v < K → L u = true → L v = true → u &&& w = v &&& w → ro' u = ro' v) ∧ ch [270, 271] [] D D'
  | _, _, 0, _, _, _, _, _, _, h, _, _, _, _, _, _ => absurd h (by omega)
  | 0, t, n + 1, D, p, ro, d, M, h1, h2, h3, h4, h5, h6, h7, h8 => by
    have : t = K := by omega
    subst this
    refine ⟨D, p, ro, d, ?_, h4, h5, h7, fun _ _ h => h, fun u v hu hv lu lv huv => ?_, ch_rfl _ _ _⟩
    · rw [e_X12_unite_33, if_pos (Int32.le_refl _)]
    · rcases h8 (u &&& w) (hw u hu) with ⟨_, q⟩ | ⟨u0, _, _, _, _, q⟩
      · exact absurd rfl (q u hu lu)
      · rw [q u hu lu rfl, q v hv lv huv.symm]
  | e + 1, t, n + 1, D, p, ro, d, M, h1, h2, h3, h4, h5, h6, h7, h8 => by
    have ht : t < K := by omega
    have hk := hw t ht
    rw [e_X12_unite_33, if_neg (by rw [nI_leI (by omega) (by omega)]; omega), xgrd_in (by omega) (by omega), nI_clamp (by omega), h6 t ht]
    rcases hl : L t with _ | _
    · rw [if_pos (show bI false = 0 from rfl), e_X12_unite_99, nI_1]
      simp only [xlet]
      obtain ⟨D', p', ro', d', e', a1, a2, a3, a4, a5, a6⟩ := E_u33 (F := F) (P := P) hK hw hst e (t + 1) n D p ro d M (by omega) (by omega) (by omega) h4 h5 h6 h7 (fun k hk => by
        rcases h8 k hk with ⟨q1, q2⟩ | ⟨u0, q1, q2, q3, q4, q5⟩
        · refine Or.inl ⟨q1, fun u hu lu => ?_⟩
          by_cases c : u = t
          · subst c; rw [hl] at lu; cases lu
          · exact q2 u (by omega) lu
        · refine Or.inr ⟨u0, by omega, q2, q3, q4, fun u hu lu => ?_⟩
          by_cases c : u = t
          · subst c; rw [hl] at lu; cases lu
          · exact q5 u (by omega) lu)
      refine ⟨D', p', ro', d', e', fun u hu => ?_, a2, a3, a4, a5, a6⟩
      obtain ⟨c1, c2, c3, c4, c5, c6⟩ := a1 u hu
      exact ⟨c1, c2, c3, c4, by omega, c6⟩
    · rw [if_neg (show ¬ bI true = 0 by decide), nI_and]
      simp only [xlet]
      rw [xgrd_in (by omega) (by omega), nI_clamp (by omega)]
      rcases h8 (t &&& w) hk with ⟨q1, q2⟩ | ⟨u0, q1, q2, q3, q4, q5⟩
      · rw [q1, if_neg (by decide), xgrd_in (by omega) (by omega), e_X12_unite_99, nI_1]
        simp only [xlet]
        obtain ⟨D', p', ro', d', e', a1, a2, a3, a4, a5, a6⟩ := E_u33 (F := F) (P := P) hK hw hst e (t + 1) n (xup D.1 271 (t &&& w) (nI t), D.2) p ro d M (by omega) (by omega) (by omega) h4 (fun u hu => by dsimp only; rw [xup_na _ _ _ _ _ (by omega)]; exact h5 u hu) (fun u hu => by dsimp only; rw [xup_na _ _ _ _ _ (by omega)]; exact h6 u hu) h7 (fun k hk => by
          dsimp only
          by_cases c : k = t &&& w
          · subst c
            rw [xup_at]
            refine Or.inr ⟨t, by omega, hl, rfl, rfl, fun u hu lu hq => ?_⟩
            by_cases c : u = t
            · rw [c]
            · exact absurd hq (q2 u (by omega) lu)
          · rw [xup_nk _ _ _ _ _ c]
            rcases h8 k hk with ⟨q1, q2⟩ | ⟨u0, q1, q2, q3, q4, q5⟩
            · refine Or.inl ⟨q1, fun u hu lu => ?_⟩
              by_cases c2 : u = t
              · subst c2; exact fun q => c q.symm
              · exact q2 u (by omega) lu
            · refine Or.inr ⟨u0, by omega, q2, q3, q4, fun u hu lu hq => ?_⟩
              by_cases c2 : u = t
              · subst c2; exact absurd hq.symm c
              · exact q5 u (by omega) lu hq)
        refine ⟨D', p', ro', d', e', fun u hu => ?_, a2, a3, a4, a5, ch_trans (ch_i (by simp) (ch_rfl _ _ _)) a6⟩
        obtain ⟨c1, c2, c3, c4, c5, c6⟩ := a1 u hu
        exact ⟨c1, c2, c3, c4, by omega, c6⟩
      · rw [q4, if_pos (nI_pos' (by omega))]
        obtain ⟨D1, p1, e1, a1, a2, a3⟩ := E_root (F := F) (P := P) hK h4 h5 ht (by omega)
        rw [e1, Option.bind_some]
        dsimp only
        rw [xgrd_in (by omega) (by omega), a3.1 271 (by decide), q4]
        obtain ⟨D2, p2, e2, b1, b2, b3⟩ := E_root (F := F) (P := P) hK a1 a2 (show u0 < K by omega) (by omega)
        have hrt := (h4 t ht).2.1
        rw [e2, Option.bind_some]
        dsimp only
        rw [xgrd_in (by omega) (by omega), nI_clamp (by omega), e_X12_unite_99, nI_1]
        simp only [xlet]
        have hu0 : u0 < K := by omega
        have lk := uf_link b1 ht hu0
        have hc := ch_trans a3 b3
        obtain ⟨D', p', ro', d', e', c1, c2, c3, c4, c5, c6⟩ := E_u33 (F := F) (P := P) hK hw hst e (t + 1) n (xup D2.1 270 (ro t) (nI (ro u0)), D2.2) _ _ _ (M + 1) (by omega) (by omega) (by omega) lk (fun u hu => by
          dsimp only
          by_cases c : u = ro t
          · rw [c, xup_at, fu1_a]
          · rw [xup_nk _ _ _ _ _ c, fu1_n _ _ _ c]; exact b2 u hu) (fun u hu => by dsimp only; rw [xup_na _ _ _ _ _ (by omega), hc.1 268 (by decide)]; exact h6 u hu) (fun u hu => by
          try dsimp only
          by_cases c : ro u = ro t
          · rw [if_pos c]
            intro Y hY
            rw [h7 u hu Y hY, c, ← h7 t ht Y hY, ← h7 u0 hu0 Y hY]
            exact hY t u0 ht hu0 hl q2 (hst t u0 ht hu0 hl q2 q3.symm)
          · rw [if_neg c]; exact h7 u hu) (fun k hk => by
          dsimp only
          rw [xup_na _ _ _ _ _ (show 271 ≠ 270 by omega), hc.1 271 (by decide)]
          rcases h8 k hk with ⟨r1, r2⟩ | ⟨v0, r1, r2, r3, r4, r5⟩
          · refine Or.inl ⟨r1, fun u hu lu => ?_⟩
            by_cases c : u = t
            · subst c
              intro q
              rw [← q, q4] at r1
              have h9 : (0 : Int32) ≤ nI u0 := nI_pos' (by omega)
              rw [r1] at h9; exact absurd h9 (by decide)
            · exact r2 u (by omega) lu
          · refine Or.inr ⟨v0, by omega, r2, r3, r4, fun u hu lu hq => ?_⟩
            by_cases c : u = t
            · subst c
              have : u0 = v0 := by
                rw [hq] at q4
                rw [q4] at r4
                exact (nI_eq (by omega) (by omega)).mp r4
              subst this
              rw [if_pos rfl]
              split <;> rfl
            · rw [r5 u (by omega) lu hq])
        refine ⟨D', p', ro', d', e', fun u hu => ?_, c2, c3, fun u v huv => c4 u v (by rw [huv]), c5, ch_trans (ch_trans (ch_mono hc (fun x hx => by simp at hx ⊢; omega) (fun _ h => h)) (ch_i (by simp) (ch_rfl _ _ _))) c6⟩
        obtain ⟨z1, z2, z3, z4, z5, z6⟩ := c1 u hu
        exact ⟨z1, z2, z3, z4, by omega, z6⟩
/-- a row is set to NONE -/
theorem E_u9 {F P K : Nat} {w : Int32} (hK : K ≤ 8192) : ∀ (e t n : Nat) (D : xDt), t + e = K → e < n → ∃ D', f_X12_unite_9 F P xS0 n 241 (nI K) w (nI t) D = f_X12_unite_33 F P xS0 F 241 (nI K) w 0 D' ∧ (∀ u, t ≤ u → u < K → D'.1 271 u = -2) ∧ (∀ u, u < t → D'.1 271 u = D.1 271 u) ∧ ch [271] [] D D'
  | _, _, 0, _, _, h => absurd h (by omega)
  | 0, t, n + 1, D, h1, _ => by
    refine ⟨D, ?_, fun u h2 h3 => absurd h3 (by omega), fun _ _ => rfl, ch_rfl _ _ _⟩
    rw [e_X12_unite_9, if_pos (by rw [nI_leI (by omega) (by omega)]; omega)]
  | e + 1, t, n + 1, D, h1, h2 => by
    obtain ⟨D', e', a1, a2, a3⟩ := E_u9 (F := F) (P := P) (w := w) hK e (t + 1) n (xup D.1 271 t (-2), D.2) (by omega) (by omega)
    refine ⟨D', ?_, fun u h3 h4 => ?_, fun u hu => ?_, ch_trans (ch_i (by simp) (ch_rfl _ _ _)) a3⟩
    · rw [e_X12_unite_9, if_neg (by rw [nI_leI (by omega) (by omega)]; omega), xgrd_in (by omega) (by omega), nI_clamp (by omega), nI_1]
      exact e'
    · by_cases c : u = t
      · subst c; rw [a2 u (by omega)]; dsimp only; rw [xup_at]
      · exact a1 u (by omega) h4
    · rw [a2 u (by omega)]; dsimp only; rw [xup_nk _ _ _ _ _ (by omega)]
