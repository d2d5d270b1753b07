/-! decide: what stays -/
def evt (v : T → Bool) : T → Bool
  | .leaf => false
  | .inner s m _ l r => if isB s = true then v (bn s m l r) else if s = 3 then true else if s = 4 then !evt v l else if s = 10 then decide (evt v l = evt v r) else if s = 11 then !evt v l || evt v r else if s = 12 then evt v l || evt v r else if s = 13 then evt v l && evt v r else false
def isTy (bx : T → Prop) (v : T → Bool) : Prop := ∀ x, bx x → v x = true → tsr x ≠ 1 → evt v (lft x) = true ∧ (tsr x = 8 → ∀ a, a < 4 → (mrk x).testBit a = true → v (tK a x) = true)
def sam (bx : T → Prop) (a : Nat) (u w : T → Bool) : Prop := ∀ x, bx x → tsr x = 5 → mrk x = 2 ^ a → u x = w x
def trc (bx : T → Prop) (X : (T → Bool) → Prop) (x : T) (v : T → Bool) : Prop := ∀ Y : (T → Bool) → Prop, (∀ u, X u → evt u (lft x) = false → Y u) → (∀ u w, Y u → X u → X w → (∃ a, a < 4 ∧ (mrk x).testBit a = true ∧ sam bx a u w) → Y w) → Y v
def sup (bx : T → Prop) (v : T → Bool) : Prop := ∀ x, v x = true → bx x
def Gst (bx : T → Prop) (v : T → Bool) : Prop := ∃ X : (T → Bool) → Prop, (∀ u, X u → sup bx u ∧ isTy bx u) ∧ (∀ x, bx x → tsr x ≠ 1 → ∀ u, X u → u x = true ∨ trc bx X x u) ∧ X v
/-- by numbers -/
def nst (bx : T → Prop) (B : List T) (x : T) (L : Nat → Bool) (Y : Nat → Prop) : Prop := (∀ u, u < 2 ^ B.length → L u = true → evt (val B u) (lft x) = false → Y u) ∧ (∀ u w, u < 2 ^ B.length → w < 2 ^ B.length → Y u → L u = true → L w = true → (∃ a, a < 4 ∧ (mrk x).testBit a = true ∧ sam bx a (val B u) (val B w)) → Y w)
def nrch (bx : T → Prop) (B : List T) (x : T) (L : Nat → Bool) (t : Nat) : Prop := ∀ Y, nst bx B x L Y → Y t
def nsf (bx : T → Prop) (B : List T) (k : Nat) (x : T) (L L' : Nat → Bool) : Prop := ∀ t, t < 2 ^ B.length → (L' t = true ↔ L t = true ∧ (t.testBit k = true ∨ nrch bx B x L t))
theorem keepG {bx : T → Prop} {B : List T} (hn : B.Nodup) (hB : ∀ x, x ∈ B ↔ bx x) {k : Nat} {x : T} (hk : B[k]? = some x) (hx : tsr x ≠ 1) {L L' : Nat → Bool} (hL : ∀ t, t < 2 ^ B.length → Gst bx (val B t) → L t = true) (hs : nsf bx B k x L L') : ∀ t, t < 2 ^ B.length → Gst bx (val B t) → L' t = true := by
  intro t ht hg
  obtain ⟨X, h1, h2, h3⟩ := id hg
  have hbx : bx x := (hB x).mp (List.mem_of_getElem? hk)
  have hX : ∀ u, u < 2 ^ B.length → X (val B u) → L u = true := fun u hu h => hL u hu ⟨X, h1, h2, h⟩
  refine (hs t ht).mpr ⟨hL t ht hg, ?_⟩
  rcases h2 x hbx hx _ h3 with h | h
  · exact Or.inl (by rw [← val_at hn hk]; exact h)
  · right
    refine h (fun u => ∀ t', t' < 2 ^ B.length → u = val B t' → nrch bx B x L t') ?_ ?_ t ht rfl
    · intro u hu hd t' ht' e
      subst e
      exact fun Y hY => hY.1 t' ht' (hX t' ht' hu) hd
    · intro u w hYu hu hw ha t' ht' e
      subst e
      obtain ⟨t'', ht'', e⟩ := val_ex B u hn
      have e2 : u = val B t'' := by
        funext y
        by_cases c : y ∈ B
        · exact (e y c).symm
        · rw [val_no c]
          rcases hy : u y with _ | _
          · rfl
          · exact absurd ((hB y).mpr ((h1 u hu).1 y hy)) c
      have h4 := hYu t'' ht'' e2
      subst e2
      exact fun Y hY => hY.2 t'' t' ht'' ht' (h4 Y hY) (hX t'' ht'' hu) (hX t' ht' hw) ha
theorem finG {bx : T → Prop} {B : List T} (hn : B.Nodup) (hB : ∀ x, x ∈ B ↔ bx x) {L : Nat → Bool} (hT : ∀ t, t < 2 ^ B.length → L t = true → isTy bx (val B t)) (hs : ∀ (k : Nat) (x : T), B[k]? = some x → tsr x ≠ 1 → nsf bx B k x L L) : ∀ t, t < 2 ^ B.length → L t = true → Gst bx (val B t) := by
  intro t ht hl
  refine ⟨fun u => ∃ t, t < 2 ^ B.length ∧ L t = true ∧ u = val B t, ?_, ?_, ⟨t, ht, hl, rfl⟩⟩
  · rintro u ⟨t, ht, hl, rfl⟩
    refine ⟨fun x hx => ?_, hT t ht hl⟩
    by_cases c : x ∈ B
    · exact (hB x).mp c
    · rw [val_no c] at hx; cases hx
  · rintro x hbx hx u ⟨t, ht, hl, rfl⟩
    obtain ⟨k, hk⟩ := List.mem_iff_getElem?.mp ((hB x).mpr hbx)
    rcases ((hs k x hk hx t ht).mp hl).2 with h | h
    · exact Or.inl (by rw [val_at hn hk]; exact h)
    · right
      intro Y h1 h2
      refine h (fun t => Y (val B t)) ⟨fun u hu hlu hd => h1 _ ⟨u, hu, hlu, rfl⟩ hd, fun u w hu hw hy hlu hlw ha => h2 _ _ hy ⟨u, hu, hlu, rfl⟩ ⟨w, hw, hlw, rfl⟩ ha⟩
theorem Gst_ty {bx : T → Prop} {v : T → Bool} (h : Gst bx v) : isTy bx v := by
  obtain ⟨X, h1, _, h3⟩ := h
  exact (h1 v h3).2
/-! what decide answers -/
def dB (t x : T) : Prop := x ∈ cts t ∧ isB (tsr x) = true
def dAn (r : Nat → Int32) (n a s h : Nat) : Prop := r 2 = nI n ∧ r 3 = nI a ∧ r 4 = nI s ∧ r 5 = nI h ∧ r 0 = (if h = 0 then 0 else 1) ∧ r 1 = (if h = s then 1 else 0)
def dSp (t : T) (r : Nat → Int32) : Prop := (tha (pS 2) t = true → ∀ i, i < 6 → r i = -1) ∧ (tha (pS 2) t = false → ∀ B : List T, B.Nodup → (∀ x, x ∈ B ↔ dB t x) → (13 < B.length → ∀ i, i < 6 → r i = -3) ∧ (B.length ≤ 13 → ∀ ty st : (T → Bool) → Bool, (∀ v, ty v = true ↔ isTy (dB t) v) → (∀ v, st v = true ↔ Gst (dB t) v) → dAn r B.length (cn (fun u => ty (val B u)) (2 ^ B.length)) (cn (fun u => st (val B u)) (2 ^ B.length)) (cn (fun u => st (val B u) && evt (val B u) (tp t)) (2 ^ B.length))))
theorem pd_ex {α : Type} (p : α → Prop) : ∃ q : α → Bool, ∀ v, q v = true ↔ p v := ⟨fun v => @decide _ (Classical.propDecidable (p v)), fun v => by simp⟩
theorem dSp_ex (t : T) : ∃ r, dSp t r := by
  rcases hE : tha (pS 2) t with _ | _
  rotate_left
  · exact ⟨fun _ => -1, fun _ i _ => rfl, fun h => by rw [hE] at h; cases h⟩
  by_cases hB : ∃ B : List T, B.Nodup ∧ ∀ x, x ∈ B ↔ dB t x
  rotate_left
  · exact ⟨fun _ => -1, fun _ i _ => rfl, fun _ B h1 h2 => absurd ⟨B, h1, h2⟩ hB⟩
  obtain ⟨B, h1, h2⟩ := hB
  obtain ⟨ty, hty⟩ := pd_ex (isTy (dB t))
  obtain ⟨st, hst⟩ := pd_ex (Gst (dB t))
  generalize ha : cn (fun u => ty (val B u)) (2 ^ B.length) = a
  generalize hs : cn (fun u => st (val B u)) (2 ^ B.length) = s
  generalize hh : cn (fun u => st (val B u) && evt (val B u) (tp t)) (2 ^ B.length) = h
  refine ⟨fun i => if 13 < B.length then -3 else if i = 2 then nI B.length else if i = 3 then nI a else if i = 4 then nI s else if i = 5 then nI h else if i = 0 then (if h = 0 then 0 else 1) else (if h = s then 1 else 0), fun q => (by rw [hE] at q; cases q), fun _ B' h1' h2' => ?_⟩
  have hm : ∀ x, x ∈ B ↔ x ∈ B' := fun x => by rw [h2, h2']
  have hlen := set_len h1 h1' hm
  refine ⟨fun hg i _ => ?_, fun hg ty' st' hty' hst' => ?_⟩
  · dsimp only
    rw [if_pos (by omega)]
  · have e1 : ty' = ty := funext fun v => Bool.eq_iff_iff.mpr (by rw [hty, hty'])
    have e2 : st' = st := funext fun v => Bool.eq_iff_iff.mpr (by rw [hst, hst'])
    subst e1 e2
    rw [← cn_set h1 h1' hm ty', ← cn_set h1 h1' hm st', ← cn_set h1 h1' hm (fun v => st' v && evt v (tp t)), ha, hs, hh, ← hlen]
    have hng : ¬ 13 < B.length := by omega
    unfold dAn
    simp [hng]
theorem dA_ex : ∃ dA : T → Nat → Int32, ∀ t, dSp t (dA t) := ⟨fun t => Classical.choose (dSp_ex t), fun t => Classical.choose_spec (dSp_ex t)⟩
