/-! reduce, on trees -/
def tpu (x : T) : T → T
  | .leaf => nil
  | .inner s m _ l r => if s = 4 ∨ s = 5 then bn 11 0 x (bn s m (tpu x l) nil) else if s = 6 then bn 11 0 x (bn 6 m (bn 13 0 x (tpu x l)) nil) else if 10 ≤ s then bn s m (tpu x l) (tpu x r) else bn 11 0 x (bn s m l r)
def trd : T → T
  | .leaf => nil
  | .inner s m _ l r => if s = 14 then tpu (trd l) (trd r) else if s = 15 then bn 4 0 (bn 11 0 (trd l) (bn 4 0 (tpu (trd l) (trd r)) nil)) nil else bn s m (trd l) (trd r)
/-- without E, C, D -/
def tnE : T → Prop
  | .leaf => True
  | .inner s _ _ l r => ¬ (7 ≤ s ∧ s ≤ 9) ∧ tnE l ∧ tnE r
theorem plT_tnE : ∀ {t : T}, plT t → tnE t
  | .leaf, _ => trivial
  | .inner s _ _ l r, h => ⟨by have := h.1; omega, plT_tnE h.2.1, plT_tnE h.2.2⟩
theorem tpu_w {x : T} (hx : wfT x) (hp : plT x) : ∀ {y : T}, wfT y → plT y → wfT (tpu x y) ∧ plT (tpu x y)
  | .leaf, h, _ => absurd h (by simp [wfT])
  | .inner s m () l r, hw, hq => by
    obtain ⟨w1, w2, w3, w4⟩ := id hw
    obtain ⟨q1, q2, q3⟩ := id hq
    rw [tpu]
    by_cases c1 : s = 4 ∨ s = 5
    · rw [if_pos c1]
      obtain ⟨_, _, wl, rfl⟩ := (w4.resolve_left (fun c => by omega)).resolve_right (fun c => by omega)
      obtain ⟨i1, i2⟩ := tpu_w hx hp wl q2
      exact ⟨wf_join (by omega) (by omega) hx ⟨w1, w2, w3, Or.inr (Or.inl ⟨by omega, by omega, i1, rfl⟩)⟩, ⟨by omega, hp, by omega, i2, trivial⟩⟩
    rw [if_neg c1]
    by_cases c2 : s = 6
    · rw [if_pos c2]
      subst c2
      obtain ⟨_, _, wl, rfl⟩ := (w4.resolve_left (fun c => by omega)).resolve_right (fun c => by omega)
      obtain ⟨i1, i2⟩ := tpu_w hx hp wl q2
      exact ⟨wf_join (by omega) (by omega) hx ⟨by omega, by omega, w3, Or.inr (Or.inl ⟨by omega, by omega, wf_join (by omega) (by omega) hx i1, rfl⟩)⟩, ⟨by omega, hp, by omega, ⟨by omega, hp, i2⟩, trivial⟩⟩
    rw [if_neg c2]
    by_cases c3 : 10 ≤ s
    · rw [if_pos c3]
      obtain ⟨_, wl, wr⟩ := (w4.resolve_left (fun c => by omega)).resolve_left (fun c => by omega)
      obtain ⟨i1, i2⟩ := tpu_w hx hp wl q2
      obtain ⟨i3, i4⟩ := tpu_w hx hp wr q3
      exact ⟨⟨w1, w2, w3, Or.inr (Or.inr ⟨c3, i1, i3⟩)⟩, ⟨q1, i2, i4⟩⟩
    · rw [if_neg c3]
      exact ⟨wf_join (by omega) (by omega) hx hw, ⟨by omega, hp, hq⟩⟩
theorem trd_w : ∀ {t : T}, wfT t → tnE t → wfT (trd t) ∧ plT (trd t)
  | .leaf, h, _ => absurd h (by simp [wfT])
  | .inner s m () l r, hw, hq => by
    obtain ⟨w1, w2, w3, w4⟩ := id hw
    obtain ⟨q1, q2, q3⟩ := id hq
    rw [trd]
    rcases w4 with ⟨c, rfl, rfl⟩ | ⟨c, c', wl, rfl⟩ | ⟨c, wl, wr⟩
    · rw [if_neg (by omega), if_neg (by omega)]
      exact ⟨hw, ⟨by omega, trivial, trivial⟩⟩
    · rw [if_neg (by omega), if_neg (by omega)]
      obtain ⟨i1, i2⟩ := trd_w wl q2
      exact ⟨⟨w1, w2, w3, Or.inr (Or.inl ⟨c, c', i1, rfl⟩)⟩, ⟨by omega, i2, trivial⟩⟩
    · obtain ⟨i1, i2⟩ := trd_w wl q2
      obtain ⟨i3, i4⟩ := trd_w wr q3
      obtain ⟨p1, p2⟩ := tpu_w i1 i2 i3 i4
      have hm : mOK 4 0 := Or.inr (Or.inl ⟨by omega, rfl⟩)
      by_cases c1 : s = 14
      · rw [if_pos c1]; exact ⟨p1, p2⟩
      rw [if_neg c1]
      by_cases c2 : s = 15
      · rw [if_pos c2]
        exact ⟨⟨by omega, by omega, hm, Or.inr (Or.inl ⟨by omega, by omega, wf_join (by omega) (by omega) i1 ⟨by omega, by omega, hm, Or.inr (Or.inl ⟨by omega, by omega, p1, rfl⟩)⟩, rfl⟩)⟩, ⟨by omega, ⟨by omega, i2, by omega, p2, trivial⟩, trivial⟩⟩
      · rw [if_neg c2]
        exact ⟨⟨w1, w2, w3, Or.inr (Or.inr ⟨c, i1, i3⟩)⟩, ⟨by omega, i2, i4⟩⟩
/-- without a saying nothing changes -/
theorem trd_pl : ∀ {t : T}, plT t → trd t = t
  | .leaf, _ => rfl
  | .inner s m () l r, h => by
    obtain ⟨h1, h2, h3⟩ := h
    rw [trd, if_neg (by omega), if_neg (by omega), trd_pl h2, trd_pl h3]
/-- how many NODES the reference makes -/
def twk : T → Nat
  | .leaf => 0
  | .inner s _ _ l r => if s = 4 ∨ s = 5 then 2 + twk l else if s = 6 then 3 + twk l else if 10 ≤ s then 1 + twk l + twk r else 1
def tmk : T → Nat
  | .leaf => 0
  | .inner s _ _ l r => if s = 14 then tmk l + tmk r + twk (trd r) else if s = 15 then tmk l + tmk r + twk (trd r) + 3 else 1 + tmk l + tmk r
theorem tpu_sz {x : T} (hx : 1 ≤ sz x) : ∀ {y : T}, wfT y → plT y → 2 * sz x + 2 * sz y + twk y ≤ 2 * sz (tpu x y)
  | .leaf, h, _ => absurd h (by simp [wfT])
  | .inner s m () l r, hw, hq => by
    obtain ⟨w1, w2, w3, w4⟩ := id hw
    obtain ⟨q1, q2, q3⟩ := id hq
    rw [tpu, twk]
    by_cases c1 : s = 4 ∨ s = 5
    · rw [if_pos c1, if_pos c1]
      obtain ⟨_, _, wl, rfl⟩ := (w4.resolve_left (fun c => by omega)).resolve_right (fun c => by omega)
      have := tpu_sz hx wl q2
      simp only [sz]
      omega
    rw [if_neg c1, if_neg c1]
    by_cases c2 : s = 6
    · rw [if_pos c2, if_pos c2]
      obtain ⟨_, _, wl, rfl⟩ := (w4.resolve_left (fun c => by omega)).resolve_right (fun c => by omega)
      have := tpu_sz hx wl q2
      simp only [sz]
      omega
    rw [if_neg c2, if_neg c2]
    by_cases c3 : 10 ≤ s
    · rw [if_pos c3, if_pos c3]
      obtain ⟨_, wl, wr⟩ := (w4.resolve_left (fun c => by omega)).resolve_left (fun c => by omega)
      have := tpu_sz hx wl q2
      have := tpu_sz hx wr q3
      simp only [sz]
      omega
    · rw [if_neg c3, if_neg c3]
      obtain ⟨_, rfl, rfl⟩ := w4.resolve_right (fun c => by omega)
      simp only [sz]
      omega
theorem tmk_le : ∀ {t : T}, wfT t → tnE t → tmk t ≤ 2 * sz (trd t)
  | .leaf, h, _ => absurd h (by simp [wfT])
  | .inner s m () l r, hw, hq => by
    obtain ⟨w1, w2, w3, w4⟩ := id hw
    obtain ⟨q1, q2, q3⟩ := id hq
    rw [trd, tmk]
    rcases w4 with ⟨c, rfl, rfl⟩ | ⟨c, c', wl, rfl⟩ | ⟨c, wl, wr⟩
    · rw [if_neg (by omega), if_neg (by omega), if_neg (by omega), if_neg (by omega)]
      simp only [sz, tmk, trd]; omega
    · rw [if_neg (by omega), if_neg (by omega), if_neg (by omega), if_neg (by omega)]
      have := tmk_le wl q2
      simp only [sz, tmk, trd]; omega
    · have h1 := tmk_le wl q2
      have h2 := tmk_le wr q3
      obtain ⟨i1, i2⟩ := trd_w wl q2
      obtain ⟨i3, i4⟩ := trd_w wr q3
      have h3 := tpu_sz (sz_pos i1) i3 i4
      by_cases c1 : s = 14
      · rw [if_pos c1, if_pos c1]; omega
      rw [if_neg c1, if_neg c1]
      by_cases c2 : s = 15
      · rw [if_pos c2, if_pos c2]
        simp only [sz]; omega
      · rw [if_neg c2, if_neg c2]
        simp only [sz]; omega
/-- how high, and how many K, P, ~ stand on one path -/
def tht : T → Nat
  | .leaf => 0
  | .inner _ _ _ l r => 1 + max (tht l) (tht r)
def tun : T → Nat
  | .leaf => 0
  | .inner s _ _ l r => if 4 ≤ s ∧ s ≤ 9 then 1 + tun l else max (tun l) (tun r)
theorem tht_le : ∀ t : T, tht t ≤ sz t
  | .leaf => Nat.le_refl _
  | .inner s m () l r => by
    have := tht_le l
    have := tht_le r
    rw [tht, sz]; omega
theorem tht_un : ∀ {t : T}, wfT t → 2 * tht t ≤ sz t + tun t + 1
  | .leaf, h => absurd h (by simp [wfT])
  | .inner s m () l r, hw => by
    obtain ⟨w1, w2, w3, w4⟩ := id hw
    rw [tht, sz, tun]
    rcases w4 with ⟨c, rfl, rfl⟩ | ⟨c, c', wl, rfl⟩ | ⟨c, wl, wr⟩
    · simp only [tht, sz, tun]; omega
    · have := tht_un wl
      rw [if_pos ⟨c, c'⟩]
      simp only [tht, sz]; omega
    · have := tht_un wl
      have := tht_un wr
      have := sz_pos wl
      have := sz_pos wr
      rw [if_neg (by omega)]
      omega
theorem tun_pu {x : T} : ∀ {y : T}, wfT y → plT y → tun (tpu x y) ≤ tun x + tun y
  | .leaf, h, _ => absurd h (by simp [wfT])
  | .inner s m () l r, hw, hq => by
    obtain ⟨w1, w2, w3, w4⟩ := id hw
    obtain ⟨q1, q2, q3⟩ := id hq
    rw [tpu]
    by_cases c1 : s = 4 ∨ s = 5
    · rw [if_pos c1]
      obtain ⟨_, _, wl, rfl⟩ := (w4.resolve_left (fun c => by omega)).resolve_right (fun c => by omega)
      have := tun_pu (x := x) wl q2
      rw [tun, if_neg (by omega), tun, if_pos (by omega), tun, if_pos (by omega)]
      omega
    rw [if_neg c1]
    by_cases c2 : s = 6
    · rw [if_pos c2]
      obtain ⟨_, _, wl, rfl⟩ := (w4.resolve_left (fun c => by omega)).resolve_right (fun c => by omega)
      have := tun_pu (x := x) wl q2
      rw [tun, if_neg (by omega), tun, if_pos (by omega), tun, if_neg (by omega), tun, if_pos (by omega)]
      omega
    rw [if_neg c2]
    by_cases c3 : 10 ≤ s
    · rw [if_pos c3]
      obtain ⟨_, wl, wr⟩ := (w4.resolve_left (fun c => by omega)).resolve_left (fun c => by omega)
      have := tun_pu (x := x) wl q2
      have := tun_pu (x := x) wr q3
      rw [tun, if_neg (by omega), tun, if_neg (by omega)]
      omega
    · rw [if_neg c3]
      rw [tun, if_neg (by omega)]
      show max (tun x) (tun (bn s m l r)) ≤ tun x + tun (bn s m l r)
      omega
theorem tun_rd : ∀ {t : T}, wfT t → tnE t → tun (trd t) ≤ 2 * sz t
  | .leaf, h, _ => absurd h (by simp [wfT])
  | .inner s m () l r, hw, hq => by
    obtain ⟨w1, w2, w3, w4⟩ := id hw
    obtain ⟨q1, q2, q3⟩ := id hq
    rw [trd, sz]
    rcases w4 with ⟨c, rfl, rfl⟩ | ⟨c, c', wl, rfl⟩ | ⟨c, wl, wr⟩
    · rw [if_neg (by omega), if_neg (by omega), tun, if_neg (by omega)]
      simp only [trd, tun]; omega
    · rw [if_neg (by omega), if_neg (by omega), tun, if_pos ⟨c, c'⟩]
      have := tun_rd wl q2
      omega
    · have h1 := tun_rd wl q2
      have h2 := tun_rd wr q3
      obtain ⟨i1, i2⟩ := trd_w wl q2
      obtain ⟨i3, i4⟩ := trd_w wr q3
      have h3 := tun_pu (x := trd l) i3 i4
      by_cases c1 : s = 14
      · rw [if_pos c1]; omega
      rw [if_neg c1]
      by_cases c2 : s = 15
      · rw [if_pos c2, tun, if_pos (by omega), tun, if_neg (by omega), tun, if_pos (by omega)]
        omega
      · rw [if_neg c2, tun, if_neg (by omega)]
        omega
/-- what a token becomes behind what is said -/
def tpsh (xs : List Nat) (k : Nat) : List Nat := if k % 128 = 61 ∨ k % 128 = 62 ∨ k % 128 = 124 ∨ k % 128 = 38 then [k] else if k % 128 = 80 then 62 :: xs ++ [k, 38] ++ xs else 62 :: xs ++ [k]
theorem tk_mo0 : ∀ s, s < 15 → ∀ m, m < 16 → (tk (s + 1) (if s = 0 then m % 8 else m) % 128 = 61 ∨ tk (s + 1) (if s = 0 then m % 8 else m) % 128 = 62 ∨ tk (s + 1) (if s = 0 then m % 8 else m) % 128 = 124 ∨ tk (s + 1) (if s = 0 then m % 8 else m) % 128 = 38 ↔ 10 ≤ s + 1 ∧ s + 1 ≤ 13) := by decide +kernel
theorem tk_mo1 : ∀ s, s < 15 → ∀ m, m < 16 → (tk (s + 1) (if s = 0 then m % 8 else m) % 128 = 80 ↔ s + 1 = 6) := by decide +kernel
theorem tk_mo2 : ∀ s, s < 15 → ∀ m, m < 16 → (tk (s + 1) (if s = 0 then m % 8 else m) % 128 = 69 ∨ tk (s + 1) (if s = 0 then m % 8 else m) % 128 = 67 ∨ tk (s + 1) (if s = 0 then m % 8 else m) % 128 = 68 ↔ 7 ≤ s + 1 ∧ s + 1 ≤ 9) := by decide +kernel
theorem tk_mo3 : ∀ s, s < 15 → ∀ m, m < 16 → (tk (s + 1) (if s = 0 then m % 8 else m) % 128 = 91 ↔ s + 1 = 14) := by decide +kernel
theorem tk_mo4 : ∀ s, s < 15 → ∀ m, m < 16 → (tk (s + 1) (if s = 0 then m % 8 else m) % 128 = 123 ↔ s + 1 = 15) := by decide +kernel
theorem tk_mo5 : ∀ s, s < 15 → ∀ m, m < 16 → ((97 ≤ tk (s + 1) (if s = 0 then m % 8 else m) % 128 ∧ tk (s + 1) (if s = 0 then m % 8 else m) % 128 ≤ 104) ∨ tk (s + 1) (if s = 0 then m % 8 else m) % 128 = 48 ∨ tk (s + 1) (if s = 0 then m % 8 else m) % 128 = 49 ↔ s + 1 ≤ 3) := by decide +kernel
theorem tk_mod (s : Nat) (hs : s < 16) (m : Nat) (hm : m < 16) (h1 : 1 ≤ s) (h2 : mOK s m) : (tk s m % 128 = 61 ∨ tk s m % 128 = 62 ∨ tk s m % 128 = 124 ∨ tk s m % 128 = 38 ↔ 10 ≤ s ∧ s ≤ 13) ∧ (tk s m % 128 = 80 ↔ s = 6) ∧ (tk s m % 128 = 69 ∨ tk s m % 128 = 67 ∨ tk s m % 128 = 68 ↔ 7 ≤ s ∧ s ≤ 9) ∧ (tk s m % 128 = 91 ↔ s = 14) ∧ (tk s m % 128 = 123 ↔ s = 15) ∧ (isLf (tk s m % 128) ↔ s ≤ 3) := by
  have hs1 : s - 1 + 1 = s := by omega
  have hm1 : (if s - 1 = 0 then m % 8 else m) = m := by
    unfold mOK at h2
    by_cases c : s - 1 = 0
    · rw [if_pos c]; omega
    · rw [if_neg c]
  exact ⟨(by have := tk_mo0 (s - 1) (by omega) m hm; rw [hs1, hm1] at this; exact this), (by have := tk_mo1 (s - 1) (by omega) m hm; rw [hs1, hm1] at this; exact this), (by have := tk_mo2 (s - 1) (by omega) m hm; rw [hs1, hm1] at this; exact this), (by have := tk_mo3 (s - 1) (by omega) m hm; rw [hs1, hm1] at this; exact this), (by have := tk_mo4 (s - 1) (by omega) m hm; rw [hs1, hm1] at this; exact this), (by have := tk_mo5 (s - 1) (by omega) m hm; rw [hs1, hm1] at this; exact this)⟩
theorem tpu_tk {x : T} : ∀ {y : T}, wfT y → plT y → tks (tpu x y) = (tks y).flatMap (tpsh (tks x))
  | .leaf, h, _ => absurd h (by simp [wfT])
  | .inner s m () l r, hw, hq => by
    obtain ⟨w1, w2, w3, w4⟩ := id hw
    obtain ⟨q1, q2, q3⟩ := id hq
    obtain ⟨t1, t2, t3, t4, t5⟩ := tk_mod s (by omega) m (m16 w3) w1 w3
    rw [tpu, tks, List.flatMap_cons, List.flatMap_append]
    by_cases c1 : s = 4 ∨ s = 5
    · rw [if_pos c1]
      obtain ⟨_, _, wl, rfl⟩ := (w4.resolve_left (fun c => by omega)).resolve_right (fun c => by omega)
      rw [tpsh, if_neg (fun c => by have := t1.mp c; omega), if_neg (fun c => by have := t2.mp c; omega), ← tpu_tk wl q2]
      simp [tks, tk]
    rw [if_neg c1]
    by_cases c2 : s = 6
    · rw [if_pos c2]
      obtain ⟨_, _, wl, rfl⟩ := (w4.resolve_left (fun c => by omega)).resolve_right (fun c => by omega)
      rw [tpsh, if_neg (fun c => by have := t1.mp c; omega), if_pos (t2.mpr c2), ← tpu_tk wl q2, c2]
      simp [tks, tk]
    rw [if_neg c2]
    by_cases c3 : 10 ≤ s
    · rw [if_pos c3]
      obtain ⟨_, wl, wr⟩ := (w4.resolve_left (fun c => by omega)).resolve_left (fun c => by omega)
      rw [tpsh, if_pos (t1.mpr (by omega)), ← tpu_tk wl q2, ← tpu_tk wr q3]
      simp [tks]
    · rw [if_neg c3]
      obtain ⟨_, rfl, rfl⟩ := w4.resolve_right (fun c => by omega)
      rw [tpsh, if_neg (fun c => by have := t1.mp c; omega), if_neg (fun c => by have := t2.mp c; omega)]
      simp [tks, tk]
