/-! rules: making, switches, Math, arraycopy -/
def xnw {α : Type} (f : Nat → Nat → α) (a : Nat) (v : α) : Nat → Nat → α := fun x => if x = a then (fun _ => v) else f x
/-- one more cell, all of it 0 or null -/
def xnew (M : xMem) (kd n : Nat) : xMem := ((M.1.1 ++ [(kd, n)], xnw M.1.2 M.1.1.length none), (xnw M.2.1 M.1.1.length 0, xnw M.2.2 M.1.1.length 0))
theorem xnw_ne {α : Type} (f : Nat → Nat → α) (a : Nat) (v : α) {x : Nat} (h : x ≠ a) : xnw f a v x = f x := by simp [xnw, h]
theorem xnw_eq {α : Type} (f : Nat → Nat → α) (a : Nat) (v : α) : xnw f a v a = (fun _ => v) := by simp [xnw]
theorem xent_new {G : xG} {M : xMem} (kd n x : Nat) (q : Nat × Nat) (h : x ≠ M.1.1.length) : xent G (xnew M kd n) x q = xent G M x q := by
  have : xfv G (xnew M kd n) x q.1 = xfv G M x q.1 := by funext j; simp [xfv, xnew, xnw_ne _ _ _ h]
  simp only [xent, this]
  simp [xnew, xnw_ne _ _ _ h]
theorem xW_new {G : xG} {M : xMem} (kd n : Nat) : xW G (xnew M kd n) = xW G M ++ [xent G (xnew M kd n) M.1.1.length (kd, n)] := by
  apply List.ext_getElem?
  intro i
  have hl : (xW G M).length = M.1.1.length := by simp [xW]
  rw [xW_get]
  show ((M.1.1 ++ [(kd, n)])[i]?).map _ = _
  rcases Nat.lt_trichotomy i M.1.1.length with h | h | h
  · rw [List.getElem?_append_left h, List.getElem?_append_left (by omega), xW_get]
    cases M.1.1[i]? with
    | none => rfl
    | some q => simp [xent_new (G := G) (M := M) kd n i q (by omega)]
  · subst h
    rw [List.getElem?_append_right (Nat.le_refl _), List.getElem?_append_right (by omega), hl]
    simp
  · rw [List.getElem?_append_right (by omega), List.getElem?_append_right (by omega)]
    rw [List.getElem?_eq_none (by simp; omega), List.getElem?_eq_none (by simp; omega)]
    rfl
section xAlloc
variable {d : xMd} {B : Nat × Nat × Nat} {K : Nat × Nat} {pc : Nat} {lv : List (Nat × Value)} {st : List Value} {M : xMem} {Q : Option Value → xMem → Prop}
/-- the new cell's address -/
theorem xfresh {p : Program} {l : Launch} {e : Env} {s : State} {m : MethodId} {args : Array Value} {below : List Frame} {meth : Method} {c : Code} {G : xG} {A : Nat → Prop} {H H1 : Heap} {locs : List Loc} {R : Room} {T : State} {n k q : Nat} {E : va_E} (X : xCx p s m args meth c d G A) (I : xInv s G A k M H locs) (hP : va_P G.2.2.1 vwCl (xW G M ++ [(q, E)]) H1) (hD : va_D A (xW G M ++ [(q, E)])) (hT : T.heap = H1) (X0 : Stand p l e R s m args below meth c T locs (k + 1) n) : q = G.1 + M.1.1.length := by
  have hl : (xW G M).length = M.1.1.length := by simp [xW]
  have hq : (xW G M ++ [(q, E)])[M.1.1.length]? = some (q, E) := by rw [List.getElem?_append_right (by omega), hl]; simp
  have h1 := (hP _ _ hq).lt
  have h2 := X0.heapSize
  rw [hT] at h2
  have h3 := I.2.2.2.1
  have h4 := X.2.2.2.2.2.2.2.2.2.2.2.1 q (hD.2 _ _ hq)
  have h5 : q < H1.size := h1
  rcases Nat.lt_or_ge q (G.1 + M.1.1.length) with h | h
  · have h6 : q - G.1 < M.1.1.length := by omega
    have h7 : (xW G M ++ [(q, E)])[q - G.1]? = some (xent G M (q - G.1) M.1.1[q - G.1]) := by
      rw [List.getElem?_append_left (by omega)]
      exact xW_at (List.getElem?_eq_getElem h6)
    have h8 := hD.1 _ _ _ _ h7 hq (show G.1 + (q - G.1) = q by omega)
    omega
  · omega
theorem x_new {idx ci N : Nat} {C : String} {T : u_T} {ty : Nat → FieldType} (hC : xCB ci C T N ty) (hd : decode d.2.1 pc = .ok (.new idx, 3)) (hw1 : Cond.classLink d.1.cls idx C ∈ xTG) (hw2 : Cond.instantiable C N ∈ xTG) (hw3 : Cond.initialized C ∈ xTG) (hdef : ∀ j, j < N → defaultValue (ty j) = (match xft ci j with | 0 => .int 0 | 1 => .long 0 | _ => .null)) (h1 : K.1 + 1 ≤ B.2.1) (h2 : K.2 + N ≤ B.2.2) (kk : xEx d B (K.1 + 1, K.2 + N) (pc + 3) lv (.ref M.1.1.length :: st) (xnew M ci N) Q) : xEx d B K pc lv st M Q := by
  intro p l e s m args below meth c G A H locs ls X I hl
  refine va_new (ci := ci) (fs := (List.range N).map (xfv G (xnew M ci N) M.1.1.length ci)) X.1 X.2.1 X.2.2.2.2.2.1 hC.2.1 ty hC.2.2.1 X.2.2.2.2.1 (X.2.2.2.2.2.1 _ hw1) (X.2.2.2.2.2.1 _ hw2) (X.2.2.2.2.2.1 _ hw3) X.2.2.2.2.2.2.2.1 I.1 I.2.1 I.2.2.1 X.2.2.2.2.2.2.2.2.2.2.1 hC.1 (fun j hj => ?_) h1 h2 hd (fun q H1 hP hD hS => ?_)
  · rw [hdef j hj]
    simp [vp_V, hj, xfv, xnew, xnw_eq]
    split <;> simp_all [va_rf]
  · intro T0 hT0 X0
    have hq := xfresh X I hP hD hT0 X0
    subst hq
    have hw : xW G (xnew M ci N) = xW G M ++ [(G.1 + M.1.1.length, .inr (ci, (List.range N).map (xfv G (xnew M ci N) M.1.1.length ci)))] := by
      rw [xW_new]; simp [xent, hC.2.2.2.2]
    rw [← hw] at hP hD
    exact kk p l e s m args below meth c G A H1 locs ls X ⟨hP, hD, hS, by have := I.2.2.2.1; simp [xnew]; omega, I.2.2.2.2⟩ hl T0 hT0 X0
theorem xK_arr {G : xG} {s : State} {cA x : ClassId} {ty : FieldType} {t : Nat} (hK : va_K G.2.2.1 vwCl (xT G) s) (hK2 : va_K G.2.2.1 vwCl (xT G ++ [(cA, ty)]) s) (hp : ∀ C, ty ≠ .object C) (h : (xT G)[t]? = some (x, ty)) : cA = x := by
  have h1 := (hK.2 t _ h).2
  have h2 := (hK2.2 (xT G).length (cA, ty) (by simp)).2
  cases ty <;> first | exact absurd rfl (hp _) | exact Option.some.inj (h2.symm.trans h1)
/-- a new row of ints (or their like) -/
theorem x_newi {n : Int32} {N t ti : Nat} {at_ : ArrayType} {ty : FieldType} (hty : newarray.typeOf at_ = ty) (hdv : defaultValue ty = .int 0) (hp : ∀ C, ty ≠ .object C) (ht : ∀ G : xG, (xT G)[ti]? = some (G.2.2.2 t, ty)) (t1 : ¬ t < 100) (t2 : ¬ t = 101) (t3 : t < 200) (hd : decode d.2.1 pc = .ok (.newarray at_, 2)) (hw : Cond.arrayClass ty ∈ xTG) (hn : 0 ≤ n) (hN : n.toNatClampNeg = N) (hb : N * componentBytes ty ≤ 536870912) (h1 : K.1 + 1 ≤ B.2.1) (h2 : K.2 + N ≤ B.2.2) (kk : xEx d B (K.1 + 1, K.2 + N) (pc + 2) lv (.ref M.1.1.length :: st) (xnew M t N) Q) : xEx d B K pc lv (.int n :: st) M Q := by
  intro p l e s m args below meth c G A H locs ls X I hl
  refine va_newa (a0 := (N, .inl (fun _ => 0))) X.1 X.2.1 (X.2.2.2.2.2.1 _ (by rw [hty]; exact hw)) hty X.2.2.2.2.2.2.2.1 I.1 I.2.1 I.2.2.1 X.2.2.2.2.2.2.2.2.2.2.1 (fun cA => by rw [hdv]; rfl) (Int32.not_lt.mpr hn) hN hb h1 h2 hd (fun q cA H1 hK hP hD hS => ?_)
  intro T0 hT0 X0
  have hq := xfresh X I hP hD hT0 X0
  subst hq
  have hc := xK_arr X.2.2.2.2.2.2.2.1 hK hp (ht G)
  subst hc
  have hw : xW G (xnew M t N) = xW G M ++ [(G.1 + M.1.1.length, .inl (G.2.2.2 t, N, .inl (fun _ => 0)))] := by
    rw [xW_new]; simp [xent, t1, t2, t3, xnew, xnw_eq]
  rw [← hw] at hP hD
  exact kk p l e s m args below meth c G A H1 locs ls X ⟨hP, hD, hS, by have := I.2.2.2.1; simp [xnew]; omega, I.2.2.2.2⟩ hl T0 hT0 X0
theorem x_newl {n : Int32} {N : Nat} {at_ : ArrayType} (hty : newarray.typeOf at_ = .long) (hd : decode d.2.1 pc = .ok (.newarray at_, 2)) (hw : Cond.arrayClass .long ∈ xTG) (hn : 0 ≤ n) (hN : n.toNatClampNeg = N) (hb : N * componentBytes .long ≤ 536870912) (h1 : K.1 + 1 ≤ B.2.1) (h2 : K.2 + N ≤ B.2.2) (kk : xEx d B (K.1 + 1, K.2 + N) (pc + 2) lv (.ref M.1.1.length :: st) (xnew M 101 N) Q) : xEx d B K pc lv (.int n :: st) M Q := by
  intro p l e s m args below meth c G A H locs ls X I hl
  refine va_newa (a0 := (N, .inr (.inl (fun _ => 0)))) X.1 X.2.1 (X.2.2.2.2.2.1 _ (by rw [hty]; exact hw)) hty X.2.2.2.2.2.2.2.1 I.1 I.2.1 I.2.2.1 X.2.2.2.2.2.2.2.2.2.2.1 (fun cA => rfl) (Int32.not_lt.mpr hn) hN hb h1 h2 hd (fun q cA H1 hK hP hD hS => ?_)
  intro T0 hT0 X0
  have hq := xfresh X I hP hD hT0 X0
  subst hq
  have hc := xK_arr (t := 1) X.2.2.2.2.2.2.2.1 hK (fun C h => by cases h) rfl
  subst hc
  have hw : xW G (xnew M 101 N) = xW G M ++ [(G.1 + M.1.1.length, .inl (G.2.2.2 101, N, .inr (.inl (fun _ => 0))))] := by
    rw [xW_new]; simp [xent, xnew, xnw_eq]
  rw [← hw] at hP hD
  exact kk p l e s m args below meth c G A H1 locs ls X ⟨hP, hD, hS, by have := I.2.2.2.1; simp [xnew]; omega, I.2.2.2.2⟩ hl T0 hT0 X0
theorem xK_arrq {G : xG} {s : State} {cA x : ClassId} {C : String} {t : Nat} (hK : va_K G.2.2.1 vwCl (xT G) s) (hK2 : va_K G.2.2.1 vwCl (xT G ++ [(cA, .object C)]) s) (h : (xT G)[t]? = some (x, .object C)) : cA = x := by
  obtain ⟨_, _, _, _, _, h1⟩ := (hK.2 t _ h).2
  obtain ⟨_, _, _, _, _, h2⟩ := (hK2.2 (xT G).length (cA, .object C) (by simp)).2
  exact Option.some.inj (h2.symm.trans h1)
theorem x_newq {idx N t ti : Nat} {n : Int32} {C : String} (ht : ∀ G : xG, (xT G)[ti]? = some (G.2.2.2 t, .object C)) (t3 : ¬ t < 200) (hd : decode d.2.1 pc = .ok (.anewarray idx, 3)) (hw1 : Cond.classLink d.1.cls idx C ∈ xTG) (hw2 : Cond.arrayOver (.object C) ∈ xNW) (hn : 0 ≤ n) (hN : n.toNatClampNeg = N) (hb : N * 4 ≤ 536870912) (h1 : K.1 + 1 ≤ B.2.1) (h2 : K.2 + N ≤ B.2.2) (kk : xEx d B (K.1 + 1, K.2 + N) (pc + 3) lv (.ref M.1.1.length :: st) (xnew M t N) Q) : xEx d B K pc lv (.int n :: st) M Q := by
  intro p l e s m args below meth c G A H locs ls X I hl
  refine va_newq X.1 X.2.1 X.2.2.2.2.1 (X.2.2.2.2.2.1 _ hw1) (X.2.2.2.2.2.2.2.2.1 _ hw2) X.2.2.2.2.2.2.2.1 I.1 I.2.1 I.2.2.1 X.2.2.2.2.2.2.2.2.2.2.1 (Int32.not_lt.mpr hn) hN hb h1 h2 hd (fun q cA H1 hK hP hD hS => ?_)
  intro T0 hT0 X0
  have hq := xfresh X I hP hD hT0 X0
  subst hq
  have hc := xK_arrq X.2.2.2.2.2.2.2.1 hK (ht G)
  subst hc
  have u1 : ¬ t < 100 := by omega
  have u2 : ¬ t = 101 := by omega
  have hw : xW G (xnew M t N) = xW G M ++ [(G.1 + M.1.1.length, .inl (G.2.2.2 t, N, .inr (.inr (.inr (.inr (fun _ => none))))))] := by
    rw [xW_new]; simp [xent, u1, u2, t3, xnew, xnw_eq]
  rw [← hw] at hP hD
  exact kk p l e s m args below meth c G A H1 locs ls X ⟨hP, hD, hS, by have := I.2.2.2.1; simp [xnew]; omega, I.2.2.2.2⟩ hl T0 hT0 X0
/-- a reference into a row of references -/
theorem x_aast {a n t ti b ci N : Nat} {i : Int32} {C : String} {T : u_T} {ty : Nat → FieldType} (hC : xCB ci C T N ty) (ht : ∀ G : xG, (xT G)[ti]? = some (G.2.2.2 t, .object C)) (t3 : ¬ t < 200) (hd : decode d.2.1 pc = .ok (.aastore, 1)) (ha : M.1.1[a]? = some (t, n)) (hb : M.1.1[b]? = some (ci, N)) (hi : xin i n = true) (kk : xEx d B K (pc + 1) lv st ((M.1.1, xup M.1.2 a i.toNatClampNeg (some b)), M.2) Q) : xEx d B K pc lv (.ref b :: .int i :: .ref a :: st) M Q := by
  intro p l e s m args below meth c G A H locs ls X I hl
  refine va_astq (r := (C, T, N)) X.1 X.2.1 X.2.2.2.2.2.2.2.1 I.1 I.2.1 I.2.2.1 a ti b ci (xW_refs ha t3) (ht G) (xW_obj hb hC.2.2.2.2) hC.1 (xin_vp hi) hd (fun H1 locs1 hP hD hS => ?_)
  rw [← xW_str ha t3] at hP hD
  exact kk p l e s m args below meth c G A H1 locs1 ls X ⟨hP, hD, hS, I.2.2.2⟩ hl
theorem x_objInit {idx a : Nat} (hd : decode d.2.1 pc = .ok (.invokespecial idx, 3)) (hw1 : Cond.methodLink d.1.cls idx Lib.objectInit ∈ xTG) (hw2 : Cond.instanceMethod Lib.objectInit ∈ xTG) (hw3 : Cond.code Lib.objectInit ⟨#[0xb1]⟩ 1 none ∈ xTG) (hst : (st.map fun v => v.category).sum ≤ 8) (hB : 1 ≤ B.1) (kk : xEx d B K (pc + 3) lv st M Q) : xEx d B K pc lv (.ref a :: st) M Q := by
  intro p l e s m args below meth c G A H locs ls X I hl
  refine W.objInit X.1 X.2.1 X.2.2.2.2.1 (X.2.2.2.2.2.1 _ hw1) (X.2.2.2.2.2.1 _ hw2) (X.2.2.2.2.2.1 _ hw3) rfl (hl.1.trans X.2.2.1.symm) rfl hd hB ?_ (kk p l e s m args below meth c G A H locs ls X I hl)
  have := xroom (m := m) (pc := pc) (ls := ls) (G := G) (st0 := (.ref a :: st).map (xtr G)) hst
  have h2 : (xrm B).locals = 40 * B.1 := rfl
  rw [h2]
  omega
/-! switches -/
theorem x_tsIn {dflt lo hi : Int} {offs : Array Int} {len : Nat} {x : Int32} {off : Int} (k0 : Int32) (tgt : Nat) (hx : x = k0) (hd : decode d.2.1 pc = .ok (.tableswitch dflt lo hi offs, len)) (h1 : ¬ k0.toInt < lo) (h2 : ¬ hi < k0.toInt) (ho : offs[(k0.toInt - lo).toNat]? = some off) (ht : (pc : Int) + off = (tgt : Int)) (k : xEx d B K tgt lv st M Q) : xEx d B K pc lv (.int x :: st) M Q := by
  subst hx
  exact fun p l e s m args below meth c G A H locs ls C I hl => lv_tableIn C.1 C.2.1 hd h1 h2 ho ht (k p l e s m args below meth c G A H locs ls C I hl)
theorem x_tsOut {dflt lo hi : Int} {offs : Array Int} {len : Nat} {x : Int32} (tgt : Nat) (hd : decode d.2.1 pc = .ok (.tableswitch dflt lo hi offs, len)) (h : x.toInt < lo ∨ hi < x.toInt) (ht : (pc : Int) + dflt = (tgt : Int)) (k : xEx d B K tgt lv st M Q) : xEx d B K pc lv (.int x :: st) M Q :=
  fun p l e s m args below meth c G A H locs ls C I hl => lv_tableOut C.1 C.2.1 hd h ht (k p l e s m args below meth c G A H locs ls C I hl)
theorem x_ls {dflt : Int} {ps : Array (Int × Int)} {len : Nat} {x : Int32} {off : Int} (tgt : Nat) (hd : decode d.2.1 pc = .ok (.lookupswitch dflt ps, len)) (hp : (ps.toList.zip (ps.toList.drop 1)).all (fun (a, next) => a.1 < next.1) = true) (ho : Op.lookupswitch.offset ps.toList dflt x.toInt = off) (ht : (pc : Int) + off = (tgt : Int)) (k : xEx d B K tgt lv st M Q) : xEx d B K pc lv (.int x :: st) M Q :=
  fun p l e s m args below meth c G A H locs ls C I hl => lv_lookup C.1 C.2.1 hd hp ho ht (k p l e s m args below meth c G A H locs ls C I hl)
/-! Math -/
def jmax (x y : Int32) : Int32 := if x < y then y else x
def jmin (x y : Int32) : Int32 := if y < x then y else x
theorem xcat_sum (G : xG) (st : List Value) : ((st.map (xtr G)).map fun v => v.category).sum = (st.map fun v => v.category).sum := by
  rw [List.map_map]
  have : ((fun v : Value => v.category) ∘ xtr G) = fun v => v.category := by funext v; exact xtr_cat G v
  rw [this]
theorem x_max {idx : Nat} {x y : Int32} (hd : decode d.2.1 pc = .ok (.invokestatic idx, 3)) (hw1 : Cond.methodLink d.1.cls idx Lib.Math.max.name ∈ xTG) (hw2 : Cond.static Lib.Math.max.name ∈ xTG) (hw3 : Cond.initialized "java/lang/Math" ∈ xTG) (hw4 : Cond.code Lib.Math.max.name Lib.Math.max.code 2 (some .int) ∈ xTG) (hst : (st.map fun v => v.category).sum ≤ 8) (hB : 1 ≤ B.1) (h1 : K.1 ≤ B.2.1) (h2 : K.2 ≤ B.2.2) (kk : xEx d B K (pc + 3) lv (.int (jmax x y) :: st) M Q) : xEx d B K pc lv (.int y :: .int x :: st) M Q := fun p l e s m args below meth c G A H locs ls X I hl =>
  va_mmax X.1 X.2.1 (X.2.2.1.trans hl.1.symm) X.2.2.2.2.1 (X.2.2.2.2.2.1 _ hw1) (X.2.2.2.2.2.1 _ hw2) (X.2.2.2.2.2.1 _ hw3) (X.2.2.2.2.2.1 _ hw4) hB (by rw [xcat_sum]; show _ ≤ 40 * B.1; omega) h1 h2 hd (kk p l e s m args below meth c G A H locs ls X I hl)
theorem x_min {idx : Nat} {x y : Int32} (hd : decode d.2.1 pc = .ok (.invokestatic idx, 3)) (hw1 : Cond.methodLink d.1.cls idx Lib.Math.min.name ∈ xTG) (hw2 : Cond.static Lib.Math.min.name ∈ xTG) (hw3 : Cond.initialized "java/lang/Math" ∈ xTG) (hw4 : Cond.code Lib.Math.min.name Lib.Math.min.code 2 (some .int) ∈ xTG) (hst : (st.map fun v => v.category).sum ≤ 8) (hB : 1 ≤ B.1) (h1 : K.1 ≤ B.2.1) (h2 : K.2 ≤ B.2.2) (kk : xEx d B K (pc + 3) lv (.int (jmin x y) :: st) M Q) : xEx d B K pc lv (.int y :: .int x :: st) M Q := fun p l e s m args below meth c G A H locs ls X I hl =>
  va_mmin X.1 X.2.1 (X.2.2.1.trans hl.1.symm) X.2.2.2.2.1 (X.2.2.2.2.2.1 _ hw1) (X.2.2.2.2.2.1 _ hw2) (X.2.2.2.2.2.1 _ hw3) (X.2.2.2.2.2.1 _ hw4) hB (by rw [xcat_sum]; show _ ≤ 40 * B.1; omega) h1 h2 hd (kk p l e s m args below meth c G A H locs ls X I hl)
/-! System.arraycopy -/
def xcp {α : Type} (f : Nat → Nat → α) (a0 a sp dp n : Nat) : Nat → Nat → α := fun x => if x = a then va_cpy (f a0) (f a) sp dp n else f x
theorem xcp_ne {α : Type} (f : Nat → Nat → α) (a0 a sp dp n : Nat) {x : Nat} (h : x ≠ a) : xcp f a0 a sp dp n x = f x := by simp [xcp, h]
theorem xcp_eq {α : Type} (f : Nat → Nat → α) (a0 a sp dp n : Nat) : xcp f a0 a sp dp n a = va_cpy (f a0) (f a) sp dp n := by simp [xcp]
theorem xW_cpi {G : xG} {M : xMem} {a N a0 sp dp n : Nat} (h : M.1.1[a]? = some (100, N)) : xW G (M.1, (xcp M.2.1 a0 a sp dp n, M.2.2)) = (xW G M).set a (G.1 + a, .inl (G.2.2.2 100, N, .inl (va_cpy (M.2.1 a0) (M.2.1 a) sp dp n))) := by
  rw [xW_upd (M := M) (M' := (M.1, (xcp M.2.1 a0 a sp dp n, M.2.2))) (a := a) rfl h (fun x q hx => by
    have : xfv G (M.1, (xcp M.2.1 a0 a sp dp n, M.2.2)) x q.1 = xfv G M x q.1 := by funext j; simp [xfv, xcp_ne _ _ _ _ _ _ hx]
    simp [xent, this, xcp_ne _ _ _ _ _ _ hx])]
  congr 1
  simp [xent, xcp_eq]
theorem xW_cpl {G : xG} {M : xMem} {a N a0 sp dp n : Nat} (h : M.1.1[a]? = some (101, N)) : xW G (M.1, (M.2.1, xcp M.2.2 a0 a sp dp n)) = (xW G M).set a (G.1 + a, .inl (G.2.2.2 101, N, .inr (.inl (va_cpy (M.2.2 a0) (M.2.2 a) sp dp n)))) := by
  rw [xW_upd (M := M) (M' := (M.1, (M.2.1, xcp M.2.2 a0 a sp dp n))) (a := a) rfl h (fun x q hx => by
    have : xfv G (M.1, (M.2.1, xcp M.2.2 a0 a sp dp n)) x q.1 = xfv G M x q.1 := by funext j; simp [xfv, xcp_ne _ _ _ _ _ _ hx]
    simp [xent, this, xcp_ne _ _ _ _ _ _ hx])]
  congr 1
  simp [xent, xcp_eq]
theorem xcroom (G : xG) (hst : (st.map fun v => v.category).sum ≤ 8) (hB : 1 ≤ B.1) : ((st.map (xtr G)).map fun v => v.category).sum + (nativeFrameWords "java/lang/System" "arraycopy" 5 + 11) ≤ (xrm B).locals := by
  rw [xcat_sum]
  have h1 : nativeFrameWords "java/lang/System" "arraycopy" 5 ≤ 20 := by decide +kernel
  have h2 : (xrm B).locals = 40 * B.1 := rfl
  rw [h2]
  omega
/-- the places of an arraycopy are there -/
def xcpin (sp dp n : Int32) (n0 n1 : Nat) : Bool := decide (0 ≤ sp) && decide (0 ≤ dp) && decide (0 ≤ n) && decide (sp.toNatClampNeg + n.toNatClampNeg ≤ n0) && decide (dp.toNatClampNeg + n.toNatClampNeg ≤ n1)
theorem x_copyi {idx a0 a n0 n1 : Nat} {sp dp n : Int32} (hd : decode d.2.1 pc = .ok (.invokestatic idx, 3)) (hw1 : Cond.methodLink d.1.cls idx arraycopyName ∈ xTG) (hw2 : Cond.native arraycopyName ∈ xTG) (hw3 : Cond.static arraycopyName ∈ xTG) (hw4 : Cond.initialized "java/lang/System" ∈ xTG) (ha0 : M.1.1[a0]? = some (100, n0)) (ha1 : M.1.1[a]? = some (100, n1)) (hi : xcpin sp dp n n0 n1 = true) (hst : (st.map fun v => v.category).sum ≤ 8) (hB : 1 ≤ B.1) (kk : xEx d B K (pc + 3) lv st (M.1, (xcp M.2.1 a0 a sp.toNatClampNeg dp.toNatClampNeg n.toNatClampNeg, M.2.2)) Q) : xEx d B K pc lv (.int n :: .int dp :: .ref a :: .int sp :: .ref a0 :: st) M Q := by
  intro p l e s m args below meth c G A H locs ls X I hl
  simp only [xcpin, Bool.and_eq_true, decide_eq_true_eq] at hi
  obtain ⟨⟨⟨⟨h1, h2⟩, h3⟩, h4⟩, h5⟩ := hi
  refine va_copyi X.1 X.2.1 (X.2.2.1.trans hl.1.symm) X.2.2.2.2.1 (X.2.2.2.2.2.1 _ hw1) (X.2.2.2.2.2.1 _ hw2) (X.2.2.2.2.2.1 _ hw3) (X.2.2.2.2.2.1 _ hw4) X.2.2.2.2.2.2.2.1 I.1 I.2.1 I.2.2.1 a0 a 0 0 (xW_int ha0 (by decide) (by decide) (by decide)) (xW_int ha1 (by decide) (by decide) (by decide)) rfl rfl rfl (Int32.not_lt.mpr h1) (Int32.not_lt.mpr h2) (Int32.not_lt.mpr h3) h4 h5 (fun _ _ => rfl) hB (xcroom G hst hB) hd (fun H1 locs1 hP hD hS => ?_)
  rw [← xW_cpi ha1] at hP hD
  exact kk p l e s m args below meth c G A H1 locs1 ls X ⟨hP, hD, hS, I.2.2.2⟩ hl
theorem x_copyl {idx a0 a n0 n1 : Nat} {sp dp n : Int32} (hd : decode d.2.1 pc = .ok (.invokestatic idx, 3)) (hw1 : Cond.methodLink d.1.cls idx arraycopyName ∈ xTG) (hw2 : Cond.native arraycopyName ∈ xTG) (hw3 : Cond.static arraycopyName ∈ xTG) (hw4 : Cond.initialized "java/lang/System" ∈ xTG) (ha0 : M.1.1[a0]? = some (101, n0)) (ha1 : M.1.1[a]? = some (101, n1)) (hi : xcpin sp dp n n0 n1 = true) (hst : (st.map fun v => v.category).sum ≤ 8) (hB : 1 ≤ B.1) (kk : xEx d B K (pc + 3) lv st (M.1, (M.2.1, xcp M.2.2 a0 a sp.toNatClampNeg dp.toNatClampNeg n.toNatClampNeg)) Q) : xEx d B K pc lv (.int n :: .int dp :: .ref a :: .int sp :: .ref a0 :: st) M Q := by
  intro p l e s m args below meth c G A H locs ls X I hl
  simp only [xcpin, Bool.and_eq_true, decide_eq_true_eq] at hi
  obtain ⟨⟨⟨⟨h1, h2⟩, h3⟩, h4⟩, h5⟩ := hi
  refine va_copyl X.1 X.2.1 (X.2.2.1.trans hl.1.symm) X.2.2.2.2.1 (X.2.2.2.2.2.1 _ hw1) (X.2.2.2.2.2.1 _ hw2) (X.2.2.2.2.2.1 _ hw3) (X.2.2.2.2.2.1 _ hw4) X.2.2.2.2.2.2.2.1 I.1 I.2.1 I.2.2.1 a0 a 1 1 (xW_long ha0) (xW_long ha1) rfl rfl rfl (Int32.not_lt.mpr h1) (Int32.not_lt.mpr h2) (Int32.not_lt.mpr h3) h4 h5 (fun _ _ => rfl) hB (xcroom G hst hB) hd (fun H1 locs1 hP hD hS => ?_)
  rw [← xW_cpl ha1] at hP hD
  exact kk p l e s m args below meth c G A H1 locs1 ls X ⟨hP, hD, hS, I.2.2.2⟩ hl
end xAlloc
