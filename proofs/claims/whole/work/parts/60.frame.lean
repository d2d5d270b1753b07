/-! frames: what a plain function leaves as it was -/
def xfr (Rg : Nat → Prop) (D D' : xDt) : Prop := ∀ x, ¬ Rg x → D'.1 x = D.1 x ∧ D'.2 x = D.2 x
def xRC (S : xSt) (Rg : Nat → Prop) : Prop := (∀ {a ci : Nat}, xK S a ci → Rg a → ∀ k kd : Nat, xff ci k kd = true → Rg (xr S a k)) ∧ (∀ {a ci : Nat}, xK S a ci → Rg a → 200 ≤ ci → ∀ {i : Nat}, i < xl S a → Rg (xr S a i))
theorem xfr_rf {Rg : Nat → Prop} {D : xDt} : xfr Rg D D := fun _ _ => ⟨rfl, rfl⟩
theorem xfr_tr {Rg : Nat → Prop} {D D1 D2 : xDt} (h : xfr Rg D D1) (h2 : xfr Rg D1 D2) : xfr Rg D D2 := fun x hx => ⟨(h2 x hx).1.trans (h x hx).1, (h2 x hx).2.trans (h x hx).2⟩
theorem xfr_i {Rg : Nat → Prop} {D D1 D2 : xDt} {a k : Nat} {v : Int32} (ha : Rg a) (e : D1 = (xup D.1 a k v, D.2)) (h2 : xfr Rg D1 D2) : xfr Rg D D2 := by
  refine xfr_tr (D1 := D1) (fun x hx => ?_) h2
  subst e
  exact ⟨xup_ne _ _ _ _ (fun q => hx (q ▸ ha)), rfl⟩
theorem xfr_l {Rg : Nat → Prop} {D D1 D2 : xDt} {a k : Nat} {v : Int64} (ha : Rg a) (e : D1 = (D.1, xup D.2 a k v)) (h2 : xfr Rg D1 D2) : xfr Rg D D2 := by
  refine xfr_tr (D1 := D1) (fun x hx => ?_) h2
  subst e
  exact ⟨rfl, xup_ne _ _ _ _ (fun q => hx (q ▸ ha))⟩
theorem xfr_ci {Rg : Nat → Prop} {D D1 D2 : xDt} {a0 a i j n : Nat} (ha : Rg a) (e : D1 = (xcp D.1 a0 a i j n, D.2)) (h2 : xfr Rg D1 D2) : xfr Rg D D2 := by
  refine xfr_tr (D1 := D1) (fun x hx => ?_) h2
  subst e
  exact ⟨xcp_ne _ _ _ _ _ _ (fun q => hx (q ▸ ha)), rfl⟩
theorem xfr_cl {Rg : Nat → Prop} {D D1 D2 : xDt} {a0 a i j n : Nat} (ha : Rg a) (e : D1 = (D.1, xcp D.2 a0 a i j n)) (h2 : xfr Rg D1 D2) : xfr Rg D D2 := by
  refine xfr_tr (D1 := D1) (fun x hx => ?_) h2
  subst e
  exact ⟨rfl, xcp_ne _ _ _ _ _ _ (fun q => hx (q ▸ ha))⟩
theorem xif_p {β : Type} {c : Prop} [Decidable c] {a b : Option β} {r : β} {Pr : Prop} (h : (if c then a else b) = some r) (k1 : c → a = some r → Pr) (k2 : ¬ c → b = some r → Pr) : Pr := by
  split at h
  · exact k1 (by assumption) h
  · exact k2 (by assumption) h
theorem xif_n {β : Type} {c : Prop} [Decidable c] {a b : Option β} {r : β} {Pr : Prop} (h : (if c then a else b) = some r) (k1 : ¬ c → b = some r → Pr) (k2 : c → a = some r → Pr) : Pr := xif_p h k2 k1

theorem U_X11_signOf {F P : Nat} {S : xSt} (hS : xWF S) {Rg : Nat → Prop} (hR : xRC S Rg) {v0 : Int32} {D : xDt} {r : Int32 × xDt} (h : f_X11_signOf F P S v0 D = some r) : xfr Rg D r.2 := by
  unfold f_X11_signOf at h
  obtain rfl := Option.some.inj h
  exact xfr_rf

theorem u_J0_isLatin1_aae02_17 {F P : Nat} {S : xSt} (hS : xWF S) {Rg : Nat → Prop} (hR : xRC S Rg) {D : xDt} {r : Int32 × xDt} (h : f_J0_isLatin1_aae02_17 F P S D = some r) : xfr Rg D r.2 := by
  unfold f_J0_isLatin1_aae02_17 at h
  obtain rfl := Option.some.inj h
  exact xfr_rf

theorem U_J0_isLatin1_aae02 {F P : Nat} {S : xSt} (hS : xWF S) {Rg : Nat → Prop} (hR : xRC S Rg) {v0 : Nat} {D : xDt} {r : Int32 × xDt} (k0 : v0 < 4) (h : f_J0_isLatin1_aae02 F P S v0 D = some r) : xfr Rg D r.2 := by
  unfold f_J0_isLatin1_aae02 at h
  refine xif_p h (fun c h => ?_) (fun c h => ?_)
  · skip
    exact u_J0_isLatin1_aae02_17 hS hR h
  · skip
    refine xif_n h (fun c h => ?_) (fun c h => ?_)
    · skip
      exact u_J0_isLatin1_aae02_17 hS hR h
    · skip
      obtain rfl := Option.some.inj h
      exact xfr_rf

theorem U_J0_coder_7d493 {F P : Nat} {S : xSt} (hS : xWF S) {Rg : Nat → Prop} (hR : xRC S Rg) {v0 : Nat} {D : xDt} {r : Int32 × xDt} (k0 : v0 < 4) (h : f_J0_coder_7d493 F P S v0 D = some r) : xfr Rg D r.2 := by
  unfold f_J0_coder_7d493 at h
  refine xif_p h (fun c h => ?_) (fun c h => ?_)
  · skip
    refine xgrd_e h (fun g1 h => ?_)
    obtain rfl := Option.some.inj h
    exact xfr_rf
  · skip
    refine xgrd_e h (fun g2 h => ?_)
    obtain rfl := Option.some.inj h
    exact xfr_rf

theorem U_J0_length_8abf5 {F P : Nat} {S : xSt} (hS : xWF S) {Rg : Nat → Prop} (hR : xRC S Rg) {v0 : Nat} {D : xDt} {r : Int32 × xDt} (k0 : v0 < 4) (h : f_J0_length_8abf5 F P S v0 D = some r) : xfr Rg D r.2 := by
  unfold f_J0_length_8abf5 at h
  refine xbnd_e h (fun q1 e1 h => ?_)
  refine xfr_tr (U_J0_coder_7d493 hS hR k0 e1) ?_
  obtain rfl := Option.some.inj h
  exact xfr_rf

theorem u_J1_canEncode_9a6ad_15 {F P : Nat} {S : xSt} (hS : xWF S) {Rg : Nat → Prop} (hR : xRC S Rg) {D : xDt} {r : Int32 × xDt} (h : f_J1_canEncode_9a6ad_15 F P S D = some r) : xfr Rg D r.2 := by
  unfold f_J1_canEncode_9a6ad_15 at h
  obtain rfl := Option.some.inj h
  exact xfr_rf

theorem U_J1_canEncode_9a6ad {F P : Nat} {S : xSt} (hS : xWF S) {Rg : Nat → Prop} (hR : xRC S Rg) {v0 : Int32} {D : xDt} {r : Int32 × xDt} (h : f_J1_canEncode_9a6ad F P S v0 D = some r) : xfr Rg D r.2 := by
  unfold f_J1_canEncode_9a6ad at h
  refine xif_p h (fun c h => ?_) (fun c h => ?_)
  · skip
    exact u_J1_canEncode_9a6ad_15 hS hR h
  · skip
    refine xif_p h (fun c h => ?_) (fun c h => ?_)
    · skip
      exact u_J1_canEncode_9a6ad_15 hS hR h
    · skip
      obtain rfl := Option.some.inj h
      exact xfr_rf

theorem u_J1_indexOfChar_4cfef_7s {F P : Nat} {S : xSt} (hS : xWF S) {Rg : Nat → Prop} (hR : xRC S Rg) {rec_7 : Nat → Int32 → Int32 → Int32 → xDt → Option (Int32 × xDt)} (hrec_7 : ∀ {v0 : Nat} {v3 : Int32} {v4 : Int32} {v5 : Int32} {D : xDt} {r : Int32 × xDt}, v0 < 4 → rec_7 v0 v3 v4 v5 D = some r → xfr Rg D r.2) {v0 : Nat} {v3 : Int32} {v4 : Int32} {v5 : Int32} {D : xDt} {r : Int32 × xDt} (k0 : v0 < 4) (h : f_J1_indexOfChar_4cfef_7s F P S rec_7 v0 v3 v4 v5 D = some r) : xfr Rg D r.2 := by
  unfold f_J1_indexOfChar_4cfef_7s at h
  refine xif_p h (fun c h => ?_) (fun c h => ?_)
  · skip
    obtain rfl := Option.some.inj h
    exact xfr_rf
  · skip
    refine xgrd_e h (fun g1 h => ?_)
    refine xif_n h (fun c h => ?_) (fun c h => ?_)
    · skip
      refine xlet_e h (fun v5_2 ev5_2 h => ?_)
      exact hrec_7 k0 h
    · skip
      obtain rfl := Option.some.inj h
      exact xfr_rf
theorem u_J1_indexOfChar_4cfef_7 {F P : Nat} {S : xSt} (hS : xWF S) {Rg : Nat → Prop} (hR : xRC S Rg) : ∀ (n : Nat) {v0 : Nat} {v3 : Int32} {v4 : Int32} {v5 : Int32} {D : xDt} {r : Int32 × xDt}, v0 < 4 → f_J1_indexOfChar_4cfef_7 F P S n v0 v3 v4 v5 D = some r → xfr Rg D r.2 := by
  intro n
  induction n with
  | zero => intros; rename_i h; cases h
  | succ n ih =>
    intro v0 v3 v4 v5 D r k0 h
    exact u_J1_indexOfChar_4cfef_7s hS hR (fun k0 h => ih k0 h) k0 h

theorem U_J1_indexOfChar_4cfef {F P : Nat} {S : xSt} (hS : xWF S) {Rg : Nat → Prop} (hR : xRC S Rg) {v0 : Nat} {v1 : Int32} {v2 : Int32} {v3 : Int32} {D : xDt} {r : Int32 × xDt} (k0 : v0 < 4) (h : f_J1_indexOfChar_4cfef F P S v0 v1 v2 v3 D = some r) : xfr Rg D r.2 := by
  unfold f_J1_indexOfChar_4cfef at h
  refine xlet_e h (fun v4_1 ev4_1 h => ?_)
  exact u_J1_indexOfChar_4cfef_7 hS hR F k0 h

theorem U_J1_indexOf_4cfef {F P : Nat} {S : xSt} (hS : xWF S) {Rg : Nat → Prop} (hR : xRC S Rg) {v0 : Nat} {v1 : Int32} {v2 : Int32} {v3 : Int32} {D : xDt} {r : Int32 × xDt} (k0 : v0 < 4) (h : f_J1_indexOf_4cfef F P S v0 v1 v2 v3 D = some r) : xfr Rg D r.2 := by
  unfold f_J1_indexOf_4cfef at h
  refine xbnd_e h (fun q1 e1 h => ?_)
  refine xfr_tr (U_J1_canEncode_9a6ad hS hR e1) ?_
  refine xif_n h (fun c h => ?_) (fun c h => ?_)
  · skip
    refine xlet_e h (fun v2_2 ev2_2 h => ?_)
    refine xlet_e h (fun v3_3 ev3_3 h => ?_)
    refine xif_p h (fun c h => ?_) (fun c h => ?_)
    · skip
      refine xbnd_e h (fun q4 e4 h => ?_)
      refine xfr_tr (U_J1_indexOfChar_4cfef hS hR k0 e4) ?_
      obtain rfl := Option.some.inj h
      exact xfr_rf
    · skip
      obtain rfl := Option.some.inj h
      exact xfr_rf
  · skip
    obtain rfl := Option.some.inj h
    exact xfr_rf

theorem u_J3_checkFromToIndex_8c36e_14 {F P : Nat} {S : xSt} (hS : xWF S) {Rg : Nat → Prop} (hR : xRC S Rg) {v0 : Int32} {v1 : Int32} {v2 : Int32} {v3 : Nat} {D : xDt} {r : Int32 × xDt} (h : f_J3_checkFromToIndex_8c36e_14 F P S v0 v1 v2 v3 D = some r) : xfr Rg D r.2 := by
  unfold f_J3_checkFromToIndex_8c36e_14 at h
  cases h

theorem U_J3_checkFromToIndex_8c36e {F P : Nat} {S : xSt} (hS : xWF S) {Rg : Nat → Prop} (hR : xRC S Rg) {v0 : Int32} {v1 : Int32} {v2 : Int32} {v3 : Nat} {D : xDt} {r : Int32 × xDt} (h : f_J3_checkFromToIndex_8c36e F P S v0 v1 v2 v3 D = some r) : xfr Rg D r.2 := by
  unfold f_J3_checkFromToIndex_8c36e at h
  refine xif_p h (fun c h => ?_) (fun c h => ?_)
  · skip
    exact u_J3_checkFromToIndex_8c36e_14 hS hR h
  · skip
    refine xif_p h (fun c h => ?_) (fun c h => ?_)
    · skip
      exact u_J3_checkFromToIndex_8c36e_14 hS hR h
    · skip
      refine xif_p h (fun c h => ?_) (fun c h => ?_)
      · skip
        obtain rfl := Option.some.inj h
        exact xfr_rf
      · skip
        exact u_J3_checkFromToIndex_8c36e_14 hS hR h

theorem U_J0_checkBoundsBeginEnd_23922 {F P : Nat} {S : xSt} (hS : xWF S) {Rg : Nat → Prop} (hR : xRC S Rg) {v0 : Int32} {v1 : Int32} {v2 : Int32} {D : xDt} {r : xDt} (h : f_J0_checkBoundsBeginEnd_23922 F P S v0 v1 v2 D = some r) : xfr Rg D r := by
  unfold f_J0_checkBoundsBeginEnd_23922 at h
  refine xbnd_e h (fun q1 e1 h => ?_)
  refine xfr_tr (U_J3_checkFromToIndex_8c36e hS hR e1) ?_
  obtain rfl := Option.some.inj h
  exact xfr_rf

theorem U_J0_indexOf_7cf53 {F P : Nat} {S : xSt} (hS : xWF S) {Rg : Nat → Prop} (hR : xRC S Rg) {v0 : Nat} {v1 : Int32} {v2 : Int32} {D : xDt} {r : Int32 × xDt} (k0 : v0 < 4) (h : f_J0_indexOf_7cf53 F P S v0 v1 v2 D = some r) : xfr Rg D r.2 := by
  unfold f_J0_indexOf_7cf53 at h
  refine xbnd_e h (fun q1 e1 h => ?_)
  refine xfr_tr (U_J0_isLatin1_aae02 hS hR k0 e1) ?_
  refine xif_p h (fun c h => ?_) (fun c h => ?_)
  · skip
    refine xbnd_e h (fun q2 e2 h => ?_)
    refine xfr_tr (U_J0_length_8abf5 hS hR k0 e2) ?_
    cases h
  · skip
    refine xbnd_e h (fun q3 e3 h => ?_)
    refine xfr_tr (U_J0_length_8abf5 hS hR k0 e3) ?_
    refine xbnd_e h (fun q4 e4 h => ?_)
    refine xfr_tr (U_J1_indexOf_4cfef hS hR k0 e4) ?_
    obtain rfl := Option.some.inj h
    exact xfr_rf

theorem U_J0_indexOf_0f7a4 {F P : Nat} {S : xSt} (hS : xWF S) {Rg : Nat → Prop} (hR : xRC S Rg) {v0 : Nat} {v1 : Int32} {D : xDt} {r : Int32 × xDt} (k0 : v0 < 4) (h : f_J0_indexOf_0f7a4 F P S v0 v1 D = some r) : xfr Rg D r.2 := by
  unfold f_J0_indexOf_0f7a4 at h
  refine xbnd_e h (fun q1 e1 h => ?_)
  refine xfr_tr (U_J0_indexOf_7cf53 hS hR k0 e1) ?_
  obtain rfl := Option.some.inj h
  exact xfr_rf

theorem u_X2_hasAny_2s {F P : Nat} {S : xSt} (hS : xWF S) {Rg : Nat → Prop} (hR : xRC S Rg) {rec_2 : Nat → Nat → Int32 → xDt → Option (Int32 × xDt)} (hrec_2 : ∀ {v0 : Nat} {v1 : Nat} {v2 : Int32} {D : xDt} {r : Int32 × xDt}, xK S v0 2 → v1 < 4 → rec_2 v0 v1 v2 D = some r → xfr Rg D r.2) {v0 : Nat} {v1 : Nat} {v2 : Int32} {D : xDt} {r : Int32 × xDt} (k0 : xK S v0 2) (k1 : v1 < 4) (h : f_X2_hasAny_2s F P S rec_2 v0 v1 v2 D = some r) : xfr Rg D r.2 := by
  unfold f_X2_hasAny_2s at h
  refine xif_p h (fun c h => ?_) (fun c h => ?_)
  · skip
    obtain rfl := Option.some.inj h
    exact xfr_rf
  · skip
    refine xgrd_e h (fun g1 h => ?_)
    refine xbnd_e h (fun q2 e2 h => ?_)
    refine xfr_tr (U_X11_signOf hS hR e2) ?_
    refine xbnd_e h (fun q3 e3 h => ?_)
    refine xfr_tr (U_J0_indexOf_0f7a4 hS hR k1 e3) ?_
    refine xif_p h (fun c h => ?_) (fun c h => ?_)
    · skip
      refine xlet_e h (fun v2_4 ev2_4 h => ?_)
      exact hrec_2 k0 k1 h
    · skip
      obtain rfl := Option.some.inj h
      exact xfr_rf
theorem u_X2_hasAny_2 {F P : Nat} {S : xSt} (hS : xWF S) {Rg : Nat → Prop} (hR : xRC S Rg) : ∀ (n : Nat) {v0 : Nat} {v1 : Nat} {v2 : Int32} {D : xDt} {r : Int32 × xDt}, xK S v0 2 → v1 < 4 → f_X2_hasAny_2 F P S n v0 v1 v2 D = some r → xfr Rg D r.2 := by
  intro n
  induction n with
  | zero => intros; rename_i h; cases h
  | succ n ih =>
    intro v0 v1 v2 D r k0 k1 h
    exact u_X2_hasAny_2s hS hR (fun k0 k1 h => ih k0 k1 h) k0 k1 h

theorem U_X2_hasAny {F P : Nat} {S : xSt} (hS : xWF S) {Rg : Nat → Prop} (hR : xRC S Rg) {v0 : Nat} {v1 : Nat} {D : xDt} {r : Int32 × xDt} (k0 : xK S v0 2) (k1 : v1 < 4) (h : f_X2_hasAny F P S v0 v1 D = some r) : xfr Rg D r.2 := by
  unfold f_X2_hasAny at h
  exact u_X2_hasAny_2 hS hR F k0 k1 h

theorem u_J7_fill_53178_5s {F P : Nat} {S : xSt} (hS : xWF S) {Rg : Nat → Prop} (hR : xRC S Rg) {rec_5 : Nat → Int32 → Int32 → Int32 → xDt → Option (xDt)} (hrec_5 : ∀ {v0 : Nat} {v1 : Int32} {v2 : Int32} {v3 : Int32} {D : xDt} {r : xDt}, xK S v0 100 → Rg v0 → rec_5 v0 v1 v2 v3 D = some r → xfr Rg D r) {v0 : Nat} {v1 : Int32} {v2 : Int32} {v3 : Int32} {D : xDt} {r : xDt} (k0 : xK S v0 100) (r0 : Rg v0) (h : f_J7_fill_53178_5s F P S rec_5 v0 v1 v2 v3 D = some r) : xfr Rg D r := by
  unfold f_J7_fill_53178_5s at h
  refine xif_p h (fun c h => ?_) (fun c h => ?_)
  · skip
    obtain rfl := Option.some.inj h
    exact xfr_rf
  · skip
    refine xgrd_e h (fun g1 h => ?_)
    refine xlet_e h (fun D2 eD2 h => ?_)
    refine xfr_i r0 eD2 ?_
    refine xlet_e h (fun v2_3 ev2_3 h => ?_)
    exact hrec_5 k0 r0 h
theorem u_J7_fill_53178_5 {F P : Nat} {S : xSt} (hS : xWF S) {Rg : Nat → Prop} (hR : xRC S Rg) : ∀ (n : Nat) {v0 : Nat} {v1 : Int32} {v2 : Int32} {v3 : Int32} {D : xDt} {r : xDt}, xK S v0 100 → Rg v0 → f_J7_fill_53178_5 F P S n v0 v1 v2 v3 D = some r → xfr Rg D r := by
  intro n
  induction n with
  | zero => intros; rename_i h; cases h
  | succ n ih =>
    intro v0 v1 v2 v3 D r k0 r0 h
    exact u_J7_fill_53178_5s hS hR (fun k0 r0 h => ih k0 r0 h) k0 r0 h

theorem U_J7_fill_53178 {F P : Nat} {S : xSt} (hS : xWF S) {Rg : Nat → Prop} (hR : xRC S Rg) {v0 : Nat} {v1 : Int32} {D : xDt} {r : xDt} (k0 : xK S v0 100) (r0 : Rg v0) (h : f_J7_fill_53178 F P S v0 v1 D = some r) : xfr Rg D r := by
  unfold f_J7_fill_53178 at h
  refine xlet_e h (fun v3_1 ev3_1 h => ?_)
  exact u_J7_fill_53178_5 hS hR F k0 r0 h

theorem u_X11_isLeaf_24 {F P : Nat} {S : xSt} (hS : xWF S) {Rg : Nat → Prop} (hR : xRC S Rg) {D : xDt} {r : Int32 × xDt} (h : f_X11_isLeaf_24 F P S D = some r) : xfr Rg D r.2 := by
  unfold f_X11_isLeaf_24 at h
  obtain rfl := Option.some.inj h
  exact xfr_rf

theorem u_X11_isLeaf_12 {F P : Nat} {S : xSt} (hS : xWF S) {Rg : Nat → Prop} (hR : xRC S Rg) {v0 : Int32} {D : xDt} {r : Int32 × xDt} (h : f_X11_isLeaf_12 F P S v0 D = some r) : xfr Rg D r.2 := by
  unfold f_X11_isLeaf_12 at h
  refine xif_p h (fun c h => ?_) (fun c h => ?_)
  · skip
    exact u_X11_isLeaf_24 hS hR h
  · skip
    refine xif_n h (fun c h => ?_) (fun c h => ?_)
    · skip
      obtain rfl := Option.some.inj h
      exact xfr_rf
    · skip
      exact u_X11_isLeaf_24 hS hR h

theorem U_X11_isLeaf {F P : Nat} {S : xSt} (hS : xWF S) {Rg : Nat → Prop} (hR : xRC S Rg) {v0 : Int32} {D : xDt} {r : Int32 × xDt} (h : f_X11_isLeaf F P S v0 D = some r) : xfr Rg D r.2 := by
  unfold f_X11_isLeaf at h
  refine xif_p h (fun c h => ?_) (fun c h => ?_)
  · skip
    exact u_X11_isLeaf_12 hS hR h
  · skip
    refine xif_p h (fun c h => ?_) (fun c h => ?_)
    · skip
      exact u_X11_isLeaf_24 hS hR h
    · skip
      exact u_X11_isLeaf_12 hS hR h

theorem u_X8_isBase_24 {F P : Nat} {S : xSt} (hS : xWF S) {Rg : Nat → Prop} (hR : xRC S Rg) {D : xDt} {r : Int32 × xDt} (h : f_X8_isBase_24 F P S D = some r) : xfr Rg D r.2 := by
  unfold f_X8_isBase_24 at h
  obtain rfl := Option.some.inj h
  exact xfr_rf

theorem u_X8_isBase_28 {F P : Nat} {S : xSt} (hS : xWF S) {Rg : Nat → Prop} (hR : xRC S Rg) {D : xDt} {r : Int32 × xDt} (h : f_X8_isBase_28 F P S D = some r) : xfr Rg D r.2 := by
  unfold f_X8_isBase_28 at h
  obtain rfl := Option.some.inj h
  exact xfr_rf

theorem U_X8_isBase {F P : Nat} {S : xSt} (hS : xWF S) {Rg : Nat → Prop} (hR : xRC S Rg) {v0 : Int32} {D : xDt} {r : Int32 × xDt} (h : f_X8_isBase F P S v0 D = some r) : xfr Rg D r.2 := by
  unfold f_X8_isBase at h
  refine xif_p h (fun c h => ?_) (fun c h => ?_)
  · skip
    exact u_X8_isBase_24 hS hR h
  · skip
    refine xif_p h (fun c h => ?_) (fun c h => ?_)
    · skip
      exact u_X8_isBase_24 hS hR h
    · skip
      refine xif_p h (fun c h => ?_) (fun c h => ?_)
      · skip
        exact u_X8_isBase_28 hS hR h
      · skip
        refine xif_p h (fun c h => ?_) (fun c h => ?_)
        · skip
          exact u_X8_isBase_28 hS hR h
        · skip
          exact u_X8_isBase_24 hS hR h

theorem u_X8_make_89 {F P : Nat} {S : xSt} (hS : xWF S) {Rg : Nat → Prop} (hR : xRC S Rg) {rec_24 : Nat → Int32 → Int32 → Int32 → Int32 → Int32 → xDt → Option (Int32 × xDt)} (hrec_24 : ∀ {v0 : Nat} {v1 : Int32} {v2 : Int32} {v3 : Int32} {v4 : Int32} {v5 : Int32} {D : xDt} {r : Int32 × xDt}, xK S v0 8 → Rg v0 → rec_24 v0 v1 v2 v3 v4 v5 D = some r → xfr Rg D r.2) {v0 : Nat} {v1 : Int32} {v2 : Int32} {v3 : Int32} {v4 : Int32} {v5 : Int32} {D : xDt} {r : Int32 × xDt} (k0 : xK S v0 8) (r0 : Rg v0) (h : f_X8_make_89 F P S rec_24 v0 v1 v2 v3 v4 v5 D = some r) : xfr Rg D r.2 := by
  unfold f_X8_make_89 at h
  refine xlet_e h (fun v4_1 ev4_1 h => ?_)
  refine xlet_e h (fun v5_2 ev5_2 h => ?_)
  exact hrec_24 k0 r0 h

theorem u_X8_make_243 {F P : Nat} {S : xSt} (hS : xWF S) {Rg : Nat → Prop} (hR : xRC S Rg) {v0 : Nat} {D : xDt} {r : Int32 × xDt} (k0 : xK S v0 8) (r0 : Rg v0) (h : f_X8_make_243 F P S v0 D = some r) : xfr Rg D r.2 := by
  unfold f_X8_make_243 at h
  refine xlet_e h (fun D1 eD1 h => ?_)
  refine xfr_i r0 eD1 ?_
  obtain rfl := Option.some.inj h
  exact xfr_rf

theorem u_X8_make_152 {F P : Nat} {S : xSt} (hS : xWF S) {Rg : Nat → Prop} (hR : xRC S Rg) {v0 : Nat} {v1 : Int32} {v2 : Int32} {v3 : Int32} {v4 : Int32} {v5 : Int32} {D : xDt} {r : Int32 × xDt} (k0 : xK S v0 8) (r0 : Rg v0) (h : f_X8_make_152 F P S v0 v1 v2 v3 v4 v5 D = some r) : xfr Rg D r.2 := by
  unfold f_X8_make_152 at h
  refine xgrd_e h (fun g1 h => ?_)
  refine xlet_e h (fun D2 eD2 h => ?_)
  refine xfr_i (hR.1 k0 r0 5 100 rfl) eD2 ?_
  refine xgrd_e h (fun g3 h => ?_)
  refine xlet_e h (fun D4 eD4 h => ?_)
  refine xfr_i (hR.1 k0 r0 0 100 rfl) eD4 ?_
  refine xgrd_e h (fun g5 h => ?_)
  refine xlet_e h (fun D6 eD6 h => ?_)
  refine xfr_i (hR.1 k0 r0 1 100 rfl) eD6 ?_
  refine xgrd_e h (fun g7 h => ?_)
  refine xlet_e h (fun D8 eD8 h => ?_)
  refine xfr_i (hR.1 k0 r0 2 100 rfl) eD8 ?_
  refine xgrd_e h (fun g9 h => ?_)
  refine xlet_e h (fun D10 eD10 h => ?_)
  refine xfr_i (hR.1 k0 r0 3 100 rfl) eD10 ?_
  refine xif_p h (fun c h => ?_) (fun c h => ?_)
  · skip
    exact u_X8_make_243 hS hR k0 r0 h
  · skip
    refine xgrd_e h (fun g11 h => ?_)
    refine xlet_e h (fun D12 eD12 h => ?_)
    refine xfr_i (hR.1 k0 r0 3 100 rfl) eD12 ?_
    refine xlet_e h (fun D13 eD13 h => ?_)
    refine xfr_i r0 eD13 ?_
    refine xgrd_e h (fun g14 h => ?_)
    refine xlet_e h (fun D15 eD15 h => ?_)
    refine xfr_i (hR.1 k0 r0 4 100 rfl) eD15 ?_
    exact u_X8_make_243 hS hR k0 r0 h

theorem u_X8_make_105 {F P : Nat} {S : xSt} (hS : xWF S) {Rg : Nat → Prop} (hR : xRC S Rg) {v0 : Nat} {v1 : Int32} {v2 : Int32} {v3 : Int32} {v4 : Int32} {D : xDt} {r : Int32 × xDt} (k0 : xK S v0 8) (r0 : Rg v0) (h : f_X8_make_105 F P S v0 v1 v2 v3 v4 D = some r) : xfr Rg D r.2 := by
  unfold f_X8_make_105 at h
  refine xbnd_e h (fun q1 e1 h => ?_)
  refine xfr_tr (U_X11_signOf hS hR e1) ?_
  refine xbnd_e h (fun q2 e2 h => ?_)
  refine xfr_tr (U_X8_isBase hS hR e2) ?_
  refine xif_n h (fun c h => ?_) (fun c h => ?_)
  · skip
    refine xlet_e h (fun D3 eD3 h => ?_)
    refine xfr_i r0 eD3 ?_
    obtain rfl := Option.some.inj h
    exact xfr_rf
  · skip
    refine xif_p h (fun c h => ?_) (fun c h => ?_)
    · skip
      refine xlet_e h (fun D4 eD4 h => ?_)
      refine xfr_i r0 eD4 ?_
      obtain rfl := Option.some.inj h
      exact xfr_rf
    · skip
      refine xif_p h (fun c h => ?_) (fun c h => ?_)
      · skip
        exact u_X8_make_152 hS hR k0 r0 h
      · skip
        refine xif_p h (fun c h => ?_) (fun c h => ?_)
        · skip
          exact u_X8_make_152 hS hR k0 r0 h
        · skip
          refine xlet_e h (fun D5 eD5 h => ?_)
          refine xfr_i r0 eD5 ?_
          obtain rfl := Option.some.inj h
          exact xfr_rf

theorem u_X8_make_24s {F P : Nat} {S : xSt} (hS : xWF S) {Rg : Nat → Prop} (hR : xRC S Rg) {rec_24 : Nat → Int32 → Int32 → Int32 → Int32 → Int32 → xDt → Option (Int32 × xDt)} (hrec_24 : ∀ {v0 : Nat} {v1 : Int32} {v2 : Int32} {v3 : Int32} {v4 : Int32} {v5 : Int32} {D : xDt} {r : Int32 × xDt}, xK S v0 8 → Rg v0 → rec_24 v0 v1 v2 v3 v4 v5 D = some r → xfr Rg D r.2) {v0 : Nat} {v1 : Int32} {v2 : Int32} {v3 : Int32} {v4 : Int32} {v5 : Int32} {D : xDt} {r : Int32 × xDt} (k0 : xK S v0 8) (r0 : Rg v0) (h : f_X8_make_24s F P S rec_24 v0 v1 v2 v3 v4 v5 D = some r) : xfr Rg D r.2 := by
  unfold f_X8_make_24s at h
  refine xif_p h (fun c h => ?_) (fun c h => ?_)
  · skip
    exact u_X8_make_105 hS hR k0 r0 h
  · skip
    refine xgrd_e h (fun g1 h => ?_)
    refine xif_p h (fun c h => ?_) (fun c h => ?_)
    · skip
      exact u_X8_make_105 hS hR k0 r0 h
    · skip
      refine xgrd_e h (fun g2 h => ?_)
      refine xlet_e h (fun v6_3 ev6_3 h => ?_)
      refine xgrd_e h (fun g4 h => ?_)
      refine xif_n h (fun c h => ?_) (fun c h => ?_)
      · skip
        exact u_X8_make_89 hS hR hrec_24 k0 r0 h
      · skip
        refine xgrd_e h (fun g5 h => ?_)
        refine xif_n h (fun c h => ?_) (fun c h => ?_)
        · skip
          exact u_X8_make_89 hS hR hrec_24 k0 r0 h
        · skip
          refine xgrd_e h (fun g6 h => ?_)
          refine xif_n h (fun c h => ?_) (fun c h => ?_)
          · skip
            exact u_X8_make_89 hS hR hrec_24 k0 r0 h
          · skip
            obtain rfl := Option.some.inj h
            exact xfr_rf
theorem u_X8_make_24 {F P : Nat} {S : xSt} (hS : xWF S) {Rg : Nat → Prop} (hR : xRC S Rg) : ∀ (n : Nat) {v0 : Nat} {v1 : Int32} {v2 : Int32} {v3 : Int32} {v4 : Int32} {v5 : Int32} {D : xDt} {r : Int32 × xDt}, xK S v0 8 → Rg v0 → f_X8_make_24 F P S n v0 v1 v2 v3 v4 v5 D = some r → xfr Rg D r.2 := by
  intro n
  induction n with
  | zero => intros; rename_i h; cases h
  | succ n ih =>
    intro v0 v1 v2 v3 v4 v5 D r k0 r0 h
    exact u_X8_make_24s hS hR (fun k0 r0 h => ih k0 r0 h) k0 r0 h

theorem U_X8_make {F P : Nat} {S : xSt} (hS : xWF S) {Rg : Nat → Prop} (hR : xRC S Rg) {v0 : Nat} {v1 : Int32} {v2 : Int32} {v3 : Int32} {D : xDt} {r : Int32 × xDt} (k0 : xK S v0 8) (r0 : Rg v0) (h : f_X8_make F P S v0 v1 v2 v3 D = some r) : xfr Rg D r.2 := by
  unfold f_X8_make at h
  refine xlet_e h (fun v4_1 ev4_1 h => ?_)
  exact u_X8_make_24 hS hR F k0 r0 h

theorem u_X11_isJoin_24 {F P : Nat} {S : xSt} (hS : xWF S) {Rg : Nat → Prop} (hR : xRC S Rg) {D : xDt} {r : Int32 × xDt} (h : f_X11_isJoin_24 F P S D = some r) : xfr Rg D r.2 := by
  unfold f_X11_isJoin_24 at h
  obtain rfl := Option.some.inj h
  exact xfr_rf

theorem U_X11_isJoin {F P : Nat} {S : xSt} (hS : xWF S) {Rg : Nat → Prop} (hR : xRC S Rg) {v0 : Int32} {D : xDt} {r : Int32 × xDt} (h : f_X11_isJoin F P S v0 D = some r) : xfr Rg D r.2 := by
  unfold f_X11_isJoin at h
  refine xif_p h (fun c h => ?_) (fun c h => ?_)
  · skip
    exact u_X11_isJoin_24 hS hR h
  · skip
    refine xif_p h (fun c h => ?_) (fun c h => ?_)
    · skip
      exact u_X11_isJoin_24 hS hR h
    · skip
      refine xif_p h (fun c h => ?_) (fun c h => ?_)
      · skip
        exact u_X11_isJoin_24 hS hR h
      · skip
        refine xif_n h (fun c h => ?_) (fun c h => ?_)
        · skip
          obtain rfl := Option.some.inj h
          exact xfr_rf
        · skip
          exact u_X11_isJoin_24 hS hR h

theorem U_X11_hasAgent {F P : Nat} {S : xSt} (hS : xWF S) {Rg : Nat → Prop} (hR : xRC S Rg) {v0 : Int32} {v1 : Int32} {D : xDt} {r : Int32 × xDt} (h : f_X11_hasAgent F P S v0 v1 D = some r) : xfr Rg D r.2 := by
  unfold f_X11_hasAgent at h
  refine xif_p h (fun c h => ?_) (fun c h => ?_)
  · skip
    obtain rfl := Option.some.inj h
    exact xfr_rf
  · skip
    obtain rfl := Option.some.inj h
    exact xfr_rf

theorem U_X11_withAgents {F P : Nat} {S : xSt} (hS : xWF S) {Rg : Nat → Prop} (hR : xRC S Rg) {v0 : Int32} {v1 : Int32} {D : xDt} {r : Int32 × xDt} (h : f_X11_withAgents F P S v0 v1 D = some r) : xfr Rg D r.2 := by
  unfold f_X11_withAgents at h
  obtain rfl := Option.some.inj h
  exact xfr_rf

theorem u_X8_everyone_56 {F P : Nat} {S : xSt} (hS : xWF S) {Rg : Nat → Prop} (hR : xRC S Rg) {rec_5 : Nat → Int32 → Int32 → Int32 → Int32 → xDt → Option (Int32 × xDt)} (hrec_5 : ∀ {v0 : Nat} {v1 : Int32} {v2 : Int32} {v3 : Int32} {v4 : Int32} {D : xDt} {r : Int32 × xDt}, xK S v0 8 → Rg v0 → rec_5 v0 v1 v2 v3 v4 D = some r → xfr Rg D r.2) {v0 : Nat} {v1 : Int32} {v2 : Int32} {v3 : Int32} {v4 : Int32} {D : xDt} {r : Int32 × xDt} (k0 : xK S v0 8) (r0 : Rg v0) (h : f_X8_everyone_56 F P S rec_5 v0 v1 v2 v3 v4 D = some r) : xfr Rg D r.2 := by
  unfold f_X8_everyone_56 at h
  refine xlet_e h (fun v4_1 ev4_1 h => ?_)
  exact hrec_5 k0 r0 h

theorem u_X8_everyone_55 {F P : Nat} {S : xSt} (hS : xWF S) {Rg : Nat → Prop} (hR : xRC S Rg) {rec_5 : Nat → Int32 → Int32 → Int32 → Int32 → xDt → Option (Int32 × xDt)} (hrec_5 : ∀ {v0 : Nat} {v1 : Int32} {v2 : Int32} {v3 : Int32} {v4 : Int32} {D : xDt} {r : Int32 × xDt}, xK S v0 8 → Rg v0 → rec_5 v0 v1 v2 v3 v4 D = some r → xfr Rg D r.2) {v0 : Nat} {v1 : Int32} {v2 : Int32} {v4 : Int32} {s0 : Int32} {D : xDt} {r : Int32 × xDt} (k0 : xK S v0 8) (r0 : Rg v0) (h : f_X8_everyone_55 F P S rec_5 v0 v1 v2 v4 s0 D = some r) : xfr Rg D r.2 := by
  unfold f_X8_everyone_55 at h
  exact u_X8_everyone_56 hS hR hrec_5 k0 r0 h

theorem u_X8_everyone_5s {F P : Nat} {S : xSt} (hS : xWF S) {Rg : Nat → Prop} (hR : xRC S Rg) {rec_5 : Nat → Int32 → Int32 → Int32 → Int32 → xDt → Option (Int32 × xDt)} (hrec_5 : ∀ {v0 : Nat} {v1 : Int32} {v2 : Int32} {v3 : Int32} {v4 : Int32} {D : xDt} {r : Int32 × xDt}, xK S v0 8 → Rg v0 → rec_5 v0 v1 v2 v3 v4 D = some r → xfr Rg D r.2) {v0 : Nat} {v1 : Int32} {v2 : Int32} {v3 : Int32} {v4 : Int32} {D : xDt} {r : Int32 × xDt} (k0 : xK S v0 8) (r0 : Rg v0) (h : f_X8_everyone_5s F P S rec_5 v0 v1 v2 v3 v4 D = some r) : xfr Rg D r.2 := by
  unfold f_X8_everyone_5s at h
  refine xif_p h (fun c h => ?_) (fun c h => ?_)
  · skip
    obtain rfl := Option.some.inj h
    exact xfr_rf
  · skip
    refine xbnd_e h (fun q1 e1 h => ?_)
    refine xfr_tr (U_X11_hasAgent hS hR e1) ?_
    refine xif_p h (fun c h => ?_) (fun c h => ?_)
    · skip
      exact u_X8_everyone_56 hS hR hrec_5 k0 r0 h
    · skip
      refine xbnd_e h (fun q2 e2 h => ?_)
      refine xfr_tr (U_X11_withAgents hS hR e2) ?_
      refine xbnd_e h (fun q3 e3 h => ?_)
      refine xfr_tr (U_X8_make hS hR k0 r0 e3) ?_
      refine xif_p h (fun c h => ?_) (fun c h => ?_)
      · skip
        refine xbnd_e h (fun q4 e4 h => ?_)
        refine xfr_tr (U_X8_make hS hR k0 r0 e4) ?_
        exact u_X8_everyone_55 hS hR hrec_5 k0 r0 h
      · skip
        exact u_X8_everyone_55 hS hR hrec_5 k0 r0 h
theorem u_X8_everyone_5 {F P : Nat} {S : xSt} (hS : xWF S) {Rg : Nat → Prop} (hR : xRC S Rg) : ∀ (n : Nat) {v0 : Nat} {v1 : Int32} {v2 : Int32} {v3 : Int32} {v4 : Int32} {D : xDt} {r : Int32 × xDt}, xK S v0 8 → Rg v0 → f_X8_everyone_5 F P S n v0 v1 v2 v3 v4 D = some r → xfr Rg D r.2 := by
  intro n
  induction n with
  | zero => intros; rename_i h; cases h
  | succ n ih =>
    intro v0 v1 v2 v3 v4 D r k0 r0 h
    exact u_X8_everyone_5s hS hR (fun k0 r0 h => ih k0 r0 h) k0 r0 h

theorem U_X8_everyone {F P : Nat} {S : xSt} (hS : xWF S) {Rg : Nat → Prop} (hR : xRC S Rg) {v0 : Nat} {v1 : Int32} {v2 : Int32} {D : xDt} {r : Int32 × xDt} (k0 : xK S v0 8) (r0 : Rg v0) (h : f_X8_everyone F P S v0 v1 v2 D = some r) : xfr Rg D r.2 := by
  unfold f_X8_everyone at h
  exact u_X8_everyone_5 hS hR F k0 r0 h

theorem u_X8_common_42 {F P : Nat} {S : xSt} (hS : xWF S) {Rg : Nat → Prop} (hR : xRC S Rg) {rec_11 : Nat → Int32 → Int32 → Int32 → xDt → Option (Int32 × xDt)} (hrec_11 : ∀ {v0 : Nat} {v1 : Int32} {v3 : Int32} {v4 : Int32} {D : xDt} {r : Int32 × xDt}, xK S v0 8 → Rg v0 → rec_11 v0 v1 v3 v4 D = some r → xfr Rg D r.2) {v0 : Nat} {v1 : Int32} {v3 : Int32} {v4 : Int32} {D : xDt} {r : Int32 × xDt} (k0 : xK S v0 8) (r0 : Rg v0) (h : f_X8_common_42 F P S rec_11 v0 v1 v3 v4 D = some r) : xfr Rg D r.2 := by
  unfold f_X8_common_42 at h
  refine xlet_e h (fun v4_1 ev4_1 h => ?_)
  exact hrec_11 k0 r0 h

theorem u_X8_common_11s {F P : Nat} {S : xSt} (hS : xWF S) {Rg : Nat → Prop} (hR : xRC S Rg) {rec_11 : Nat → Int32 → Int32 → Int32 → xDt → Option (Int32 × xDt)} (hrec_11 : ∀ {v0 : Nat} {v1 : Int32} {v3 : Int32} {v4 : Int32} {D : xDt} {r : Int32 × xDt}, xK S v0 8 → Rg v0 → rec_11 v0 v1 v3 v4 D = some r → xfr Rg D r.2) {v0 : Nat} {v1 : Int32} {v3 : Int32} {v4 : Int32} {D : xDt} {r : Int32 × xDt} (k0 : xK S v0 8) (r0 : Rg v0) (h : f_X8_common_11s F P S rec_11 v0 v1 v3 v4 D = some r) : xfr Rg D r.2 := by
  unfold f_X8_common_11s at h
  refine xif_p h (fun c h => ?_) (fun c h => ?_)
  · skip
    obtain rfl := Option.some.inj h
    exact xfr_rf
  · skip
    refine xbnd_e h (fun q1 e1 h => ?_)
    refine xfr_tr (U_X11_hasAgent hS hR e1) ?_
    refine xif_p h (fun c h => ?_) (fun c h => ?_)
    · skip
      exact u_X8_common_42 hS hR hrec_11 k0 r0 h
    · skip
      refine xbnd_e h (fun q2 e2 h => ?_)
      refine xfr_tr (U_X11_withAgents hS hR e2) ?_
      refine xbnd_e h (fun q3 e3 h => ?_)
      refine xfr_tr (U_X8_make hS hR k0 r0 e3) ?_
      exact u_X8_common_42 hS hR hrec_11 k0 r0 h
theorem u_X8_common_11 {F P : Nat} {S : xSt} (hS : xWF S) {Rg : Nat → Prop} (hR : xRC S Rg) : ∀ (n : Nat) {v0 : Nat} {v1 : Int32} {v3 : Int32} {v4 : Int32} {D : xDt} {r : Int32 × xDt}, xK S v0 8 → Rg v0 → f_X8_common_11 F P S n v0 v1 v3 v4 D = some r → xfr Rg D r.2 := by
  intro n
  induction n with
  | zero => intros; rename_i h; cases h
  | succ n ih =>
    intro v0 v1 v3 v4 D r k0 r0 h
    exact u_X8_common_11s hS hR (fun k0 r0 h => ih k0 r0 h) k0 r0 h

theorem U_X8_common {F P : Nat} {S : xSt} (hS : xWF S) {Rg : Nat → Prop} (hR : xRC S Rg) {v0 : Nat} {v1 : Int32} {v2 : Int32} {D : xDt} {r : Int32 × xDt} (k0 : xK S v0 8) (r0 : Rg v0) (h : f_X8_common F P S v0 v1 v2 D = some r) : xfr Rg D r.2 := by
  unfold f_X8_common at h
  refine xbnd_e h (fun q1 e1 h => ?_)
  refine xfr_tr (U_X8_make hS hR k0 r0 e1) ?_
  exact u_X8_common_11 hS hR F k0 r0 h

theorem U_X8_single {F P : Nat} {S : xSt} (hS : xWF S) {Rg : Nat → Prop} (hR : xRC S Rg) {v0 : Nat} {v1 : Int32} {v2 : Int32} {D : xDt} {r : Int32 × xDt} (k0 : xK S v0 8) (r0 : Rg v0) (h : f_X8_single F P S v0 v1 v2 D = some r) : xfr Rg D r.2 := by
  unfold f_X8_single at h
  refine xbnd_e h (fun q1 e1 h => ?_)
  refine xfr_tr (U_X11_signOf hS hR e1) ?_
  by_cases c0 : q1.1 = 67
  · rw [if_pos c0] at h
    refine xbnd_e h (fun q2 e2 h => ?_)
    refine xfr_tr (U_X8_common hS hR k0 r0 e2) ?_
    obtain rfl := Option.some.inj h
    exact xfr_rf
  · rw [if_neg c0] at h
    by_cases c1 : q1.1 = 80
    · rw [if_pos c1] at h
      refine xbnd_e h (fun q3 e3 h => ?_)
      refine xfr_tr (U_X8_make hS hR k0 r0 e3) ?_
      refine xbnd_e h (fun q4 e4 h => ?_)
      refine xfr_tr (U_X8_everyone hS hR k0 r0 e4) ?_
      refine xbnd_e h (fun q5 e5 h => ?_)
      refine xfr_tr (U_X8_make hS hR k0 r0 e5) ?_
      obtain rfl := Option.some.inj h
      exact xfr_rf
    · rw [if_neg c1] at h
      by_cases c2 : q1.1 = 126
      · rw [if_pos c2] at h
        refine xbnd_e h (fun q6 e6 h => ?_)
        refine xfr_tr (U_X8_make hS hR k0 r0 e6) ?_
        obtain rfl := Option.some.inj h
        exact xfr_rf
      · rw [if_neg c2] at h
        refine xbnd_e h (fun q7 e7 h => ?_)
        refine xfr_tr (U_X8_everyone hS hR k0 r0 e7) ?_
        obtain rfl := Option.some.inj h
        exact xfr_rf

theorem u_X8_build_169 {F P : Nat} {S : xSt} (hS : xWF S) {Rg : Nat → Prop} (hR : xRC S Rg) {rec_32 : Nat → Nat → Int32 → Int32 → xDt → Option (Int32 × xDt)} (hrec_32 : ∀ {v0 : Nat} {v1 : Nat} {v2 : Int32} {v3 : Int32} {D : xDt} {r : Int32 × xDt}, xK S v0 8 → xK S v1 2 → Rg v0 → rec_32 v0 v1 v2 v3 D = some r → xfr Rg D r.2) {v0 : Nat} {v1 : Nat} {v2 : Int32} {v3 : Int32} {D : xDt} {r : Int32 × xDt} (k0 : xK S v0 8) (k1 : xK S v1 2) (r0 : Rg v0) (h : f_X8_build_169 F P S rec_32 v0 v1 v2 v3 D = some r) : xfr Rg D r.2 := by
  unfold f_X8_build_169 at h
  refine xlet_e h (fun v3_1 ev3_1 h => ?_)
  exact hrec_32 k0 k1 r0 h

theorem u_X8_build_142 {F P : Nat} {S : xSt} (hS : xWF S) {Rg : Nat → Prop} (hR : xRC S Rg) {rec_32 : Nat → Nat → Int32 → Int32 → xDt → Option (Int32 × xDt)} (hrec_32 : ∀ {v0 : Nat} {v1 : Nat} {v2 : Int32} {v3 : Int32} {D : xDt} {r : Int32 × xDt}, xK S v0 8 → xK S v1 2 → Rg v0 → rec_32 v0 v1 v2 v3 D = some r → xfr Rg D r.2) {v0 : Nat} {v1 : Nat} {v2 : Int32} {v3 : Int32} {v4 : Int32} {D : xDt} {r : Int32 × xDt} (k0 : xK S v0 8) (k1 : xK S v1 2) (r0 : Rg v0) (h : f_X8_build_142 F P S rec_32 v0 v1 v2 v3 v4 D = some r) : xfr Rg D r.2 := by
  unfold f_X8_build_142 at h
  refine xif_p h (fun c h => ?_) (fun c h => ?_)
  · skip
    exact u_X8_build_169 hS hR hrec_32 k0 k1 r0 h
  · skip
    refine xgrd_e h (fun g1 h => ?_)
    refine xbnd_e h (fun q2 e2 h => ?_)
    refine xfr_tr (U_X8_single hS hR k0 r0 e2) ?_
    refine xgrd_e h (fun g3 h => ?_)
    refine xlet_e h (fun D4 eD4 h => ?_)
    refine xfr_i (hR.1 k0 r0 6 100 rfl) eD4 ?_
    exact u_X8_build_169 hS hR hrec_32 k0 k1 r0 h

theorem u_X8_build_95 {F P : Nat} {S : xSt} (hS : xWF S) {Rg : Nat → Prop} (hR : xRC S Rg) {rec_32 : Nat → Nat → Int32 → Int32 → xDt → Option (Int32 × xDt)} (hrec_32 : ∀ {v0 : Nat} {v1 : Nat} {v2 : Int32} {v3 : Int32} {D : xDt} {r : Int32 × xDt}, xK S v0 8 → xK S v1 2 → Rg v0 → rec_32 v0 v1 v2 v3 D = some r → xfr Rg D r.2) {v0 : Nat} {v1 : Nat} {v2 : Int32} {v3 : Int32} {v4 : Int32} {v5 : Int32} {D : xDt} {r : Int32 × xDt} (k0 : xK S v0 8) (k1 : xK S v1 2) (r0 : Rg v0) (h : f_X8_build_95 F P S rec_32 v0 v1 v2 v3 v4 v5 D = some r) : xfr Rg D r.2 := by
  unfold f_X8_build_95 at h
  refine xbnd_e h (fun q1 e1 h => ?_)
  refine xfr_tr (U_X11_isJoin hS hR e1) ?_
  refine xif_p h (fun c h => ?_) (fun c h => ?_)
  · skip
    exact u_X8_build_142 hS hR hrec_32 k0 k1 r0 h
  · skip
    refine xif_p h (fun c h => ?_) (fun c h => ?_)
    · skip
      exact u_X8_build_142 hS hR hrec_32 k0 k1 r0 h
    · skip
      refine xlet_e h (fun v2_2 ev2_2 h => ?_)
      refine xgrd_e h (fun g3 h => ?_)
      refine xgrd_e h (fun g4 h => ?_)
      refine xbnd_e h (fun q5 e5 h => ?_)
      refine xfr_tr (U_X8_make hS hR k0 r0 e5) ?_
      refine xgrd_e h (fun g6 h => ?_)
      refine xlet_e h (fun D7 eD7 h => ?_)
      refine xfr_i (hR.1 k0 r0 6 100 rfl) eD7 ?_
      exact u_X8_build_169 hS hR hrec_32 k0 k1 r0 h

theorem u_X8_build_32s {F P : Nat} {S : xSt} (hS : xWF S) {Rg : Nat → Prop} (hR : xRC S Rg) {rec_32 : Nat → Nat → Int32 → Int32 → xDt → Option (Int32 × xDt)} (hrec_32 : ∀ {v0 : Nat} {v1 : Nat} {v2 : Int32} {v3 : Int32} {D : xDt} {r : Int32 × xDt}, xK S v0 8 → xK S v1 2 → Rg v0 → rec_32 v0 v1 v2 v3 D = some r → xfr Rg D r.2) {v0 : Nat} {v1 : Nat} {v2 : Int32} {v3 : Int32} {D : xDt} {r : Int32 × xDt} (k0 : xK S v0 8) (k1 : xK S v1 2) (r0 : Rg v0) (h : f_X8_build_32s F P S rec_32 v0 v1 v2 v3 D = some r) : xfr Rg D r.2 := by
  unfold f_X8_build_32s at h
  refine xif_p h (fun c h => ?_) (fun c h => ?_)
  · skip
    refine xgrd_e h (fun g1 h => ?_)
    obtain rfl := Option.some.inj h
    exact xfr_rf
  · skip
    refine xif_n h (fun c h => ?_) (fun c h => ?_)
    · skip
      refine xgrd_e h (fun g2 h => ?_)
      obtain rfl := Option.some.inj h
      exact xfr_rf
    · skip
      refine xgrd_e h (fun g3 h => ?_)
      refine xlet_e h (fun v4_4 ev4_4 h => ?_)
      refine xbnd_e h (fun q5 e5 h => ?_)
      refine xfr_tr (U_X11_signOf hS hR e5) ?_
      refine xbnd_e h (fun q6 e6 h => ?_)
      refine xfr_tr (U_X11_isLeaf hS hR e6) ?_
      refine xif_p h (fun c h => ?_) (fun c h => ?_)
      · skip
        exact u_X8_build_95 hS hR hrec_32 k0 k1 r0 h
      · skip
        refine xif_p h (fun c h => ?_) (fun c h => ?_)
        · skip
          exact u_X8_build_95 hS hR hrec_32 k0 k1 r0 h
        · skip
          refine xlet_e h (fun v2_7 ev2_7 h => ?_)
          refine xbnd_e h (fun q8 e8 h => ?_)
          refine xfr_tr (U_X8_make hS hR k0 r0 e8) ?_
          refine xgrd_e h (fun g9 h => ?_)
          refine xlet_e h (fun D10 eD10 h => ?_)
          refine xfr_i (hR.1 k0 r0 6 100 rfl) eD10 ?_
          exact u_X8_build_169 hS hR hrec_32 k0 k1 r0 h
theorem u_X8_build_32 {F P : Nat} {S : xSt} (hS : xWF S) {Rg : Nat → Prop} (hR : xRC S Rg) : ∀ (n : Nat) {v0 : Nat} {v1 : Nat} {v2 : Int32} {v3 : Int32} {D : xDt} {r : Int32 × xDt}, xK S v0 8 → xK S v1 2 → Rg v0 → f_X8_build_32 F P S n v0 v1 v2 v3 D = some r → xfr Rg D r.2 := by
  intro n
  induction n with
  | zero => intros; rename_i h; cases h
  | succ n ih =>
    intro v0 v1 v2 v3 D r k0 k1 r0 h
    exact u_X8_build_32s hS hR (fun k0 k1 r0 h => ih k0 k1 r0 h) k0 k1 r0 h

theorem U_X8_build {F P : Nat} {S : xSt} (hS : xWF S) {Rg : Nat → Prop} (hR : xRC S Rg) {v0 : Nat} {v1 : Nat} {D : xDt} {r : Int32 × xDt} (k0 : xK S v0 8) (k1 : xK S v1 2) (r0 : Rg v0) (h : f_X8_build F P S v0 v1 D = some r) : xfr Rg D r.2 := by
  unfold f_X8_build at h
  refine xlet_e h (fun D1 eD1 h => ?_)
  refine xfr_i r0 eD1 ?_
  refine xlet_e h (fun D2 eD2 h => ?_)
  refine xfr_i r0 eD2 ?_
  refine xlet_e h (fun D3 eD3 h => ?_)
  refine xfr_i r0 eD3 ?_
  refine xbnd_e h (fun q4 e4 h => ?_)
  refine xfr_tr (U_J7_fill_53178 hS hR ((hS.f k0 5 100 rfl).2) (hR.1 k0 r0 5 100 rfl) e4) ?_
  refine xlet_e h (fun v3_5 ev3_5 h => ?_)
  exact u_X8_build_32 hS hR F k0 k1 r0 h

theorem U_X0_tokenAt {F P : Nat} {S : xSt} (hS : xWF S) {Rg : Nat → Prop} (hR : xRC S Rg) {v0 : Nat} {v1 : Int32} {D : xDt} {r : Int32 × xDt} (k0 : xK S v0 0) (h : f_X0_tokenAt F P S v0 v1 D = some r) : xfr Rg D r.2 := by
  unfold f_X0_tokenAt at h
  refine xgrd_e h (fun g1 h => ?_)
  refine xgrd_e h (fun g2 h => ?_)
  obtain rfl := Option.some.inj h
  exact xfr_rf

theorem u_X0_findKnownBits_55 {F P : Nat} {S : xSt} (hS : xWF S) {Rg : Nat → Prop} (hR : xRC S Rg) {rec_2 : Nat → Int32 → xDt → Option (xDt)} (hrec_2 : ∀ {v0 : Nat} {v1 : Int32} {D : xDt} {r : xDt}, xK S v0 0 → Rg v0 → rec_2 v0 v1 D = some r → xfr Rg D r) {rec_16 : Nat → Int32 → Int32 → xDt → Option (xDt)} (hrec_16 : ∀ {v0 : Nat} {v1 : Int32} {v2 : Int32} {D : xDt} {r : xDt}, xK S v0 0 → Rg v0 → rec_16 v0 v1 v2 D = some r → xfr Rg D r) {v0 : Nat} {v1 : Int32} {v2 : Int32} {D : xDt} {r : xDt} (k0 : xK S v0 0) (r0 : Rg v0) (h : f_X0_findKnownBits_55 F P S rec_2 rec_16 v0 v1 v2 D = some r) : xfr Rg D r := by
  unfold f_X0_findKnownBits_55 at h
  refine xlet_e h (fun v2_1 ev2_1 h => ?_)
  exact hrec_16 k0 r0 h

theorem u_X0_findKnownBits_16s {F P : Nat} {S : xSt} (hS : xWF S) {Rg : Nat → Prop} (hR : xRC S Rg) {rec_2 : Nat → Int32 → xDt → Option (xDt)} (hrec_2 : ∀ {v0 : Nat} {v1 : Int32} {D : xDt} {r : xDt}, xK S v0 0 → Rg v0 → rec_2 v0 v1 D = some r → xfr Rg D r) {rec_16 : Nat → Int32 → Int32 → xDt → Option (xDt)} (hrec_16 : ∀ {v0 : Nat} {v1 : Int32} {v2 : Int32} {D : xDt} {r : xDt}, xK S v0 0 → Rg v0 → rec_16 v0 v1 v2 D = some r → xfr Rg D r) {v0 : Nat} {v1 : Int32} {v2 : Int32} {D : xDt} {r : xDt} (k0 : xK S v0 0) (r0 : Rg v0) (h : f_X0_findKnownBits_16s F P S rec_2 rec_16 v0 v1 v2 D = some r) : xfr Rg D r := by
  unfold f_X0_findKnownBits_16s at h
  refine xif_p h (fun c h => ?_) (fun c h => ?_)
  · skip
    refine xlet_e h (fun v1_1 ev1_1 h => ?_)
    exact hrec_2 k0 r0 h
  · skip
    refine xbnd_e h (fun q2 e2 h => ?_)
    refine xfr_tr (U_X0_tokenAt hS hR k0 e2) ?_
    refine xbnd_e h (fun q3 e3 h => ?_)
    refine xfr_tr (U_X11_withAgents hS hR e3) ?_
    refine xif_n h (fun c h => ?_) (fun c h => ?_)
    · skip
      exact u_X0_findKnownBits_55 hS hR hrec_2 hrec_16 k0 r0 h
    · skip
      refine xgrd_e h (fun g4 h => ?_)
      refine xgrd_e h (fun g5 h => ?_)
      refine xlet_e h (fun D6 eD6 h => ?_)
      refine xfr_i (hR.1 k0 r0 8 100 rfl) eD6 ?_
      exact u_X0_findKnownBits_55 hS hR hrec_2 hrec_16 k0 r0 h
theorem u_X0_findKnownBits_16 {F P : Nat} {S : xSt} (hS : xWF S) {Rg : Nat → Prop} (hR : xRC S Rg) {rec_2 : Nat → Int32 → xDt → Option (xDt)} (hrec_2 : ∀ {v0 : Nat} {v1 : Int32} {D : xDt} {r : xDt}, xK S v0 0 → Rg v0 → rec_2 v0 v1 D = some r → xfr Rg D r) : ∀ (n : Nat) {v0 : Nat} {v1 : Int32} {v2 : Int32} {D : xDt} {r : xDt}, xK S v0 0 → Rg v0 → f_X0_findKnownBits_16 F P S rec_2 n v0 v1 v2 D = some r → xfr Rg D r := by
  intro n
  induction n with
  | zero => intros; rename_i h; cases h
  | succ n ih =>
    intro v0 v1 v2 D r k0 r0 h
    exact u_X0_findKnownBits_16s hS hR hrec_2 (fun k0 r0 h => ih k0 r0 h) k0 r0 h

theorem u_X0_findKnownBits_2s {F P : Nat} {S : xSt} (hS : xWF S) {Rg : Nat → Prop} (hR : xRC S Rg) {rec_2 : Nat → Int32 → xDt → Option (xDt)} (hrec_2 : ∀ {v0 : Nat} {v1 : Int32} {D : xDt} {r : xDt}, xK S v0 0 → Rg v0 → rec_2 v0 v1 D = some r → xfr Rg D r) {v0 : Nat} {v1 : Int32} {D : xDt} {r : xDt} (k0 : xK S v0 0) (r0 : Rg v0) (h : f_X0_findKnownBits_2s F P S rec_2 v0 v1 D = some r) : xfr Rg D r := by
  unfold f_X0_findKnownBits_2s at h
  refine xif_p h (fun c h => ?_) (fun c h => ?_)
  · skip
    obtain rfl := Option.some.inj h
    exact xfr_rf
  · skip
    refine xgrd_e h (fun g1 h => ?_)
    refine xlet_e h (fun D2 eD2 h => ?_)
    refine xfr_i (hR.1 k0 r0 8 100 rfl) eD2 ?_
    exact u_X0_findKnownBits_16 hS hR hrec_2 F k0 r0 h
theorem u_X0_findKnownBits_2 {F P : Nat} {S : xSt} (hS : xWF S) {Rg : Nat → Prop} (hR : xRC S Rg) : ∀ (n : Nat) {v0 : Nat} {v1 : Int32} {D : xDt} {r : xDt}, xK S v0 0 → Rg v0 → f_X0_findKnownBits_2 F P S n v0 v1 D = some r → xfr Rg D r := by
  intro n
  induction n with
  | zero => intros; rename_i h; cases h
  | succ n ih =>
    intro v0 v1 D r k0 r0 h
    exact u_X0_findKnownBits_2s hS hR (fun k0 r0 h => ih k0 r0 h) k0 r0 h

theorem U_X0_findKnownBits {F P : Nat} {S : xSt} (hS : xWF S) {Rg : Nat → Prop} (hR : xRC S Rg) {v0 : Nat} {D : xDt} {r : xDt} (k0 : xK S v0 0) (r0 : Rg v0) (h : f_X0_findKnownBits F P S v0 D = some r) : xfr Rg D r := by
  unfold f_X0_findKnownBits at h
  exact u_X0_findKnownBits_2 hS hR F k0 r0 h

theorem U_X0_telling {F P : Nat} {S : xSt} (hS : xWF S) {Rg : Nat → Prop} (hR : xRC S Rg) {v0 : Nat} {v1 : Int32} {v2 : Int32} {D : xDt} {r : Int64 × xDt} (k0 : xK S v0 0) (h : f_X0_telling F P S v0 v1 v2 D = some r) : xfr Rg D r.2 := by
  unfold f_X0_telling at h
  refine xif_p h (fun c h => ?_) (fun c h => ?_)
  · skip
    refine xif_p h (fun c h => ?_) (fun c h => ?_)
    · skip
      obtain rfl := Option.some.inj h
      exact xfr_rf
    · skip
      obtain rfl := Option.some.inj h
      exact xfr_rf
  · skip
    refine xgrd_e h (fun g1 h => ?_)
    obtain rfl := Option.some.inj h
    exact xfr_rf

theorem U_X0_valueOf {F P : Nat} {S : xSt} (hS : xWF S) {Rg : Nat → Prop} (hR : xRC S Rg) {v0 : Nat} {v1 : Int32} {v2 : Int32} {D : xDt} {r : Int64 × xDt} (k0 : xK S v0 0) (h : f_X0_valueOf F P S v0 v1 v2 D = some r) : xfr Rg D r.2 := by
  unfold f_X0_valueOf at h
  refine xgrd_e h (fun g1 h => ?_)
  refine xif_p h (fun c h => ?_) (fun c h => ?_)
  · skip
    refine xgrd_e h (fun g2 h => ?_)
    refine xgrd_e h (fun g3 h => ?_)
    refine xlet_e h (fun v3_4 ev3_4 h => ?_)
    refine xgrd_e h (fun g5 h => ?_)
    refine xgrd_e h (fun g6 h => ?_)
    refine xlet_e h (fun v5_7 ev5_7 h => ?_)
    refine xgrd_e h (fun g8 h => ?_)
    refine xbnd_e h (fun q9 e9 h => ?_)
    refine xfr_tr (U_X11_signOf hS hR e9) ?_
    by_cases c0 : q9.1 = 38
    · rw [if_pos c0] at h
      obtain rfl := Option.some.inj h
      exact xfr_rf
    · rw [if_neg c0] at h
      by_cases c1 : q9.1 = 49
      · rw [if_pos c1] at h
        obtain rfl := Option.some.inj h
        exact xfr_rf
      · rw [if_neg c1] at h
        by_cases c2 : q9.1 = 61
        · rw [if_pos c2] at h
          obtain rfl := Option.some.inj h
          exact xfr_rf
        · rw [if_neg c2] at h
          by_cases c3 : q9.1 = 62
          · rw [if_pos c3] at h
            obtain rfl := Option.some.inj h
            exact xfr_rf
          · rw [if_neg c3] at h
            by_cases c4 : q9.1 = 124
            · rw [if_pos c4] at h
              obtain rfl := Option.some.inj h
              exact xfr_rf
            · rw [if_neg c4] at h
              by_cases c5 : q9.1 = 126
              · rw [if_pos c5] at h
                obtain rfl := Option.some.inj h
                exact xfr_rf
              · rw [if_neg c5] at h
                obtain rfl := Option.some.inj h
                exact xfr_rf
  · skip
    refine xgrd_e h (fun g10 h => ?_)
    refine xbnd_e h (fun q11 e11 h => ?_)
    refine xfr_tr (U_X0_telling hS hR k0 e11) ?_
    obtain rfl := Option.some.inj h
    exact xfr_rf

theorem U_X11_agentsOf {F P : Nat} {S : xSt} (hS : xWF S) {Rg : Nat → Prop} (hR : xRC S Rg) {v0 : Int32} {D : xDt} {r : Int32 × xDt} (h : f_X11_agentsOf F P S v0 D = some r) : xfr Rg D r.2 := by
  unfold f_X11_agentsOf at h
  obtain rfl := Option.some.inj h
  exact xfr_rf

theorem u_X0_isKnownCommon_66 {F P : Nat} {S : xSt} (hS : xWF S) {Rg : Nat → Prop} (hR : xRC S Rg) {D : xDt} {r : Int32 × xDt} (h : f_X0_isKnownCommon_66 F P S D = some r) : xfr Rg D r.2 := by
  unfold f_X0_isKnownCommon_66 at h
  obtain rfl := Option.some.inj h
  exact xfr_rf

theorem U_X0_isKnownCommon {F P : Nat} {S : xSt} (hS : xWF S) {Rg : Nat → Prop} (hR : xRC S Rg) {v0 : Nat} {v1 : Int32} {v2 : Int32} {D : xDt} {r : Int32 × xDt} (k0 : xK S v0 0) (h : f_X0_isKnownCommon F P S v0 v1 v2 D = some r) : xfr Rg D r.2 := by
  unfold f_X0_isKnownCommon at h
  refine xbnd_e h (fun q1 e1 h => ?_)
  refine xfr_tr (U_X0_tokenAt hS hR k0 e1) ?_
  refine xbnd_e h (fun q2 e2 h => ?_)
  refine xfr_tr (U_X11_signOf hS hR e2) ?_
  refine xif_n h (fun c h => ?_) (fun c h => ?_)
  · skip
    exact u_X0_isKnownCommon_66 hS hR h
  · skip
    refine xgrd_e h (fun g3 h => ?_)
    refine xgrd_e h (fun g4 h => ?_)
    refine xgrd_e h (fun g5 h => ?_)
    refine xif_n h (fun c h => ?_) (fun c h => ?_)
    · skip
      exact u_X0_isKnownCommon_66 hS hR h
    · skip
      refine xbnd_e h (fun q6 e6 h => ?_)
      refine xfr_tr (U_X0_tokenAt hS hR k0 e6) ?_
      refine xbnd_e h (fun q7 e7 h => ?_)
      refine xfr_tr (U_X11_agentsOf hS hR e7) ?_
      refine xbnd_e h (fun q8 e8 h => ?_)
      refine xfr_tr (U_X0_tokenAt hS hR k0 e8) ?_
      refine xbnd_e h (fun q9 e9 h => ?_)
      refine xfr_tr (U_X11_agentsOf hS hR e9) ?_
      refine xif_p h (fun c h => ?_) (fun c h => ?_)
      · skip
        exact u_X0_isKnownCommon_66 hS hR h
      · skip
        obtain rfl := Option.some.inj h
        exact xfr_rf

theorem u_X0_lawful_82 {F P : Nat} {S : xSt} (hS : xWF S) {Rg : Nat → Prop} (hR : xRC S Rg) {rec_42 : Nat → Int32 → Int32 → Int32 → Int64 → Int32 → xDt → Option (Int64 × xDt)} (hrec_42 : ∀ {v0 : Nat} {v1 : Int32} {v2 : Int32} {v3 : Int32} {v4 : Int64} {v6 : Int32} {D : xDt} {r : Int64 × xDt}, xK S v0 0 → rec_42 v0 v1 v2 v3 v4 v6 D = some r → xfr Rg D r.2) {v0 : Nat} {v1 : Int32} {v2 : Int32} {v3 : Int32} {v4 : Int64} {v6 : Int32} {D : xDt} {r : Int64 × xDt} (k0 : xK S v0 0) (h : f_X0_lawful_82 F P S rec_42 v0 v1 v2 v3 v4 v6 D = some r) : xfr Rg D r.2 := by
  unfold f_X0_lawful_82 at h
  refine xlet_e h (fun v6_1 ev6_1 h => ?_)
  exact hrec_42 k0 h

theorem u_X0_lawful_42s {F P : Nat} {S : xSt} (hS : xWF S) {Rg : Nat → Prop} (hR : xRC S Rg) {rec_42 : Nat → Int32 → Int32 → Int32 → Int64 → Int32 → xDt → Option (Int64 × xDt)} (hrec_42 : ∀ {v0 : Nat} {v1 : Int32} {v2 : Int32} {v3 : Int32} {v4 : Int64} {v6 : Int32} {D : xDt} {r : Int64 × xDt}, xK S v0 0 → rec_42 v0 v1 v2 v3 v4 v6 D = some r → xfr Rg D r.2) {v0 : Nat} {v1 : Int32} {v2 : Int32} {v3 : Int32} {v4 : Int64} {v6 : Int32} {D : xDt} {r : Int64 × xDt} (k0 : xK S v0 0) (h : f_X0_lawful_42s F P S rec_42 v0 v1 v2 v3 v4 v6 D = some r) : xfr Rg D r.2 := by
  unfold f_X0_lawful_42s at h
  refine xif_p h (fun c h => ?_) (fun c h => ?_)
  · skip
    obtain rfl := Option.some.inj h
    exact xfr_rf
  · skip
    refine xif_n h (fun c h => ?_) (fun c h => ?_)
    · skip
      obtain rfl := Option.some.inj h
      exact xfr_rf
    · skip
      refine xbnd_e h (fun q1 e1 h => ?_)
      refine xfr_tr (U_X0_isKnownCommon hS hR k0 e1) ?_
      refine xif_p h (fun c h => ?_) (fun c h => ?_)
      · skip
        exact u_X0_lawful_82 hS hR hrec_42 k0 h
      · skip
        refine xbnd_e h (fun q2 e2 h => ?_)
        refine xfr_tr (U_X0_telling hS hR k0 e2) ?_
        refine xlet_e h (fun v4_3 ev4_3 h => ?_)
        exact u_X0_lawful_82 hS hR hrec_42 k0 h
theorem u_X0_lawful_42 {F P : Nat} {S : xSt} (hS : xWF S) {Rg : Nat → Prop} (hR : xRC S Rg) : ∀ (n : Nat) {v0 : Nat} {v1 : Int32} {v2 : Int32} {v3 : Int32} {v4 : Int64} {v6 : Int32} {D : xDt} {r : Int64 × xDt}, xK S v0 0 → f_X0_lawful_42 F P S n v0 v1 v2 v3 v4 v6 D = some r → xfr Rg D r.2 := by
  intro n
  induction n with
  | zero => intros; rename_i h; cases h
  | succ n ih =>
    intro v0 v1 v2 v3 v4 v6 D r k0 h
    exact u_X0_lawful_42s hS hR (fun k0 h => ih k0 h) k0 h

theorem u_X0_lawful_25 {F P : Nat} {S : xSt} (hS : xWF S) {Rg : Nat → Prop} (hR : xRC S Rg) {v0 : Nat} {v1 : Int32} {v2 : Int32} {v3 : Int32} {D : xDt} {r : Int64 × xDt} (k0 : xK S v0 0) (h : f_X0_lawful_25 F P S v0 v1 v2 v3 D = some r) : xfr Rg D r.2 := by
  unfold f_X0_lawful_25 at h
  refine xgrd_e h (fun g1 h => ?_)
  refine xlet_e h (fun v4_2 ev4_2 h => ?_)
  exact u_X0_lawful_42 hS hR F k0 h

theorem U_X0_lawful {F P : Nat} {S : xSt} (hS : xWF S) {Rg : Nat → Prop} (hR : xRC S Rg) {v0 : Nat} {v1 : Int32} {v2 : Int32} {D : xDt} {r : Int64 × xDt} (k0 : xK S v0 0) (h : f_X0_lawful F P S v0 v1 v2 D = some r) : xfr Rg D r.2 := by
  unfold f_X0_lawful at h
  refine xbnd_e h (fun q1 e1 h => ?_)
  refine xfr_tr (U_X0_tokenAt hS hR k0 e1) ?_
  refine xbnd_e h (fun q2 e2 h => ?_)
  refine xfr_tr (U_X11_signOf hS hR e2) ?_
  refine xif_p h (fun c h => ?_) (fun c h => ?_)
  · skip
    exact u_X0_lawful_25 hS hR k0 h
  · skip
    refine xif_p h (fun c h => ?_) (fun c h => ?_)
    · skip
      exact u_X0_lawful_25 hS hR k0 h
    · skip
      obtain rfl := Option.some.inj h
      exact xfr_rf

theorem u_X0_makeTypes_120s {F P : Nat} {S : xSt} (hS : xWF S) {Rg : Nat → Prop} (hR : xRC S Rg) {rec_51 : Nat → Int32 → Int32 → Int64 → Int32 → xDt → Option (xDt)} (hrec_51 : ∀ {v0 : Nat} {v1 : Int32} {v2 : Int32} {v3 : Int64} {v5 : Int32} {D : xDt} {r : xDt}, xK S v0 0 → Rg v0 → rec_51 v0 v1 v2 v3 v5 D = some r → xfr Rg D r) {rec_120 : Nat → Int32 → Int32 → Int64 → Int32 → Int32 → xDt → Option (xDt)} (hrec_120 : ∀ {v0 : Nat} {v1 : Int32} {v2 : Int32} {v3 : Int64} {v5 : Int32} {v6 : Int32} {D : xDt} {r : xDt}, xK S v0 0 → Rg v0 → rec_120 v0 v1 v2 v3 v5 v6 D = some r → xfr Rg D r) {v0 : Nat} {v1 : Int32} {v2 : Int32} {v3 : Int64} {v5 : Int32} {v6 : Int32} {D : xDt} {r : xDt} (k0 : xK S v0 0) (r0 : Rg v0) (h : f_X0_makeTypes_120s F P S rec_51 rec_120 v0 v1 v2 v3 v5 v6 D = some r) : xfr Rg D r := by
  unfold f_X0_makeTypes_120s at h
  refine xif_p h (fun c h => ?_) (fun c h => ?_)
  · skip
    refine xlet_e h (fun v5_1 ev5_1 h => ?_)
    exact hrec_51 k0 r0 h
  · skip
    refine xgrd_e h (fun g2 h => ?_)
    refine xgrd_e h (fun g3 h => ?_)
    refine xgrd_e h (fun g4 h => ?_)
    refine xgrd_e h (fun g5 h => ?_)
    refine xlet_e h (fun D6 eD6 h => ?_)
    refine xfr_l (hR.1 k0 r0 3 101 rfl) eD6 ?_
    refine xgrd_e h (fun g7 h => ?_)
    refine xbnd_e h (fun q8 e8 h => ?_)
    refine xfr_tr (U_X0_telling hS hR k0 e8) ?_
    refine xbnd_e h (fun q9 e9 h => ?_)
    refine xfr_tr (U_X0_lawful hS hR k0 e9) ?_
    refine xgrd_e h (fun g10 h => ?_)
    refine xlet_e h (fun D11 eD11 h => ?_)
    refine xfr_l (hR.1 k0 r0 5 101 rfl) eD11 ?_
    refine xlet_e h (fun v6_12 ev6_12 h => ?_)
    exact hrec_120 k0 r0 h
theorem u_X0_makeTypes_120 {F P : Nat} {S : xSt} (hS : xWF S) {Rg : Nat → Prop} (hR : xRC S Rg) {rec_51 : Nat → Int32 → Int32 → Int64 → Int32 → xDt → Option (xDt)} (hrec_51 : ∀ {v0 : Nat} {v1 : Int32} {v2 : Int32} {v3 : Int64} {v5 : Int32} {D : xDt} {r : xDt}, xK S v0 0 → Rg v0 → rec_51 v0 v1 v2 v3 v5 D = some r → xfr Rg D r) : ∀ (n : Nat) {v0 : Nat} {v1 : Int32} {v2 : Int32} {v3 : Int64} {v5 : Int32} {v6 : Int32} {D : xDt} {r : xDt}, xK S v0 0 → Rg v0 → f_X0_makeTypes_120 F P S rec_51 n v0 v1 v2 v3 v5 v6 D = some r → xfr Rg D r := by
  intro n
  induction n with
  | zero => intros; rename_i h; cases h
  | succ n ih =>
    intro v0 v1 v2 v3 v5 v6 D r k0 r0 h
    exact u_X0_makeTypes_120s hS hR hrec_51 (fun k0 r0 h => ih k0 r0 h) k0 r0 h

theorem u_X0_makeTypes_63s {F P : Nat} {S : xSt} (hS : xWF S) {Rg : Nat → Prop} (hR : xRC S Rg) {rec_51 : Nat → Int32 → Int32 → Int64 → Int32 → xDt → Option (xDt)} (hrec_51 : ∀ {v0 : Nat} {v1 : Int32} {v2 : Int32} {v3 : Int64} {v5 : Int32} {D : xDt} {r : xDt}, xK S v0 0 → Rg v0 → rec_51 v0 v1 v2 v3 v5 D = some r → xfr Rg D r) {rec_63 : Nat → Int32 → Int32 → Int64 → Int32 → Int32 → xDt → Option (xDt)} (hrec_63 : ∀ {v0 : Nat} {v1 : Int32} {v2 : Int32} {v3 : Int64} {v5 : Int32} {v6 : Int32} {D : xDt} {r : xDt}, xK S v0 0 → Rg v0 → rec_63 v0 v1 v2 v3 v5 v6 D = some r → xfr Rg D r) {v0 : Nat} {v1 : Int32} {v2 : Int32} {v3 : Int64} {v5 : Int32} {v6 : Int32} {D : xDt} {r : xDt} (k0 : xK S v0 0) (r0 : Rg v0) (h : f_X0_makeTypes_63s F P S rec_51 rec_63 v0 v1 v2 v3 v5 v6 D = some r) : xfr Rg D r := by
  unfold f_X0_makeTypes_63s at h
  refine xif_p h (fun c h => ?_) (fun c h => ?_)
  · skip
    refine xgrd_e h (fun g1 h => ?_)
    refine xgrd_e h (fun g2 h => ?_)
    refine xlet_e h (fun D3 eD3 h => ?_)
    refine xfr_l (hR.1 k0 r0 4 101 rfl) eD3 ?_
    refine xgrd_e h (fun g4 h => ?_)
    refine xlet_e h (fun D5 eD5 h => ?_)
    refine xfr_l (hR.1 k0 r0 5 101 rfl) eD5 ?_
    exact u_X0_makeTypes_120 hS hR hrec_51 F k0 r0 h
  · skip
    refine xbnd_e h (fun q6 e6 h => ?_)
    refine xfr_tr (U_X0_valueOf hS hR k0 e6) ?_
    refine xgrd_e h (fun g7 h => ?_)
    refine xlet_e h (fun D8 eD8 h => ?_)
    refine xfr_l (hR.1 k0 r0 2 101 rfl) eD8 ?_
    refine xlet_e h (fun v6_9 ev6_9 h => ?_)
    exact hrec_63 k0 r0 h
theorem u_X0_makeTypes_63 {F P : Nat} {S : xSt} (hS : xWF S) {Rg : Nat → Prop} (hR : xRC S Rg) {rec_51 : Nat → Int32 → Int32 → Int64 → Int32 → xDt → Option (xDt)} (hrec_51 : ∀ {v0 : Nat} {v1 : Int32} {v2 : Int32} {v3 : Int64} {v5 : Int32} {D : xDt} {r : xDt}, xK S v0 0 → Rg v0 → rec_51 v0 v1 v2 v3 v5 D = some r → xfr Rg D r) : ∀ (n : Nat) {v0 : Nat} {v1 : Int32} {v2 : Int32} {v3 : Int64} {v5 : Int32} {v6 : Int32} {D : xDt} {r : xDt}, xK S v0 0 → Rg v0 → f_X0_makeTypes_63 F P S rec_51 n v0 v1 v2 v3 v5 v6 D = some r → xfr Rg D r := by
  intro n
  induction n with
  | zero => intros; rename_i h; cases h
  | succ n ih =>
    intro v0 v1 v2 v3 v5 v6 D r k0 r0 h
    exact u_X0_makeTypes_63s hS hR hrec_51 (fun k0 r0 h => ih k0 r0 h) k0 r0 h

theorem u_X0_makeTypes_51s {F P : Nat} {S : xSt} (hS : xWF S) {Rg : Nat → Prop} (hR : xRC S Rg) {rec_51 : Nat → Int32 → Int32 → Int64 → Int32 → xDt → Option (xDt)} (hrec_51 : ∀ {v0 : Nat} {v1 : Int32} {v2 : Int32} {v3 : Int64} {v5 : Int32} {D : xDt} {r : xDt}, xK S v0 0 → Rg v0 → rec_51 v0 v1 v2 v3 v5 D = some r → xfr Rg D r) {v0 : Nat} {v1 : Int32} {v2 : Int32} {v3 : Int64} {v5 : Int32} {D : xDt} {r : xDt} (k0 : xK S v0 0) (r0 : Rg v0) (h : f_X0_makeTypes_51s F P S rec_51 v0 v1 v2 v3 v5 D = some r) : xfr Rg D r := by
  unfold f_X0_makeTypes_51s at h
  refine xif_p h (fun c h => ?_) (fun c h => ?_)
  · skip
    obtain rfl := Option.some.inj h
    exact xfr_rf
  · skip
    exact u_X0_makeTypes_63 hS hR hrec_51 F k0 r0 h
theorem u_X0_makeTypes_51 {F P : Nat} {S : xSt} (hS : xWF S) {Rg : Nat → Prop} (hR : xRC S Rg) : ∀ (n : Nat) {v0 : Nat} {v1 : Int32} {v2 : Int32} {v3 : Int64} {v5 : Int32} {D : xDt} {r : xDt}, xK S v0 0 → Rg v0 → f_X0_makeTypes_51 F P S n v0 v1 v2 v3 v5 D = some r → xfr Rg D r := by
  intro n
  induction n with
  | zero => intros; rename_i h; cases h
  | succ n ih =>
    intro v0 v1 v2 v3 v5 D r k0 r0 h
    exact u_X0_makeTypes_51s hS hR (fun k0 r0 h => ih k0 r0 h) k0 r0 h

theorem u_X0_makeTypes_47 {F P : Nat} {S : xSt} (hS : xWF S) {Rg : Nat → Prop} (hR : xRC S Rg) {v0 : Nat} {v1 : Int32} {v2 : Int32} {s0 : Int64} {D : xDt} {r : xDt} (k0 : xK S v0 0) (r0 : Rg v0) (h : f_X0_makeTypes_47 F P S v0 v1 v2 s0 D = some r) : xfr Rg D r := by
  unfold f_X0_makeTypes_47 at h
  exact u_X0_makeTypes_51 hS hR F k0 r0 h

theorem u_X0_makeTypes_25 {F P : Nat} {S : xSt} (hS : xWF S) {Rg : Nat → Prop} (hR : xRC S Rg) {v0 : Nat} {v1 : Int32} {v2 : Int32} {s0 : Int32} {s1 : Nat} {D : xDt} {r : xDt} (k0 : xK S v0 0) (ks1 : xK S s1 0) (r0 : Rg v0) (rs1 : Rg s1) (h : f_X0_makeTypes_25 F P S v0 v1 v2 s0 s1 D = some r) : xfr Rg D r := by
  unfold f_X0_makeTypes_25 at h
  refine xlet_e h (fun D1 eD1 h => ?_)
  refine xfr_i rs1 eD1 ?_
  refine xif_p h (fun c h => ?_) (fun c h => ?_)
  · skip
    exact u_X0_makeTypes_47 hS hR k0 r0 h
  · skip
    exact u_X0_makeTypes_47 hS hR k0 r0 h

theorem U_X0_makeTypes {F P : Nat} {S : xSt} (hS : xWF S) {Rg : Nat → Prop} (hR : xRC S Rg) {v0 : Nat} {v1 : Int32} {D : xDt} {r : xDt} (k0 : xK S v0 0) (r0 : Rg v0) (h : f_X0_makeTypes F P S v0 v1 D = some r) : xfr Rg D r := by
  unfold f_X0_makeTypes at h
  refine xlet_e h (fun v2_1 ev2_1 h => ?_)
  refine xif_p h (fun c h => ?_) (fun c h => ?_)
  · skip
    exact u_X0_makeTypes_25 hS hR k0 k0 r0 r0 h
  · skip
    exact u_X0_makeTypes_25 hS hR k0 k0 r0 r0 h

theorem U_J13_bitCount_95d88 {F P : Nat} {S : xSt} (hS : xWF S) {Rg : Nat → Prop} (hR : xRC S Rg) {v0 : Int64} {D : xDt} {r : Int32 × xDt} (h : f_J13_bitCount_95d88 F P S v0 D = some r) : xfr Rg D r.2 := by
  unfold f_J13_bitCount_95d88 at h
  refine xlet_e h (fun v0_1 ev0_1 h => ?_)
  refine xlet_e h (fun v0_2 ev0_2 h => ?_)
  refine xlet_e h (fun v0_3 ev0_3 h => ?_)
  refine xlet_e h (fun v0_4 ev0_4 h => ?_)
  refine xlet_e h (fun v0_5 ev0_5 h => ?_)
  refine xlet_e h (fun v0_6 ev0_6 h => ?_)
  obtain rfl := Option.some.inj h
  exact xfr_rf

theorem u_X0_sizeOf_35 {F P : Nat} {S : xSt} (hS : xWF S) {Rg : Nat → Prop} (hR : xRC S Rg) {rec_4 : Nat → Int32 → Int32 → Int32 → xDt → Option (Int32 × xDt)} (hrec_4 : ∀ {v0 : Nat} {v1 : Int32} {v2 : Int32} {v3 : Int32} {D : xDt} {r : Int32 × xDt}, xK S v0 0 → rec_4 v0 v1 v2 v3 D = some r → xfr Rg D r.2) {v0 : Nat} {v1 : Int32} {v3 : Int32} {s0 : Int64} {s1 : Int64} {s2 : Int32} {D : xDt} {r : Int32 × xDt} (k0 : xK S v0 0) (h : f_X0_sizeOf_35 F P S rec_4 v0 v1 v3 s0 s1 s2 D = some r) : xfr Rg D r.2 := by
  unfold f_X0_sizeOf_35 at h
  refine xbnd_e h (fun q1 e1 h => ?_)
  refine xfr_tr (U_J13_bitCount_95d88 hS hR e1) ?_
  refine xlet_e h (fun v2_2 ev2_2 h => ?_)
  refine xlet_e h (fun v3_3 ev3_3 h => ?_)
  exact hrec_4 k0 h

theorem u_X0_sizeOf_4s {F P : Nat} {S : xSt} (hS : xWF S) {Rg : Nat → Prop} (hR : xRC S Rg) {rec_4 : Nat → Int32 → Int32 → Int32 → xDt → Option (Int32 × xDt)} (hrec_4 : ∀ {v0 : Nat} {v1 : Int32} {v2 : Int32} {v3 : Int32} {D : xDt} {r : Int32 × xDt}, xK S v0 0 → rec_4 v0 v1 v2 v3 D = some r → xfr Rg D r.2) {v0 : Nat} {v1 : Int32} {v2 : Int32} {v3 : Int32} {D : xDt} {r : Int32 × xDt} (k0 : xK S v0 0) (h : f_X0_sizeOf_4s F P S rec_4 v0 v1 v2 v3 D = some r) : xfr Rg D r.2 := by
  unfold f_X0_sizeOf_4s at h
  refine xif_p h (fun c h => ?_) (fun c h => ?_)
  · skip
    obtain rfl := Option.some.inj h
    exact xfr_rf
  · skip
    refine xgrd_e h (fun g1 h => ?_)
    refine xif_p h (fun c h => ?_) (fun c h => ?_)
    · skip
      exact u_X0_sizeOf_35 hS hR hrec_4 k0 h
    · skip
      refine xgrd_e h (fun g2 h => ?_)
      exact u_X0_sizeOf_35 hS hR hrec_4 k0 h
theorem u_X0_sizeOf_4 {F P : Nat} {S : xSt} (hS : xWF S) {Rg : Nat → Prop} (hR : xRC S Rg) : ∀ (n : Nat) {v0 : Nat} {v1 : Int32} {v2 : Int32} {v3 : Int32} {D : xDt} {r : Int32 × xDt}, xK S v0 0 → f_X0_sizeOf_4 F P S n v0 v1 v2 v3 D = some r → xfr Rg D r.2 := by
  intro n
  induction n with
  | zero => intros; rename_i h; cases h
  | succ n ih =>
    intro v0 v1 v2 v3 D r k0 h
    exact u_X0_sizeOf_4s hS hR (fun k0 h => ih k0 h) k0 h

theorem U_X0_sizeOf {F P : Nat} {S : xSt} (hS : xWF S) {Rg : Nat → Prop} (hR : xRC S Rg) {v0 : Nat} {v1 : Int32} {D : xDt} {r : Int32 × xDt} (k0 : xK S v0 0) (h : f_X0_sizeOf F P S v0 v1 D = some r) : xfr Rg D r.2 := by
  unfold f_X0_sizeOf at h
  exact u_X0_sizeOf_4 hS hR F k0 h

theorem u_X0_startDoubt_2s {F P : Nat} {S : xSt} (hS : xWF S) {Rg : Nat → Prop} (hR : xRC S Rg) {rec_2 : Nat → Int32 → Int32 → xDt → Option (xDt)} (hrec_2 : ∀ {v0 : Nat} {v1 : Int32} {v2 : Int32} {D : xDt} {r : xDt}, xK S v0 0 → Rg v0 → rec_2 v0 v1 v2 D = some r → xfr Rg D r) {v0 : Nat} {v1 : Int32} {v2 : Int32} {D : xDt} {r : xDt} (k0 : xK S v0 0) (r0 : Rg v0) (h : f_X0_startDoubt_2s F P S rec_2 v0 v1 v2 D = some r) : xfr Rg D r := by
  unfold f_X0_startDoubt_2s at h
  refine xif_p h (fun c h => ?_) (fun c h => ?_)
  · skip
    obtain rfl := Option.some.inj h
    exact xfr_rf
  · skip
    refine xgrd_e h (fun g1 h => ?_)
    refine xgrd_e h (fun g2 h => ?_)
    refine xgrd_e h (fun g3 h => ?_)
    refine xlet_e h (fun D4 eD4 h => ?_)
    refine xfr_l (hR.1 k0 r0 7 101 rfl) eD4 ?_
    refine xlet_e h (fun v2_5 ev2_5 h => ?_)
    exact hrec_2 k0 r0 h
theorem u_X0_startDoubt_2 {F P : Nat} {S : xSt} (hS : xWF S) {Rg : Nat → Prop} (hR : xRC S Rg) : ∀ (n : Nat) {v0 : Nat} {v1 : Int32} {v2 : Int32} {D : xDt} {r : xDt}, xK S v0 0 → Rg v0 → f_X0_startDoubt_2 F P S n v0 v1 v2 D = some r → xfr Rg D r := by
  intro n
  induction n with
  | zero => intros; rename_i h; cases h
  | succ n ih =>
    intro v0 v1 v2 D r k0 r0 h
    exact u_X0_startDoubt_2s hS hR (fun k0 r0 h => ih k0 r0 h) k0 r0 h

theorem U_X0_startDoubt {F P : Nat} {S : xSt} (hS : xWF S) {Rg : Nat → Prop} (hR : xRC S Rg) {v0 : Nat} {v1 : Int32} {D : xDt} {r : xDt} (k0 : xK S v0 0) (r0 : Rg v0) (h : f_X0_startDoubt F P S v0 v1 D = some r) : xfr Rg D r := by
  unfold f_X0_startDoubt at h
  exact u_X0_startDoubt_2 hS hR F k0 r0 h

theorem u_X0_leaveOpen_12s {F P : Nat} {S : xSt} (hS : xWF S) {Rg : Nat → Prop} (hR : xRC S Rg) {rec_12 : Nat → Int32 → Int32 → Int32 → xDt → Option (xDt)} (hrec_12 : ∀ {v0 : Nat} {v1 : Int32} {v2 : Int32} {v3 : Int32} {D : xDt} {r : xDt}, xK S v0 0 → Rg v0 → rec_12 v0 v1 v2 v3 D = some r → xfr Rg D r) {v0 : Nat} {v1 : Int32} {v2 : Int32} {v3 : Int32} {D : xDt} {r : xDt} (k0 : xK S v0 0) (r0 : Rg v0) (h : f_X0_leaveOpen_12s F P S rec_12 v0 v1 v2 v3 D = some r) : xfr Rg D r := by
  unfold f_X0_leaveOpen_12s at h
  refine xif_p h (fun c h => ?_) (fun c h => ?_)
  · skip
    obtain rfl := Option.some.inj h
    exact xfr_rf
  · skip
    refine xgrd_e h (fun g1 h => ?_)
    refine xlet_e h (fun v4_2 ev4_2 h => ?_)
    refine xgrd_e h (fun g3 h => ?_)
    refine xgrd_e h (fun g4 h => ?_)
    refine xgrd_e h (fun g5 h => ?_)
    refine xlet_e h (fun D6 eD6 h => ?_)
    refine xfr_l (hR.1 k0 r0 6 101 rfl) eD6 ?_
    refine xlet_e h (fun v3_7 ev3_7 h => ?_)
    exact hrec_12 k0 r0 h
theorem u_X0_leaveOpen_12 {F P : Nat} {S : xSt} (hS : xWF S) {Rg : Nat → Prop} (hR : xRC S Rg) : ∀ (n : Nat) {v0 : Nat} {v1 : Int32} {v2 : Int32} {v3 : Int32} {D : xDt} {r : xDt}, xK S v0 0 → Rg v0 → f_X0_leaveOpen_12 F P S n v0 v1 v2 v3 D = some r → xfr Rg D r := by
  intro n
  induction n with
  | zero => intros; rename_i h; cases h
  | succ n ih =>
    intro v0 v1 v2 v3 D r k0 r0 h
    exact u_X0_leaveOpen_12s hS hR (fun k0 r0 h => ih k0 r0 h) k0 r0 h

theorem u_X0_leaveOpen_125 {F P : Nat} {S : xSt} (hS : xWF S) {Rg : Nat → Prop} (hR : xRC S Rg) {rec_74 : Nat → Int32 → Int32 → xDt → Option (xDt)} (hrec_74 : ∀ {v0 : Nat} {v2 : Int32} {v3 : Int32} {D : xDt} {r : xDt}, xK S v0 0 → Rg v0 → rec_74 v0 v2 v3 D = some r → xfr Rg D r) {v0 : Nat} {v2 : Int32} {v3 : Int32} {D : xDt} {r : xDt} (k0 : xK S v0 0) (r0 : Rg v0) (h : f_X0_leaveOpen_125 F P S rec_74 v0 v2 v3 D = some r) : xfr Rg D r := by
  unfold f_X0_leaveOpen_125 at h
  refine xlet_e h (fun v3_1 ev3_1 h => ?_)
  exact hrec_74 k0 r0 h

theorem u_X0_leaveOpen_74s {F P : Nat} {S : xSt} (hS : xWF S) {Rg : Nat → Prop} (hR : xRC S Rg) {rec_74 : Nat → Int32 → Int32 → xDt → Option (xDt)} (hrec_74 : ∀ {v0 : Nat} {v2 : Int32} {v3 : Int32} {D : xDt} {r : xDt}, xK S v0 0 → Rg v0 → rec_74 v0 v2 v3 D = some r → xfr Rg D r) {v0 : Nat} {v2 : Int32} {v3 : Int32} {D : xDt} {r : xDt} (k0 : xK S v0 0) (r0 : Rg v0) (h : f_X0_leaveOpen_74s F P S rec_74 v0 v2 v3 D = some r) : xfr Rg D r := by
  unfold f_X0_leaveOpen_74s at h
  refine xif_p h (fun c h => ?_) (fun c h => ?_)
  · skip
    obtain rfl := Option.some.inj h
    exact xfr_rf
  · skip
    refine xif_n h (fun c h => ?_) (fun c h => ?_)
    · skip
      exact u_X0_leaveOpen_125 hS hR hrec_74 k0 r0 h
    · skip
      refine xgrd_e h (fun g1 h => ?_)
      refine xgrd_e h (fun g2 h => ?_)
      refine xlet_e h (fun v4_3 ev4_3 h => ?_)
      refine xgrd_e h (fun g4 h => ?_)
      refine xlet_e h (fun D5 eD5 h => ?_)
      refine xfr_l (hR.1 k0 r0 6 101 rfl) eD5 ?_
      refine xgrd_e h (fun g6 h => ?_)
      refine xlet_e h (fun D7 eD7 h => ?_)
      refine xfr_l (hR.1 k0 r0 6 101 rfl) eD7 ?_
      exact u_X0_leaveOpen_125 hS hR hrec_74 k0 r0 h
theorem u_X0_leaveOpen_74 {F P : Nat} {S : xSt} (hS : xWF S) {Rg : Nat → Prop} (hR : xRC S Rg) : ∀ (n : Nat) {v0 : Nat} {v2 : Int32} {v3 : Int32} {D : xDt} {r : xDt}, xK S v0 0 → Rg v0 → f_X0_leaveOpen_74 F P S n v0 v2 v3 D = some r → xfr Rg D r := by
  intro n
  induction n with
  | zero => intros; rename_i h; cases h
  | succ n ih =>
    intro v0 v2 v3 D r k0 r0 h
    exact u_X0_leaveOpen_74s hS hR (fun k0 r0 h => ih k0 r0 h) k0 r0 h

theorem U_X0_leaveOpen {F P : Nat} {S : xSt} (hS : xWF S) {Rg : Nat → Prop} (hR : xRC S Rg) {v0 : Nat} {v1 : Int32} {D : xDt} {r : xDt} (k0 : xK S v0 0) (r0 : Rg v0) (h : f_X0_leaveOpen F P S v0 v1 D = some r) : xfr Rg D r := by
  unfold f_X0_leaveOpen at h
  refine xif_p h (fun c h => ?_) (fun c h => ?_)
  · skip
    refine xlet_e h (fun v2_1 ev2_1 h => ?_)
    exact u_X0_leaveOpen_74 hS hR F k0 r0 h
  · skip
    refine xlet_e h (fun v2_2 ev2_2 h => ?_)
    exact u_X0_leaveOpen_12 hS hR F k0 r0 h

theorem u_X0_spreadBy_43 {F P : Nat} {S : xSt} (hS : xWF S) {Rg : Nat → Prop} (hR : xRC S Rg) {rec_19 : Nat → Int32 → Int32 → xDt → Option (Int32 × xDt)} (hrec_19 : ∀ {v0 : Nat} {v1 : Int32} {v2 : Int32} {D : xDt} {r : Int32 × xDt}, xK S v0 0 → Rg v0 → rec_19 v0 v1 v2 D = some r → xfr Rg D r.2) {v0 : Nat} {v1 : Int32} {v2 : Int32} {D : xDt} {r : Int32 × xDt} (k0 : xK S v0 0) (r0 : Rg v0) (h : f_X0_spreadBy_43 F P S rec_19 v0 v1 v2 D = some r) : xfr Rg D r.2 := by
  unfold f_X0_spreadBy_43 at h
  refine xlet_e h (fun v2_1 ev2_1 h => ?_)
  exact hrec_19 k0 r0 h

theorem u_X0_spreadBy_104 {F P : Nat} {S : xSt} (hS : xWF S) {Rg : Nat → Prop} (hR : xRC S Rg) {rec_53 : Nat → Int32 → Int32 → xDt → Option (Int32 × xDt)} (hrec_53 : ∀ {v0 : Nat} {v2 : Int32} {v3 : Int32} {D : xDt} {r : Int32 × xDt}, xK S v0 0 → Rg v0 → rec_53 v0 v2 v3 D = some r → xfr Rg D r.2) {v0 : Nat} {v3 : Int32} {v4 : Int64} {s0 : Int32} {D : xDt} {r : Int32 × xDt} (k0 : xK S v0 0) (r0 : Rg v0) (h : f_X0_spreadBy_104 F P S rec_53 v0 v3 v4 s0 D = some r) : xfr Rg D r.2 := by
  unfold f_X0_spreadBy_104 at h
  refine xgrd_e h (fun g1 h => ?_)
  refine xlet_e h (fun D2 eD2 h => ?_)
  refine xfr_l (hR.1 k0 r0 7 101 rfl) eD2 ?_
  refine xlet_e h (fun v3_3 ev3_3 h => ?_)
  exact hrec_53 k0 r0 h

theorem u_X0_spreadBy_99 {F P : Nat} {S : xSt} (hS : xWF S) {Rg : Nat → Prop} (hR : xRC S Rg) {rec_53 : Nat → Int32 → Int32 → xDt → Option (Int32 × xDt)} (hrec_53 : ∀ {v0 : Nat} {v2 : Int32} {v3 : Int32} {D : xDt} {r : Int32 × xDt}, xK S v0 0 → Rg v0 → rec_53 v0 v2 v3 D = some r → xfr Rg D r.2) {v0 : Nat} {v3 : Int32} {v4 : Int64} {D : xDt} {r : Int32 × xDt} (k0 : xK S v0 0) (r0 : Rg v0) (h : f_X0_spreadBy_99 F P S rec_53 v0 v3 v4 D = some r) : xfr Rg D r.2 := by
  unfold f_X0_spreadBy_99 at h
  exact u_X0_spreadBy_104 hS hR hrec_53 k0 r0 h

theorem u_X0_spreadBy_53s {F P : Nat} {S : xSt} (hS : xWF S) {Rg : Nat → Prop} (hR : xRC S Rg) {rec_53 : Nat → Int32 → Int32 → xDt → Option (Int32 × xDt)} (hrec_53 : ∀ {v0 : Nat} {v2 : Int32} {v3 : Int32} {D : xDt} {r : Int32 × xDt}, xK S v0 0 → Rg v0 → rec_53 v0 v2 v3 D = some r → xfr Rg D r.2) {v0 : Nat} {v2 : Int32} {v3 : Int32} {D : xDt} {r : Int32 × xDt} (k0 : xK S v0 0) (r0 : Rg v0) (h : f_X0_spreadBy_53s F P S rec_53 v0 v2 v3 D = some r) : xfr Rg D r.2 := by
  unfold f_X0_spreadBy_53s at h
  refine xif_p h (fun c h => ?_) (fun c h => ?_)
  · skip
    refine xgrd_e h (fun g1 h => ?_)
    obtain rfl := Option.some.inj h
    exact xfr_rf
  · skip
    refine xgrd_e h (fun g2 h => ?_)
    refine xgrd_e h (fun g3 h => ?_)
    refine xgrd_e h (fun g4 h => ?_)
    refine xlet_e h (fun v4_5 ev4_5 h => ?_)
    refine xif_n h (fun c h => ?_) (fun c h => ?_)
    · skip
      exact u_X0_spreadBy_99 hS hR hrec_53 k0 r0 h
    · skip
      refine xgrd_e h (fun g6 h => ?_)
      refine xif_p h (fun c h => ?_) (fun c h => ?_)
      · skip
        exact u_X0_spreadBy_104 hS hR hrec_53 k0 r0 h
      · skip
        exact u_X0_spreadBy_99 hS hR hrec_53 k0 r0 h
theorem u_X0_spreadBy_53 {F P : Nat} {S : xSt} (hS : xWF S) {Rg : Nat → Prop} (hR : xRC S Rg) : ∀ (n : Nat) {v0 : Nat} {v2 : Int32} {v3 : Int32} {D : xDt} {r : Int32 × xDt}, xK S v0 0 → Rg v0 → f_X0_spreadBy_53 F P S n v0 v2 v3 D = some r → xfr Rg D r.2 := by
  intro n
  induction n with
  | zero => intros; rename_i h; cases h
  | succ n ih =>
    intro v0 v2 v3 D r k0 r0 h
    exact u_X0_spreadBy_53s hS hR (fun k0 r0 h => ih k0 r0 h) k0 r0 h

theorem u_X0_spreadBy_19s {F P : Nat} {S : xSt} (hS : xWF S) {Rg : Nat → Prop} (hR : xRC S Rg) {rec_19 : Nat → Int32 → Int32 → xDt → Option (Int32 × xDt)} (hrec_19 : ∀ {v0 : Nat} {v1 : Int32} {v2 : Int32} {D : xDt} {r : Int32 × xDt}, xK S v0 0 → Rg v0 → rec_19 v0 v1 v2 D = some r → xfr Rg D r.2) {v0 : Nat} {v1 : Int32} {v2 : Int32} {D : xDt} {r : Int32 × xDt} (k0 : xK S v0 0) (r0 : Rg v0) (h : f_X0_spreadBy_19s F P S rec_19 v0 v1 v2 D = some r) : xfr Rg D r.2 := by
  unfold f_X0_spreadBy_19s at h
  refine xif_p h (fun c h => ?_) (fun c h => ?_)
  · skip
    exact u_X0_spreadBy_53 hS hR F k0 r0 h
  · skip
    refine xif_n h (fun c h => ?_) (fun c h => ?_)
    · skip
      exact u_X0_spreadBy_43 hS hR hrec_19 k0 r0 h
    · skip
      refine xbnd_e h (fun q1 e1 h => ?_)
      refine xfr_tr (U_X0_leaveOpen hS hR k0 r0 e1) ?_
      exact u_X0_spreadBy_43 hS hR hrec_19 k0 r0 h
theorem u_X0_spreadBy_19 {F P : Nat} {S : xSt} (hS : xWF S) {Rg : Nat → Prop} (hR : xRC S Rg) : ∀ (n : Nat) {v0 : Nat} {v1 : Int32} {v2 : Int32} {D : xDt} {r : Int32 × xDt}, xK S v0 0 → Rg v0 → f_X0_spreadBy_19 F P S n v0 v1 v2 D = some r → xfr Rg D r.2 := by
  intro n
  induction n with
  | zero => intros; rename_i h; cases h
  | succ n ih =>
    intro v0 v1 v2 D r k0 r0 h
    exact u_X0_spreadBy_19s hS hR (fun k0 r0 h => ih k0 r0 h) k0 r0 h

theorem U_X0_spreadBy {F P : Nat} {S : xSt} (hS : xWF S) {Rg : Nat → Prop} (hR : xRC S Rg) {v0 : Nat} {v1 : Int32} {D : xDt} {r : Int32 × xDt} (k0 : xK S v0 0) (r0 : Rg v0) (h : f_X0_spreadBy F P S v0 v1 D = some r) : xfr Rg D r.2 := by
  unfold f_X0_spreadBy at h
  refine xgrd_e h (fun g1 h => ?_)
  refine xlet_e h (fun D2 eD2 h => ?_)
  refine xfr_cl (hR.1 k0 r0 6 101 rfl) eD2 ?_
  exact u_X0_spreadBy_19 hS hR F k0 r0 h

theorem u_X0_spread_53 {F P : Nat} {S : xSt} (hS : xWF S) {Rg : Nat → Prop} (hR : xRC S Rg) {rec_4 : Nat → Int32 → Int32 → Int32 → xDt → Option (xDt)} (hrec_4 : ∀ {v0 : Nat} {v1 : Int32} {v2 : Int32} {v3 : Int32} {D : xDt} {r : xDt}, xK S v0 0 → Rg v0 → rec_4 v0 v1 v2 v3 D = some r → xfr Rg D r) {rec_20 : Nat → Int32 → Int32 → Int32 → Int32 → xDt → Option (xDt)} (hrec_20 : ∀ {v0 : Nat} {v1 : Int32} {v2 : Int32} {v3 : Int32} {v4 : Int32} {D : xDt} {r : xDt}, xK S v0 0 → Rg v0 → rec_20 v0 v1 v2 v3 v4 D = some r → xfr Rg D r) {v0 : Nat} {v1 : Int32} {v2 : Int32} {v3 : Int32} {v4 : Int32} {D : xDt} {r : xDt} (k0 : xK S v0 0) (r0 : Rg v0) (h : f_X0_spread_53 F P S rec_4 rec_20 v0 v1 v2 v3 v4 D = some r) : xfr Rg D r := by
  unfold f_X0_spread_53 at h
  refine xlet_e h (fun v4_1 ev4_1 h => ?_)
  exact hrec_20 k0 r0 h

theorem u_X0_spread_81 {F P : Nat} {S : xSt} (hS : xWF S) {Rg : Nat → Prop} (hR : xRC S Rg) {rec_4 : Nat → Int32 → Int32 → Int32 → xDt → Option (xDt)} (hrec_4 : ∀ {v0 : Nat} {v1 : Int32} {v2 : Int32} {v3 : Int32} {D : xDt} {r : xDt}, xK S v0 0 → Rg v0 → rec_4 v0 v1 v2 v3 D = some r → xfr Rg D r) {v0 : Nat} {v1 : Int32} {v3 : Int32} {s0 : Int32} {D : xDt} {r : xDt} (k0 : xK S v0 0) (r0 : Rg v0) (h : f_X0_spread_81 F P S rec_4 v0 v1 v3 s0 D = some r) : xfr Rg D r := by
  unfold f_X0_spread_81 at h
  refine xlet_e h (fun v3_1 ev3_1 h => ?_)
  exact hrec_4 k0 r0 h

theorem u_X0_spread_80 {F P : Nat} {S : xSt} (hS : xWF S) {Rg : Nat → Prop} (hR : xRC S Rg) {rec_4 : Nat → Int32 → Int32 → Int32 → xDt → Option (xDt)} (hrec_4 : ∀ {v0 : Nat} {v1 : Int32} {v2 : Int32} {v3 : Int32} {D : xDt} {r : xDt}, xK S v0 0 → Rg v0 → rec_4 v0 v1 v2 v3 D = some r → xfr Rg D r) {v0 : Nat} {v1 : Int32} {v3 : Int32} {D : xDt} {r : xDt} (k0 : xK S v0 0) (r0 : Rg v0) (h : f_X0_spread_80 F P S rec_4 v0 v1 v3 D = some r) : xfr Rg D r := by
  unfold f_X0_spread_80 at h
  exact u_X0_spread_81 hS hR hrec_4 k0 r0 h

theorem u_X0_spread_20s {F P : Nat} {S : xSt} (hS : xWF S) {Rg : Nat → Prop} (hR : xRC S Rg) {rec_4 : Nat → Int32 → Int32 → Int32 → xDt → Option (xDt)} (hrec_4 : ∀ {v0 : Nat} {v1 : Int32} {v2 : Int32} {v3 : Int32} {D : xDt} {r : xDt}, xK S v0 0 → Rg v0 → rec_4 v0 v1 v2 v3 D = some r → xfr Rg D r) {rec_20 : Nat → Int32 → Int32 → Int32 → Int32 → xDt → Option (xDt)} (hrec_20 : ∀ {v0 : Nat} {v1 : Int32} {v2 : Int32} {v3 : Int32} {v4 : Int32} {D : xDt} {r : xDt}, xK S v0 0 → Rg v0 → rec_20 v0 v1 v2 v3 v4 D = some r → xfr Rg D r) {v0 : Nat} {v1 : Int32} {v2 : Int32} {v3 : Int32} {v4 : Int32} {D : xDt} {r : xDt} (k0 : xK S v0 0) (r0 : Rg v0) (h : f_X0_spread_20s F P S rec_4 rec_20 v0 v1 v2 v3 v4 D = some r) : xfr Rg D r := by
  unfold f_X0_spread_20s at h
  refine xif_p h (fun c h => ?_) (fun c h => ?_)
  · skip
    refine xif_p h (fun c h => ?_) (fun c h => ?_)
    · skip
      exact u_X0_spread_80 hS hR hrec_4 k0 r0 h
    · skip
      refine xbnd_e h (fun q1 e1 h => ?_)
      refine xfr_tr (U_X0_tokenAt hS hR k0 e1) ?_
      refine xbnd_e h (fun q2 e2 h => ?_)
      refine xfr_tr (U_X11_signOf hS hR e2) ?_
      refine xif_n h (fun c h => ?_) (fun c h => ?_)
      · skip
        exact u_X0_spread_80 hS hR hrec_4 k0 r0 h
      · skip
        exact u_X0_spread_81 hS hR hrec_4 k0 r0 h
  · skip
    refine xbnd_e h (fun q3 e3 h => ?_)
    refine xfr_tr (U_X0_tokenAt hS hR k0 e3) ?_
    refine xbnd_e h (fun q4 e4 h => ?_)
    refine xfr_tr (U_X11_hasAgent hS hR e4) ?_
    refine xif_p h (fun c h => ?_) (fun c h => ?_)
    · skip
      exact u_X0_spread_53 hS hR hrec_4 hrec_20 k0 r0 h
    · skip
      refine xgrd_e h (fun g5 h => ?_)
      refine xbnd_e h (fun q6 e6 h => ?_)
      refine xfr_tr (U_X0_spreadBy hS hR k0 r0 e6) ?_
      refine xlet_e h (fun v2_7 ev2_7 h => ?_)
      exact u_X0_spread_53 hS hR hrec_4 hrec_20 k0 r0 h
theorem u_X0_spread_20 {F P : Nat} {S : xSt} (hS : xWF S) {Rg : Nat → Prop} (hR : xRC S Rg) {rec_4 : Nat → Int32 → Int32 → Int32 → xDt → Option (xDt)} (hrec_4 : ∀ {v0 : Nat} {v1 : Int32} {v2 : Int32} {v3 : Int32} {D : xDt} {r : xDt}, xK S v0 0 → Rg v0 → rec_4 v0 v1 v2 v3 D = some r → xfr Rg D r) : ∀ (n : Nat) {v0 : Nat} {v1 : Int32} {v2 : Int32} {v3 : Int32} {v4 : Int32} {D : xDt} {r : xDt}, xK S v0 0 → Rg v0 → f_X0_spread_20 F P S rec_4 n v0 v1 v2 v3 v4 D = some r → xfr Rg D r := by
  intro n
  induction n with
  | zero => intros; rename_i h; cases h
  | succ n ih =>
    intro v0 v1 v2 v3 v4 D r k0 r0 h
    exact u_X0_spread_20s hS hR hrec_4 (fun k0 r0 h => ih k0 r0 h) k0 r0 h

theorem u_X0_spread_4s {F P : Nat} {S : xSt} (hS : xWF S) {Rg : Nat → Prop} (hR : xRC S Rg) {rec_4 : Nat → Int32 → Int32 → Int32 → xDt → Option (xDt)} (hrec_4 : ∀ {v0 : Nat} {v1 : Int32} {v2 : Int32} {v3 : Int32} {D : xDt} {r : xDt}, xK S v0 0 → Rg v0 → rec_4 v0 v1 v2 v3 D = some r → xfr Rg D r) {v0 : Nat} {v1 : Int32} {v2 : Int32} {v3 : Int32} {D : xDt} {r : xDt} (k0 : xK S v0 0) (r0 : Rg v0) (h : f_X0_spread_4s F P S rec_4 v0 v1 v2 v3 D = some r) : xfr Rg D r := by
  unfold f_X0_spread_4s at h
  refine xif_p h (fun c h => ?_) (fun c h => ?_)
  · skip
    obtain rfl := Option.some.inj h
    exact xfr_rf
  · skip
    refine xif_p h (fun c h => ?_) (fun c h => ?_)
    · skip
      obtain rfl := Option.some.inj h
      exact xfr_rf
    · skip
      exact u_X0_spread_20 hS hR hrec_4 F k0 r0 h
theorem u_X0_spread_4 {F P : Nat} {S : xSt} (hS : xWF S) {Rg : Nat → Prop} (hR : xRC S Rg) : ∀ (n : Nat) {v0 : Nat} {v1 : Int32} {v2 : Int32} {v3 : Int32} {D : xDt} {r : xDt}, xK S v0 0 → Rg v0 → f_X0_spread_4 F P S n v0 v1 v2 v3 D = some r → xfr Rg D r := by
  intro n
  induction n with
  | zero => intros; rename_i h; cases h
  | succ n ih =>
    intro v0 v1 v2 v3 D r k0 r0 h
    exact u_X0_spread_4s hS hR (fun k0 r0 h => ih k0 r0 h) k0 r0 h

theorem U_X0_spread {F P : Nat} {S : xSt} (hS : xWF S) {Rg : Nat → Prop} (hR : xRC S Rg) {v0 : Nat} {v1 : Int32} {D : xDt} {r : xDt} (k0 : xK S v0 0) (r0 : Rg v0) (h : f_X0_spread F P S v0 v1 D = some r) : xfr Rg D r := by
  unfold f_X0_spread at h
  exact u_X0_spread_4 hS hR F k0 r0 h

theorem u_X0_drop_55 {F P : Nat} {S : xSt} (hS : xWF S) {Rg : Nat → Prop} (hR : xRC S Rg) {rec_4 : Nat → Int32 → Int32 → Int32 → xDt → Option (Int32 × xDt)} (hrec_4 : ∀ {v0 : Nat} {v1 : Int32} {v2 : Int32} {v3 : Int32} {D : xDt} {r : Int32 × xDt}, xK S v0 0 → Rg v0 → rec_4 v0 v1 v2 v3 D = some r → xfr Rg D r.2) {v0 : Nat} {v1 : Int32} {v3 : Int32} {v4 : Int64} {s0 : Int32} {D : xDt} {r : Int32 × xDt} (k0 : xK S v0 0) (r0 : Rg v0) (h : f_X0_drop_55 F P S rec_4 v0 v1 v3 v4 s0 D = some r) : xfr Rg D r.2 := by
  unfold f_X0_drop_55 at h
  refine xgrd_e h (fun g1 h => ?_)
  refine xlet_e h (fun D2 eD2 h => ?_)
  refine xfr_l (hR.1 k0 r0 5 101 rfl) eD2 ?_
  refine xlet_e h (fun v3_3 ev3_3 h => ?_)
  exact hrec_4 k0 r0 h

theorem u_X0_drop_50 {F P : Nat} {S : xSt} (hS : xWF S) {Rg : Nat → Prop} (hR : xRC S Rg) {rec_4 : Nat → Int32 → Int32 → Int32 → xDt → Option (Int32 × xDt)} (hrec_4 : ∀ {v0 : Nat} {v1 : Int32} {v2 : Int32} {v3 : Int32} {D : xDt} {r : Int32 × xDt}, xK S v0 0 → Rg v0 → rec_4 v0 v1 v2 v3 D = some r → xfr Rg D r.2) {v0 : Nat} {v1 : Int32} {v3 : Int32} {v4 : Int64} {D : xDt} {r : Int32 × xDt} (k0 : xK S v0 0) (r0 : Rg v0) (h : f_X0_drop_50 F P S rec_4 v0 v1 v3 v4 D = some r) : xfr Rg D r.2 := by
  unfold f_X0_drop_50 at h
  exact u_X0_drop_55 hS hR hrec_4 k0 r0 h

theorem u_X0_drop_4s {F P : Nat} {S : xSt} (hS : xWF S) {Rg : Nat → Prop} (hR : xRC S Rg) {rec_4 : Nat → Int32 → Int32 → Int32 → xDt → Option (Int32 × xDt)} (hrec_4 : ∀ {v0 : Nat} {v1 : Int32} {v2 : Int32} {v3 : Int32} {D : xDt} {r : Int32 × xDt}, xK S v0 0 → Rg v0 → rec_4 v0 v1 v2 v3 D = some r → xfr Rg D r.2) {v0 : Nat} {v1 : Int32} {v2 : Int32} {v3 : Int32} {D : xDt} {r : Int32 × xDt} (k0 : xK S v0 0) (r0 : Rg v0) (h : f_X0_drop_4s F P S rec_4 v0 v1 v2 v3 D = some r) : xfr Rg D r.2 := by
  unfold f_X0_drop_4s at h
  refine xif_p h (fun c h => ?_) (fun c h => ?_)
  · skip
    refine xgrd_e h (fun g1 h => ?_)
    obtain rfl := Option.some.inj h
    exact xfr_rf
  · skip
    refine xgrd_e h (fun g2 h => ?_)
    refine xbnd_e h (fun q3 e3 h => ?_)
    refine xfr_tr (U_X0_telling hS hR k0 e3) ?_
    refine xgrd_e h (fun g4 h => ?_)
    refine xlet_e h (fun v4_5 ev4_5 h => ?_)
    refine xif_n h (fun c h => ?_) (fun c h => ?_)
    · skip
      exact u_X0_drop_50 hS hR hrec_4 k0 r0 h
    · skip
      refine xgrd_e h (fun g6 h => ?_)
      refine xif_p h (fun c h => ?_) (fun c h => ?_)
      · skip
        exact u_X0_drop_55 hS hR hrec_4 k0 r0 h
      · skip
        exact u_X0_drop_50 hS hR hrec_4 k0 r0 h
theorem u_X0_drop_4 {F P : Nat} {S : xSt} (hS : xWF S) {Rg : Nat → Prop} (hR : xRC S Rg) : ∀ (n : Nat) {v0 : Nat} {v1 : Int32} {v2 : Int32} {v3 : Int32} {D : xDt} {r : Int32 × xDt}, xK S v0 0 → Rg v0 → f_X0_drop_4 F P S n v0 v1 v2 v3 D = some r → xfr Rg D r.2 := by
  intro n
  induction n with
  | zero => intros; rename_i h; cases h
  | succ n ih =>
    intro v0 v1 v2 v3 D r k0 r0 h
    exact u_X0_drop_4s hS hR (fun k0 r0 h => ih k0 r0 h) k0 r0 h

theorem U_X0_drop {F P : Nat} {S : xSt} (hS : xWF S) {Rg : Nat → Prop} (hR : xRC S Rg) {v0 : Nat} {v1 : Int32} {D : xDt} {r : Int32 × xDt} (k0 : xK S v0 0) (r0 : Rg v0) (h : f_X0_drop F P S v0 v1 D = some r) : xfr Rg D r.2 := by
  unfold f_X0_drop at h
  exact u_X0_drop_4 hS hR F k0 r0 h

theorem u_X0_sift_72 {F P : Nat} {S : xSt} (hS : xWF S) {Rg : Nat → Prop} (hR : xRC S Rg) {rec_4 : Nat → Int32 → Int32 → xDt → Option (xDt)} (hrec_4 : ∀ {v0 : Nat} {v1 : Int32} {v2 : Int32} {D : xDt} {r : xDt}, xK S v0 0 → Rg v0 → rec_4 v0 v1 v2 D = some r → xfr Rg D r) {rec_19 : Nat → Int32 → Int32 → Int32 → xDt → Option (xDt)} (hrec_19 : ∀ {v0 : Nat} {v1 : Int32} {v2 : Int32} {v3 : Int32} {D : xDt} {r : xDt}, xK S v0 0 → Rg v0 → rec_19 v0 v1 v2 v3 D = some r → xfr Rg D r) {v0 : Nat} {v1 : Int32} {v2 : Int32} {v3 : Int32} {D : xDt} {r : xDt} (k0 : xK S v0 0) (r0 : Rg v0) (h : f_X0_sift_72 F P S rec_4 rec_19 v0 v1 v2 v3 D = some r) : xfr Rg D r := by
  unfold f_X0_sift_72 at h
  refine xlet_e h (fun v3_1 ev3_1 h => ?_)
  exact hrec_19 k0 r0 h

theorem u_X0_sift_54 {F P : Nat} {S : xSt} (hS : xWF S) {Rg : Nat → Prop} (hR : xRC S Rg) {rec_4 : Nat → Int32 → Int32 → xDt → Option (xDt)} (hrec_4 : ∀ {v0 : Nat} {v1 : Int32} {v2 : Int32} {D : xDt} {r : xDt}, xK S v0 0 → Rg v0 → rec_4 v0 v1 v2 D = some r → xfr Rg D r) {rec_19 : Nat → Int32 → Int32 → Int32 → xDt → Option (xDt)} (hrec_19 : ∀ {v0 : Nat} {v1 : Int32} {v2 : Int32} {v3 : Int32} {D : xDt} {r : xDt}, xK S v0 0 → Rg v0 → rec_19 v0 v1 v2 v3 D = some r → xfr Rg D r) {v0 : Nat} {v1 : Int32} {v2 : Int32} {v3 : Int32} {D : xDt} {r : xDt} (k0 : xK S v0 0) (r0 : Rg v0) (h : f_X0_sift_54 F P S rec_4 rec_19 v0 v1 v2 v3 D = some r) : xfr Rg D r := by
  unfold f_X0_sift_54 at h
  refine xbnd_e h (fun q1 e1 h => ?_)
  refine xfr_tr (U_X0_startDoubt hS hR k0 r0 e1) ?_
  refine xbnd_e h (fun q2 e2 h => ?_)
  refine xfr_tr (U_X0_spread hS hR k0 r0 e2) ?_
  refine xbnd_e h (fun q3 e3 h => ?_)
  refine xfr_tr (U_X0_drop hS hR k0 r0 e3) ?_
  refine xlet_e h (fun v1_4 ev1_4 h => ?_)
  exact u_X0_sift_72 hS hR hrec_4 hrec_19 k0 r0 h

theorem u_X0_sift_19s {F P : Nat} {S : xSt} (hS : xWF S) {Rg : Nat → Prop} (hR : xRC S Rg) {rec_4 : Nat → Int32 → Int32 → xDt → Option (xDt)} (hrec_4 : ∀ {v0 : Nat} {v1 : Int32} {v2 : Int32} {D : xDt} {r : xDt}, xK S v0 0 → Rg v0 → rec_4 v0 v1 v2 D = some r → xfr Rg D r) {rec_19 : Nat → Int32 → Int32 → Int32 → xDt → Option (xDt)} (hrec_19 : ∀ {v0 : Nat} {v1 : Int32} {v2 : Int32} {v3 : Int32} {D : xDt} {r : xDt}, xK S v0 0 → Rg v0 → rec_19 v0 v1 v2 v3 D = some r → xfr Rg D r) {v0 : Nat} {v1 : Int32} {v2 : Int32} {v3 : Int32} {D : xDt} {r : xDt} (k0 : xK S v0 0) (r0 : Rg v0) (h : f_X0_sift_19s F P S rec_4 rec_19 v0 v1 v2 v3 D = some r) : xfr Rg D r := by
  unfold f_X0_sift_19s at h
  refine xif_p h (fun c h => ?_) (fun c h => ?_)
  · skip
    refine xlet_e h (fun v2_1 ev2_1 h => ?_)
    exact hrec_4 k0 r0 h
  · skip
    refine xbnd_e h (fun q2 e2 h => ?_)
    refine xfr_tr (U_X0_tokenAt hS hR k0 e2) ?_
    refine xbnd_e h (fun q3 e3 h => ?_)
    refine xfr_tr (U_X11_signOf hS hR e3) ?_
    refine xif_p h (fun c h => ?_) (fun c h => ?_)
    · skip
      exact u_X0_sift_54 hS hR hrec_4 hrec_19 k0 r0 h
    · skip
      refine xif_n h (fun c h => ?_) (fun c h => ?_)
      · skip
        exact u_X0_sift_72 hS hR hrec_4 hrec_19 k0 r0 h
      · skip
        exact u_X0_sift_54 hS hR hrec_4 hrec_19 k0 r0 h
theorem u_X0_sift_19 {F P : Nat} {S : xSt} (hS : xWF S) {Rg : Nat → Prop} (hR : xRC S Rg) {rec_4 : Nat → Int32 → Int32 → xDt → Option (xDt)} (hrec_4 : ∀ {v0 : Nat} {v1 : Int32} {v2 : Int32} {D : xDt} {r : xDt}, xK S v0 0 → Rg v0 → rec_4 v0 v1 v2 D = some r → xfr Rg D r) : ∀ (n : Nat) {v0 : Nat} {v1 : Int32} {v2 : Int32} {v3 : Int32} {D : xDt} {r : xDt}, xK S v0 0 → Rg v0 → f_X0_sift_19 F P S rec_4 n v0 v1 v2 v3 D = some r → xfr Rg D r := by
  intro n
  induction n with
  | zero => intros; rename_i h; cases h
  | succ n ih =>
    intro v0 v1 v2 v3 D r k0 r0 h
    exact u_X0_sift_19s hS hR hrec_4 (fun k0 r0 h => ih k0 r0 h) k0 r0 h

theorem u_X0_sift_4s {F P : Nat} {S : xSt} (hS : xWF S) {Rg : Nat → Prop} (hR : xRC S Rg) {rec_4 : Nat → Int32 → Int32 → xDt → Option (xDt)} (hrec_4 : ∀ {v0 : Nat} {v1 : Int32} {v2 : Int32} {D : xDt} {r : xDt}, xK S v0 0 → Rg v0 → rec_4 v0 v1 v2 D = some r → xfr Rg D r) {v0 : Nat} {v1 : Int32} {v2 : Int32} {D : xDt} {r : xDt} (k0 : xK S v0 0) (r0 : Rg v0) (h : f_X0_sift_4s F P S rec_4 v0 v1 v2 D = some r) : xfr Rg D r := by
  unfold f_X0_sift_4s at h
  refine xif_p h (fun c h => ?_) (fun c h => ?_)
  · skip
    obtain rfl := Option.some.inj h
    exact xfr_rf
  · skip
    refine xif_p h (fun c h => ?_) (fun c h => ?_)
    · skip
      obtain rfl := Option.some.inj h
      exact xfr_rf
    · skip
      exact u_X0_sift_19 hS hR hrec_4 F k0 r0 h
theorem u_X0_sift_4 {F P : Nat} {S : xSt} (hS : xWF S) {Rg : Nat → Prop} (hR : xRC S Rg) : ∀ (n : Nat) {v0 : Nat} {v1 : Int32} {v2 : Int32} {D : xDt} {r : xDt}, xK S v0 0 → Rg v0 → f_X0_sift_4 F P S n v0 v1 v2 D = some r → xfr Rg D r := by
  intro n
  induction n with
  | zero => intros; rename_i h; cases h
  | succ n ih =>
    intro v0 v1 v2 D r k0 r0 h
    exact u_X0_sift_4s hS hR (fun k0 r0 h => ih k0 r0 h) k0 r0 h

theorem U_X0_sift {F P : Nat} {S : xSt} (hS : xWF S) {Rg : Nat → Prop} (hR : xRC S Rg) {v0 : Nat} {D : xDt} {r : xDt} (k0 : xK S v0 0) (r0 : Rg v0) (h : f_X0_sift F P S v0 D = some r) : xfr Rg D r := by
  unfold f_X0_sift at h
  exact u_X0_sift_4 hS hR F k0 r0 h

theorem u_X0_work_125 {F P : Nat} {S : xSt} (hS : xWF S) {Rg : Nat → Prop} (hR : xRC S Rg) {v0 : Nat} {s0 : Int32} {s1 : Int32} {s2 : Nat} {D : xDt} {r : xDt} (k0 : xK S v0 0) (ks2 : xK S s2 100) (r0 : Rg v0) (rs2 : Rg s2) (h : f_X0_work_125 F P S v0 s0 s1 s2 D = some r) : xfr Rg D r := by
  unfold f_X0_work_125 at h
  refine xgrd_e h (fun g1 h => ?_)
  refine xlet_e h (fun D2 eD2 h => ?_)
  refine xfr_i rs2 eD2 ?_
  refine xgrd_e h (fun g3 h => ?_)
  refine xgrd_e h (fun g4 h => ?_)
  refine xif_n h (fun c h => ?_) (fun c h => ?_)
  · skip
    refine xgrd_e h (fun g5 h => ?_)
    refine xlet_e h (fun D6 eD6 h => ?_)
    refine xfr_i (hR.1 k0 r0 0 100 rfl) eD6 ?_
    obtain rfl := Option.some.inj h
    exact xfr_rf
  · skip
    refine xgrd_e h (fun g7 h => ?_)
    refine xlet_e h (fun D8 eD8 h => ?_)
    refine xfr_i (hR.1 k0 r0 0 100 rfl) eD8 ?_
    obtain rfl := Option.some.inj h
    exact xfr_rf

theorem U_X0_work {F P : Nat} {S : xSt} (hS : xWF S) {Rg : Nat → Prop} (hR : xRC S Rg) {v0 : Nat} {v1 : Nat} {D : xDt} {r : xDt} (k0 : xK S v0 0) (k1 : xK S v1 2) (r0 : Rg v0) (h : f_X0_work F P S v0 v1 D = some r) : xfr Rg D r := by
  unfold f_X0_work at h
  refine xbnd_e h (fun q1 e1 h => ?_)
  refine xfr_tr (U_X2_hasAny hS hR k1 (by decide) e1) ?_
  refine xif_p h (fun c h => ?_) (fun c h => ?_)
  · skip
    refine xbnd_e h (fun q2 e2 h => ?_)
    refine xfr_tr (U_X8_build hS hR ((hS.f k0 1 8 rfl).2) k1 (hR.1 k0 r0 1 8 rfl) e2) ?_
    refine xif_p h (fun c h => ?_) (fun c h => ?_)
    · skip
      refine xbnd_e h (fun q3 e3 h => ?_)
      refine xfr_tr (U_X0_findKnownBits hS hR k0 r0 e3) ?_
      refine xbnd_e h (fun q4 e4 h => ?_)
      refine xfr_tr (U_X0_makeTypes hS hR k0 r0 e4) ?_
      refine xgrd_e h (fun g5 h => ?_)
      refine xlet_e h (fun D6 eD6 h => ?_)
      refine xfr_i (hR.1 k0 r0 0 100 rfl) eD6 ?_
      refine xbnd_e h (fun q7 e7 h => ?_)
      refine xfr_tr (U_X0_sizeOf hS hR k0 e7) ?_
      refine xgrd_e h (fun g8 h => ?_)
      refine xlet_e h (fun D9 eD9 h => ?_)
      refine xfr_i (hR.1 k0 r0 0 100 rfl) eD9 ?_
      refine xbnd_e h (fun q10 e10 h => ?_)
      refine xfr_tr (U_X0_sift hS hR k0 r0 e10) ?_
      refine xbnd_e h (fun q11 e11 h => ?_)
      refine xfr_tr (U_X0_sizeOf hS hR k0 e11) ?_
      refine xgrd_e h (fun g12 h => ?_)
      refine xlet_e h (fun D13 eD13 h => ?_)
      refine xfr_i (hR.1 k0 r0 0 100 rfl) eD13 ?_
      refine xbnd_e h (fun q14 e14 h => ?_)
      refine xfr_tr (U_X0_sizeOf hS hR k0 e14) ?_
      refine xgrd_e h (fun g15 h => ?_)
      refine xlet_e h (fun D16 eD16 h => ?_)
      refine xfr_i (hR.1 k0 r0 0 100 rfl) eD16 ?_
      refine xgrd_e h (fun g17 h => ?_)
      refine xif_p h (fun c h => ?_) (fun c h => ?_)
      · skip
        exact u_X0_work_125 hS hR k0 ((hS.f k0 0 100 rfl).2) r0 (hR.1 k0 r0 0 100 rfl) h
      · skip
        exact u_X0_work_125 hS hR k0 ((hS.f k0 0 100 rfl).2) r0 (hR.1 k0 r0 0 100 rfl) h
    · skip
      refine xbnd_e h (fun q18 e18 h => ?_)
      refine xfr_tr (U_J7_fill_53178 hS hR ((hS.f k0 0 100 rfl).2) (hR.1 k0 r0 0 100 rfl) e18) ?_
      obtain rfl := Option.some.inj h
      exact xfr_rf
  · skip
    refine xbnd_e h (fun q19 e19 h => ?_)
    refine xfr_tr (U_J7_fill_53178 hS hR ((hS.f k0 0 100 rfl).2) (hR.1 k0 r0 0 100 rfl) e19) ?_
    obtain rfl := Option.some.inj h
    exact xfr_rf

theorem u_X1_has_16 {F P : Nat} {S : xSt} (hS : xWF S) {Rg : Nat → Prop} (hR : xRC S Rg) {D : xDt} {r : Int32 × xDt} (h : f_X1_has_16 F P S D = some r) : xfr Rg D r.2 := by
  unfold f_X1_has_16 at h
  obtain rfl := Option.some.inj h
  exact xfr_rf

theorem U_X1_has {F P : Nat} {S : xSt} (hS : xWF S) {Rg : Nat → Prop} (hR : xRC S Rg) {v0 : Nat} {v1 : Int32} {D : xDt} {r : Int32 × xDt} (k0 : xK S v0 1) (h : f_X1_has F P S v0 v1 D = some r) : xfr Rg D r.2 := by
  unfold f_X1_has at h
  refine xif_p h (fun c h => ?_) (fun c h => ?_)
  · skip
    exact u_X1_has_16 hS hR h
  · skip
    refine xif_p h (fun c h => ?_) (fun c h => ?_)
    · skip
      exact u_X1_has_16 hS hR h
    · skip
      obtain rfl := Option.some.inj h
      exact xfr_rf

theorem U_X2_addAll {F P : Nat} {S : xSt} (hS : xWF S) {Rg : Nat → Prop} (hR : xRC S Rg) {v0 : Nat} {v1 : Nat} {v2 : Int32} {v3 : Int32} {D : xDt} {r : Int32 × xDt} (k0 : xK S v0 2) (k1 : xK S v1 100) (r0 : Rg v0) (h : f_X2_addAll F P S v0 v1 v2 v3 D = some r) : xfr Rg D r.2 := by
  unfold f_X2_addAll at h
  refine xlet_e h (fun v4_1 ev4_1 h => ?_)
  refine xif_p h (fun c h => ?_) (fun c h => ?_)
  · skip
    obtain rfl := Option.some.inj h
    exact xfr_rf
  · skip
    refine xif_p h (fun c h => ?_) (fun c h => ?_)
    · skip
      obtain rfl := Option.some.inj h
      exact xfr_rf
    · skip
      refine xif_p h (fun c h => ?_) (fun c h => ?_)
      · skip
        obtain rfl := Option.some.inj h
        exact xfr_rf
      · skip
        refine xif_p h (fun c h => ?_) (fun c h => ?_)
        · skip
          refine xgrd_e h (fun g2 h => ?_)
          refine xlet_e h (fun D3 eD3 h => ?_)
          refine xfr_ci (hR.1 k0 r0 0 100 rfl) eD3 ?_
          refine xlet_e h (fun D4 eD4 h => ?_)
          refine xfr_i r0 eD4 ?_
          obtain rfl := Option.some.inj h
          exact xfr_rf
        · skip
          obtain rfl := Option.some.inj h
          exact xfr_rf

theorem U_X2_copy {F P : Nat} {S : xSt} (hS : xWF S) {Rg : Nat → Prop} (hR : xRC S Rg) {v0 : Nat} {v1 : Nat} {D : xDt} {r : xDt} (k0 : xK S v0 2) (k1 : xK S v1 2) (r0 : Rg v0) (h : f_X2_copy F P S v0 v1 D = some r) : xfr Rg D r := by
  unfold f_X2_copy at h
  refine xlet_e h (fun D1 eD1 h => ?_)
  refine xfr_i r0 eD1 ?_
  refine xbnd_e h (fun q2 e2 h => ?_)
  refine xfr_tr (U_X2_addAll hS hR k0 ((hS.f k1 0 100 rfl).2) r0 e2) ?_
  obtain rfl := Option.some.inj h
  exact xfr_rf

theorem u_X1_add_79s {F P : Nat} {S : xSt} (hS : xWF S) {Rg : Nat → Prop} (hR : xRC S Rg) {rec_79 : Nat → Int32 → Int32 → xDt → Option (Int32 × xDt)} (hrec_79 : ∀ {v0 : Nat} {v2 : Int32} {v3 : Int32} {D : xDt} {r : Int32 × xDt}, xK S v0 1 → Rg v0 → rec_79 v0 v2 v3 D = some r → xfr Rg D r.2) {v0 : Nat} {v2 : Int32} {v3 : Int32} {D : xDt} {r : Int32 × xDt} (k0 : xK S v0 1) (r0 : Rg v0) (h : f_X1_add_79s F P S rec_79 v0 v2 v3 D = some r) : xfr Rg D r.2 := by
  unfold f_X1_add_79s at h
  refine xif_p h (fun c h => ?_) (fun c h => ?_)
  · skip
    obtain rfl := Option.some.inj h
    exact xfr_rf
  · skip
    refine xgrd_e h (fun g1 h => ?_)
    refine xlet_e h (fun D2 eD2 h => ?_)
    refine xfr_i (hR.1 k0 r0 2 100 rfl) eD2 ?_
    refine xlet_e h (fun v3_3 ev3_3 h => ?_)
    exact hrec_79 k0 r0 h
theorem u_X1_add_79 {F P : Nat} {S : xSt} (hS : xWF S) {Rg : Nat → Prop} (hR : xRC S Rg) : ∀ (n : Nat) {v0 : Nat} {v2 : Int32} {v3 : Int32} {D : xDt} {r : Int32 × xDt}, xK S v0 1 → Rg v0 → f_X1_add_79 F P S n v0 v2 v3 D = some r → xfr Rg D r.2 := by
  intro n
  induction n with
  | zero => intros; rename_i h; cases h
  | succ n ih =>
    intro v0 v2 v3 D r k0 r0 h
    exact u_X1_add_79s hS hR (fun k0 r0 h => ih k0 r0 h) k0 r0 h

theorem u_X1_add_48s {F P : Nat} {S : xSt} (hS : xWF S) {Rg : Nat → Prop} (hR : xRC S Rg) {rec_48 : Nat → Int32 → Int32 → xDt → Option (Int32 × xDt)} (hrec_48 : ∀ {v0 : Nat} {v2 : Int32} {v3 : Int32} {D : xDt} {r : Int32 × xDt}, xK S v0 1 → Rg v0 → rec_48 v0 v2 v3 D = some r → xfr Rg D r.2) {v0 : Nat} {v2 : Int32} {v3 : Int32} {D : xDt} {r : Int32 × xDt} (k0 : xK S v0 1) (r0 : Rg v0) (h : f_X1_add_48s F P S rec_48 v0 v2 v3 D = some r) : xfr Rg D r.2 := by
  unfold f_X1_add_48s at h
  refine xif_p h (fun c h => ?_) (fun c h => ?_)
  · skip
    exact u_X1_add_79 hS hR F k0 r0 h
  · skip
    refine xgrd_e h (fun g1 h => ?_)
    refine xlet_e h (fun D2 eD2 h => ?_)
    refine xfr_i (hR.2 ((hS.f k0 1 202 rfl).2) (hR.1 k0 r0 1 202 rfl) (by decide) (xin_lt g1)) eD2 ?_
    refine xlet_e h (fun v3_3 ev3_3 h => ?_)
    exact hrec_48 k0 r0 h
theorem u_X1_add_48 {F P : Nat} {S : xSt} (hS : xWF S) {Rg : Nat → Prop} (hR : xRC S Rg) : ∀ (n : Nat) {v0 : Nat} {v2 : Int32} {v3 : Int32} {D : xDt} {r : Int32 × xDt}, xK S v0 1 → Rg v0 → f_X1_add_48 F P S n v0 v2 v3 D = some r → xfr Rg D r.2 := by
  intro n
  induction n with
  | zero => intros; rename_i h; cases h
  | succ n ih =>
    intro v0 v2 v3 D r k0 r0 h
    exact u_X1_add_48s hS hR (fun k0 r0 h => ih k0 r0 h) k0 r0 h

theorem U_X1_add {F P : Nat} {S : xSt} (hS : xWF S) {Rg : Nat → Prop} (hR : xRC S Rg) {v0 : Nat} {v1 : Nat} {D : xDt} {r : Int32 × xDt} (k0 : xK S v0 1) (k1 : xK S v1 2) (r0 : Rg v0) (h : f_X1_add F P S v0 v1 D = some r) : xfr Rg D r.2 := by
  unfold f_X1_add at h
  refine xif_p h (fun c h => ?_) (fun c h => ?_)
  · skip
    obtain rfl := Option.some.inj h
    exact xfr_rf
  · skip
    refine xif_p h (fun c h => ?_) (fun c h => ?_)
    · skip
      refine xlet_e h (fun D1 eD1 h => ?_)
      refine xfr_i r0 eD1 ?_
      refine xlet_e h (fun v2_2 ev2_2 h => ?_)
      refine xgrd_e h (fun g3 h => ?_)
      refine xbnd_e h (fun q4 e4 h => ?_)
      refine xfr_tr (U_X2_copy hS hR ((hS.e ((hS.f k0 1 202 rfl).2) (by decide) (xin_lt g3)).2) k1 (hR.2 ((hS.f k0 1 202 rfl).2) (hR.1 k0 r0 1 202 rfl) (by decide) (xin_lt g3)) e4) ?_
      exact u_X1_add_48 hS hR F k0 r0 h
    · skip
      obtain rfl := Option.some.inj h
      exact xfr_rf

theorem U_X1_setChange {F P : Nat} {S : xSt} (hS : xWF S) {Rg : Nat → Prop} (hR : xRC S Rg) {v0 : Nat} {v1 : Int32} {v2 : Int32} {v3 : Nat} {D : xDt} {r : xDt} (k0 : xK S v0 1) (k3 : xK S v3 2) (r0 : Rg v0) (h : f_X1_setChange F P S v0 v1 v2 v3 D = some r) : xfr Rg D r := by
  unfold f_X1_setChange at h
  refine xgrd_e h (fun g1 h => ?_)
  refine xbnd_e h (fun q2 e2 h => ?_)
  refine xfr_tr (U_X2_copy hS hR ((hS.e ((hS.f k0 1 202 rfl).2) (by decide) (xin_lt g1)).2) k3 (hR.2 ((hS.f k0 1 202 rfl).2) (hR.1 k0 r0 1 202 rfl) (by decide) (xin_lt g1)) e2) ?_
  obtain rfl := Option.some.inj h
  exact xfr_rf

theorem U_J6_bitCount_0f7a4 {F P : Nat} {S : xSt} (hS : xWF S) {Rg : Nat → Prop} (hR : xRC S Rg) {v0 : Int32} {D : xDt} {r : Int32 × xDt} (h : f_J6_bitCount_0f7a4 F P S v0 D = some r) : xfr Rg D r.2 := by
  unfold f_J6_bitCount_0f7a4 at h
  refine xlet_e h (fun v0_1 ev0_1 h => ?_)
  refine xlet_e h (fun v0_2 ev0_2 h => ?_)
  refine xlet_e h (fun v0_3 ev0_3 h => ?_)
  refine xlet_e h (fun v0_4 ev0_4 h => ?_)
  refine xlet_e h (fun v0_5 ev0_5 h => ?_)
  obtain rfl := Option.some.inj h
  exact xfr_rf

theorem u_X1_merge_61 {F P : Nat} {S : xSt} (hS : xWF S) {Rg : Nat → Prop} (hR : xRC S Rg) {rec_30 : Nat → Int32 → Int32 → Int32 → xDt → Option (Int32 × xDt)} (hrec_30 : ∀ {v0 : Nat} {v4 : Int32} {v5 : Int32} {v6 : Int32} {D : xDt} {r : Int32 × xDt}, xK S v0 1 → Rg v0 → rec_30 v0 v4 v5 v6 D = some r → xfr Rg D r.2) {v0 : Nat} {v4 : Int32} {v5 : Int32} {v6 : Int32} {D : xDt} {r : Int32 × xDt} (k0 : xK S v0 1) (r0 : Rg v0) (h : f_X1_merge_61 F P S rec_30 v0 v4 v5 v6 D = some r) : xfr Rg D r.2 := by
  unfold f_X1_merge_61 at h
  refine xlet_e h (fun v6_1 ev6_1 h => ?_)
  exact hrec_30 k0 r0 h

theorem u_X1_merge_30s {F P : Nat} {S : xSt} (hS : xWF S) {Rg : Nat → Prop} (hR : xRC S Rg) {rec_30 : Nat → Int32 → Int32 → Int32 → xDt → Option (Int32 × xDt)} (hrec_30 : ∀ {v0 : Nat} {v4 : Int32} {v5 : Int32} {v6 : Int32} {D : xDt} {r : Int32 × xDt}, xK S v0 1 → Rg v0 → rec_30 v0 v4 v5 v6 D = some r → xfr Rg D r.2) {v0 : Nat} {v4 : Int32} {v5 : Int32} {v6 : Int32} {D : xDt} {r : Int32 × xDt} (k0 : xK S v0 1) (r0 : Rg v0) (h : f_X1_merge_30s F P S rec_30 v0 v4 v5 v6 D = some r) : xfr Rg D r.2 := by
  unfold f_X1_merge_30s at h
  refine xif_p h (fun c h => ?_) (fun c h => ?_)
  · skip
    refine xbnd_e h (fun q1 e1 h => ?_)
    refine xfr_tr (U_J6_bitCount_0f7a4 hS hR e1) ?_
    obtain rfl := Option.some.inj h
    exact xfr_rf
  · skip
    refine xif_p h (fun c h => ?_) (fun c h => ?_)
    · skip
      exact u_X1_merge_61 hS hR hrec_30 k0 r0 h
    · skip
      refine xgrd_e h (fun g2 h => ?_)
      refine xlet_e h (fun D3 eD3 h => ?_)
      refine xfr_i (hR.1 k0 r0 2 100 rfl) eD3 ?_
      exact u_X1_merge_61 hS hR hrec_30 k0 r0 h
theorem u_X1_merge_30 {F P : Nat} {S : xSt} (hS : xWF S) {Rg : Nat → Prop} (hR : xRC S Rg) : ∀ (n : Nat) {v0 : Nat} {v4 : Int32} {v5 : Int32} {v6 : Int32} {D : xDt} {r : Int32 × xDt}, xK S v0 1 → Rg v0 → f_X1_merge_30 F P S n v0 v4 v5 v6 D = some r → xfr Rg D r.2 := by
  intro n
  induction n with
  | zero => intros; rename_i h; cases h
  | succ n ih =>
    intro v0 v4 v5 v6 D r k0 r0 h
    exact u_X1_merge_30s hS hR (fun k0 r0 h => ih k0 r0 h) k0 r0 h

theorem U_X1_merge {F P : Nat} {S : xSt} (hS : xWF S) {Rg : Nat → Prop} (hR : xRC S Rg) {v0 : Nat} {v1 : Int32} {v2 : Int32} {v3 : Int32} {D : xDt} {r : Int32 × xDt} (k0 : xK S v0 1) (r0 : Rg v0) (h : f_X1_merge F P S v0 v1 v2 v3 D = some r) : xfr Rg D r.2 := by
  unfold f_X1_merge at h
  refine xlet_e h (fun v4_1 ev4_1 h => ?_)
  refine xgrd_e h (fun g2 h => ?_)
  refine xgrd_e h (fun g3 h => ?_)
  refine xlet_e h (fun v5_4 ev5_4 h => ?_)
  exact u_X1_merge_30 hS hR F k0 r0 h

theorem U_X10_all {F P : Nat} {S : xSt} (hS : xWF S) {Rg : Nat → Prop} (hR : xRC S Rg) {v0 : Nat} {D : xDt} {r : Int64 × xDt} (k0 : xK S v0 10) (h : f_X10_all F P S v0 D = some r) : xfr Rg D r.2 := by
  unfold f_X10_all at h
  refine xif_p h (fun c h => ?_) (fun c h => ?_)
  · skip
    obtain rfl := Option.some.inj h
    exact xfr_rf
  · skip
    obtain rfl := Option.some.inj h
    exact xfr_rf

theorem U_X3_leaf {F P : Nat} {S : xSt} (hS : xWF S) {Rg : Nat → Prop} (hR : xRC S Rg) {v0 : Nat} {v1 : Int32} {v2 : Nat} {D : xDt} {r : Int64 × xDt} (k0 : xK S v0 3) (k2 : xK S v2 10) (h : f_X3_leaf F P S v0 v1 v2 D = some r) : xfr Rg D r.2 := by
  unfold f_X3_leaf at h
  refine xif_n h (fun c h => ?_) (fun c h => ?_)
  · skip
    refine xif_n h (fun c h => ?_) (fun c h => ?_)
    · skip
      refine xgrd_e h (fun g1 h => ?_)
      obtain rfl := Option.some.inj h
      exact xfr_rf
    · skip
      obtain rfl := Option.some.inj h
      exact xfr_rf
  · skip
    obtain rfl := Option.some.inj h
    exact xfr_rf

theorem u_X11_isSaying_12 {F P : Nat} {S : xSt} (hS : xWF S) {Rg : Nat → Prop} (hR : xRC S Rg) {D : xDt} {r : Int32 × xDt} (h : f_X11_isSaying_12 F P S D = some r) : xfr Rg D r.2 := by
  unfold f_X11_isSaying_12 at h
  obtain rfl := Option.some.inj h
  exact xfr_rf

theorem U_X11_isSaying {F P : Nat} {S : xSt} (hS : xWF S) {Rg : Nat → Prop} (hR : xRC S Rg) {v0 : Int32} {D : xDt} {r : Int32 × xDt} (h : f_X11_isSaying F P S v0 D = some r) : xfr Rg D r.2 := by
  unfold f_X11_isSaying at h
  refine xif_p h (fun c h => ?_) (fun c h => ?_)
  · skip
    exact u_X11_isSaying_12 hS hR h
  · skip
    refine xif_n h (fun c h => ?_) (fun c h => ?_)
    · skip
      obtain rfl := Option.some.inj h
      exact xfr_rf
    · skip
      exact u_X11_isSaying_12 hS hR h

theorem u_X11_hasTwoParts_14 {F P : Nat} {S : xSt} (hS : xWF S) {Rg : Nat → Prop} (hR : xRC S Rg) {D : xDt} {r : Int32 × xDt} (h : f_X11_hasTwoParts_14 F P S D = some r) : xfr Rg D r.2 := by
  unfold f_X11_hasTwoParts_14 at h
  obtain rfl := Option.some.inj h
  exact xfr_rf

theorem U_X11_hasTwoParts {F P : Nat} {S : xSt} (hS : xWF S) {Rg : Nat → Prop} (hR : xRC S Rg) {v0 : Int32} {D : xDt} {r : Int32 × xDt} (h : f_X11_hasTwoParts F P S v0 D = some r) : xfr Rg D r.2 := by
  unfold f_X11_hasTwoParts at h
  refine xbnd_e h (fun q1 e1 h => ?_)
  refine xfr_tr (U_X11_isJoin hS hR e1) ?_
  refine xif_n h (fun c h => ?_) (fun c h => ?_)
  · skip
    exact u_X11_hasTwoParts_14 hS hR h
  · skip
    refine xbnd_e h (fun q2 e2 h => ?_)
    refine xfr_tr (U_X11_isSaying hS hR e2) ?_
    refine xif_p h (fun c h => ?_) (fun c h => ?_)
    · skip
      obtain rfl := Option.some.inj h
      exact xfr_rf
    · skip
      exact u_X11_hasTwoParts_14 hS hR h

theorem U_X3_joined {F P : Nat} {S : xSt} (hS : xWF S) {Rg : Nat → Prop} (hR : xRC S Rg) {v0 : Nat} {v1 : Int32} {v2 : Int64} {v4 : Int64} {D : xDt} {r : Int64 × xDt} (k0 : xK S v0 3) (h : f_X3_joined F P S v0 v1 v2 v4 D = some r) : xfr Rg D r.2 := by
  unfold f_X3_joined at h
  by_cases c0 : v1 = 38
  · rw [if_pos c0] at h
    obtain rfl := Option.some.inj h
    exact xfr_rf
  · rw [if_neg c0] at h
    by_cases c1 : v1 = 61
    · rw [if_pos c1] at h
      obtain rfl := Option.some.inj h
      exact xfr_rf
    · rw [if_neg c1] at h
      by_cases c2 : v1 = 123
      · rw [if_pos c2] at h
        obtain rfl := Option.some.inj h
        exact xfr_rf
      · rw [if_neg c2] at h
        by_cases c3 : v1 = 124
        · rw [if_pos c3] at h
          obtain rfl := Option.some.inj h
          exact xfr_rf
        · rw [if_neg c3] at h
          obtain rfl := Option.some.inj h
          exact xfr_rf

theorem u_X10_near_50 {F P : Nat} {S : xSt} (hS : xWF S) {Rg : Nat → Prop} (hR : xRC S Rg) {rec_6 : Nat → Int32 → Int64 → Int64 → Int32 → xDt → Option (Int64 × xDt)} (hrec_6 : ∀ {v0 : Nat} {v1 : Int32} {v2 : Int64} {v4 : Int64} {v6 : Int32} {D : xDt} {r : Int64 × xDt}, xK S v0 10 → rec_6 v0 v1 v2 v4 v6 D = some r → xfr Rg D r.2) {v0 : Nat} {v1 : Int32} {v2 : Int64} {v4 : Int64} {v6 : Int32} {D : xDt} {r : Int64 × xDt} (k0 : xK S v0 10) (h : f_X10_near_50 F P S rec_6 v0 v1 v2 v4 v6 D = some r) : xfr Rg D r.2 := by
  unfold f_X10_near_50 at h
  refine xlet_e h (fun v6_1 ev6_1 h => ?_)
  exact hrec_6 k0 h

theorem u_X10_near_6s {F P : Nat} {S : xSt} (hS : xWF S) {Rg : Nat → Prop} (hR : xRC S Rg) {rec_6 : Nat → Int32 → Int64 → Int64 → Int32 → xDt → Option (Int64 × xDt)} (hrec_6 : ∀ {v0 : Nat} {v1 : Int32} {v2 : Int64} {v4 : Int64} {v6 : Int32} {D : xDt} {r : Int64 × xDt}, xK S v0 10 → rec_6 v0 v1 v2 v4 v6 D = some r → xfr Rg D r.2) {v0 : Nat} {v1 : Int32} {v2 : Int64} {v4 : Int64} {v6 : Int32} {D : xDt} {r : Int64 × xDt} (k0 : xK S v0 10) (h : f_X10_near_6s F P S rec_6 v0 v1 v2 v4 v6 D = some r) : xfr Rg D r.2 := by
  unfold f_X10_near_6s at h
  refine xif_p h (fun c h => ?_) (fun c h => ?_)
  · skip
    obtain rfl := Option.some.inj h
    exact xfr_rf
  · skip
    refine xif_p h (fun c h => ?_) (fun c h => ?_)
    · skip
      exact u_X10_near_50 hS hR hrec_6 k0 h
    · skip
      refine xgrd_e h (fun g1 h => ?_)
      refine xlet_e h (fun v4_2 ev4_2 h => ?_)
      exact u_X10_near_50 hS hR hrec_6 k0 h
theorem u_X10_near_6 {F P : Nat} {S : xSt} (hS : xWF S) {Rg : Nat → Prop} (hR : xRC S Rg) : ∀ (n : Nat) {v0 : Nat} {v1 : Int32} {v2 : Int64} {v4 : Int64} {v6 : Int32} {D : xDt} {r : Int64 × xDt}, xK S v0 10 → f_X10_near_6 F P S n v0 v1 v2 v4 v6 D = some r → xfr Rg D r.2 := by
  intro n
  induction n with
  | zero => intros; rename_i h; cases h
  | succ n ih =>
    intro v0 v1 v2 v4 v6 D r k0 h
    exact u_X10_near_6s hS hR (fun k0 h => ih k0 h) k0 h

theorem U_X10_near {F P : Nat} {S : xSt} (hS : xWF S) {Rg : Nat → Prop} (hR : xRC S Rg) {v0 : Nat} {v1 : Int32} {v2 : Int64} {D : xDt} {r : Int64 × xDt} (k0 : xK S v0 10) (h : f_X10_near F P S v0 v1 v2 D = some r) : xfr Rg D r.2 := by
  unfold f_X10_near at h
  exact u_X10_near_6 hS hR F k0 h

theorem u_X3_known_43 {F P : Nat} {S : xSt} (hS : xWF S) {Rg : Nat → Prop} (hR : xRC S Rg) {rec_6 : Nat → Int32 → Int64 → Nat → Int64 → Int32 → xDt → Option (Int64 × xDt)} (hrec_6 : ∀ {v0 : Nat} {v1 : Int32} {v2 : Int64} {v4 : Nat} {v5 : Int64} {v7 : Int32} {D : xDt} {r : Int64 × xDt}, xK S v0 3 → xK S v4 10 → rec_6 v0 v1 v2 v4 v5 v7 D = some r → xfr Rg D r.2) {v0 : Nat} {v1 : Int32} {v2 : Int64} {v4 : Nat} {v5 : Int64} {v7 : Int32} {D : xDt} {r : Int64 × xDt} (k0 : xK S v0 3) (k4 : xK S v4 10) (h : f_X3_known_43 F P S rec_6 v0 v1 v2 v4 v5 v7 D = some r) : xfr Rg D r.2 := by
  unfold f_X3_known_43 at h
  refine xlet_e h (fun v7_1 ev7_1 h => ?_)
  exact hrec_6 k0 k4 h

theorem u_X3_known_6s {F P : Nat} {S : xSt} (hS : xWF S) {Rg : Nat → Prop} (hR : xRC S Rg) {rec_6 : Nat → Int32 → Int64 → Nat → Int64 → Int32 → xDt → Option (Int64 × xDt)} (hrec_6 : ∀ {v0 : Nat} {v1 : Int32} {v2 : Int64} {v4 : Nat} {v5 : Int64} {v7 : Int32} {D : xDt} {r : Int64 × xDt}, xK S v0 3 → xK S v4 10 → rec_6 v0 v1 v2 v4 v5 v7 D = some r → xfr Rg D r.2) {v0 : Nat} {v1 : Int32} {v2 : Int64} {v4 : Nat} {v5 : Int64} {v7 : Int32} {D : xDt} {r : Int64 × xDt} (k0 : xK S v0 3) (k4 : xK S v4 10) (h : f_X3_known_6s F P S rec_6 v0 v1 v2 v4 v5 v7 D = some r) : xfr Rg D r.2 := by
  unfold f_X3_known_6s at h
  refine xif_p h (fun c h => ?_) (fun c h => ?_)
  · skip
    obtain rfl := Option.some.inj h
    exact xfr_rf
  · skip
    refine xbnd_e h (fun q1 e1 h => ?_)
    refine xfr_tr (U_X11_hasAgent hS hR e1) ?_
    refine xif_p h (fun c h => ?_) (fun c h => ?_)
    · skip
      exact u_X3_known_43 hS hR hrec_6 k0 k4 h
    · skip
      refine xbnd_e h (fun q2 e2 h => ?_)
      refine xfr_tr (U_X10_near hS hR k4 e2) ?_
      refine xlet_e h (fun v5_3 ev5_3 h => ?_)
      exact u_X3_known_43 hS hR hrec_6 k0 k4 h
theorem u_X3_known_6 {F P : Nat} {S : xSt} (hS : xWF S) {Rg : Nat → Prop} (hR : xRC S Rg) : ∀ (n : Nat) {v0 : Nat} {v1 : Int32} {v2 : Int64} {v4 : Nat} {v5 : Int64} {v7 : Int32} {D : xDt} {r : Int64 × xDt}, xK S v0 3 → xK S v4 10 → f_X3_known_6 F P S n v0 v1 v2 v4 v5 v7 D = some r → xfr Rg D r.2 := by
  intro n
  induction n with
  | zero => intros; rename_i h; cases h
  | succ n ih =>
    intro v0 v1 v2 v4 v5 v7 D r k0 k4 h
    exact u_X3_known_6s hS hR (fun k0 k4 h => ih k0 k4 h) k0 k4 h

theorem U_X3_known {F P : Nat} {S : xSt} (hS : xWF S) {Rg : Nat → Prop} (hR : xRC S Rg) {v0 : Nat} {v1 : Int32} {v2 : Int64} {v4 : Nat} {D : xDt} {r : Int64 × xDt} (k0 : xK S v0 3) (k4 : xK S v4 10) (h : f_X3_known F P S v0 v1 v2 v4 D = some r) : xfr Rg D r.2 := by
  unfold f_X3_known at h
  exact u_X3_known_6 hS hR F k0 k4 h

theorem u_X3_common_63 {F P : Nat} {S : xSt} (hS : xWF S) {Rg : Nat → Prop} (hR : xRC S Rg) {rec_15 : Nat → Int32 → Nat → Int64 → Int32 → xDt → Option (Int64 × xDt)} (hrec_15 : ∀ {v0 : Nat} {v1 : Int32} {v4 : Nat} {v5 : Int64} {v7 : Int32} {D : xDt} {r : Int64 × xDt}, xK S v0 3 → xK S v4 10 → rec_15 v0 v1 v4 v5 v7 D = some r → xfr Rg D r.2) {rec_29 : Nat → Int32 → Nat → Int64 → Int32 → Int64 → Int32 → xDt → Option (Int64 × xDt)} (hrec_29 : ∀ {v0 : Nat} {v1 : Int32} {v4 : Nat} {v5 : Int64} {v7 : Int32} {v8 : Int64} {v10 : Int32} {D : xDt} {r : Int64 × xDt}, xK S v0 3 → xK S v4 10 → rec_29 v0 v1 v4 v5 v7 v8 v10 D = some r → xfr Rg D r.2) {v0 : Nat} {v1 : Int32} {v4 : Nat} {v5 : Int64} {v7 : Int32} {v8 : Int64} {v10 : Int32} {D : xDt} {r : Int64 × xDt} (k0 : xK S v0 3) (k4 : xK S v4 10) (h : f_X3_common_63 F P S rec_15 rec_29 v0 v1 v4 v5 v7 v8 v10 D = some r) : xfr Rg D r.2 := by
  unfold f_X3_common_63 at h
  refine xlet_e h (fun v10_1 ev10_1 h => ?_)
  exact hrec_29 k0 k4 h

theorem u_X3_common_90 {F P : Nat} {S : xSt} (hS : xWF S) {Rg : Nat → Prop} (hR : xRC S Rg) {v0 : Nat} {v5 : Int64} {D : xDt} {r : Int64 × xDt} (k0 : xK S v0 3) (h : f_X3_common_90 F P S v0 v5 D = some r) : xfr Rg D r.2 := by
  unfold f_X3_common_90 at h
  obtain rfl := Option.some.inj h
  exact xfr_rf

theorem u_X3_common_29s {F P : Nat} {S : xSt} (hS : xWF S) {Rg : Nat → Prop} (hR : xRC S Rg) {rec_15 : Nat → Int32 → Nat → Int64 → Int32 → xDt → Option (Int64 × xDt)} (hrec_15 : ∀ {v0 : Nat} {v1 : Int32} {v4 : Nat} {v5 : Int64} {v7 : Int32} {D : xDt} {r : Int64 × xDt}, xK S v0 3 → xK S v4 10 → rec_15 v0 v1 v4 v5 v7 D = some r → xfr Rg D r.2) {rec_29 : Nat → Int32 → Nat → Int64 → Int32 → Int64 → Int32 → xDt → Option (Int64 × xDt)} (hrec_29 : ∀ {v0 : Nat} {v1 : Int32} {v4 : Nat} {v5 : Int64} {v7 : Int32} {v8 : Int64} {v10 : Int32} {D : xDt} {r : Int64 × xDt}, xK S v0 3 → xK S v4 10 → rec_29 v0 v1 v4 v5 v7 v8 v10 D = some r → xfr Rg D r.2) {v0 : Nat} {v1 : Int32} {v4 : Nat} {v5 : Int64} {v7 : Int32} {v8 : Int64} {v10 : Int32} {D : xDt} {r : Int64 × xDt} (k0 : xK S v0 3) (k4 : xK S v4 10) (h : f_X3_common_29s F P S rec_15 rec_29 v0 v1 v4 v5 v7 v8 v10 D = some r) : xfr Rg D r.2 := by
  unfold f_X3_common_29s at h
  refine xif_p h (fun c h => ?_) (fun c h => ?_)
  · skip
    refine xif_n h (fun c h => ?_) (fun c h => ?_)
    · skip
      refine xlet_e h (fun v7_1 ev7_1 h => ?_)
      exact hrec_15 k0 k4 h
    · skip
      exact u_X3_common_90 hS hR k0 h
  · skip
    refine xbnd_e h (fun q2 e2 h => ?_)
    refine xfr_tr (U_X11_hasAgent hS hR e2) ?_
    refine xif_p h (fun c h => ?_) (fun c h => ?_)
    · skip
      exact u_X3_common_63 hS hR hrec_15 hrec_29 k0 k4 h
    · skip
      refine xbnd_e h (fun q3 e3 h => ?_)
      refine xfr_tr (U_X10_near hS hR k4 e3) ?_
      refine xlet_e h (fun v8_4 ev8_4 h => ?_)
      exact u_X3_common_63 hS hR hrec_15 hrec_29 k0 k4 h
theorem u_X3_common_29 {F P : Nat} {S : xSt} (hS : xWF S) {Rg : Nat → Prop} (hR : xRC S Rg) {rec_15 : Nat → Int32 → Nat → Int64 → Int32 → xDt → Option (Int64 × xDt)} (hrec_15 : ∀ {v0 : Nat} {v1 : Int32} {v4 : Nat} {v5 : Int64} {v7 : Int32} {D : xDt} {r : Int64 × xDt}, xK S v0 3 → xK S v4 10 → rec_15 v0 v1 v4 v5 v7 D = some r → xfr Rg D r.2) : ∀ (n : Nat) {v0 : Nat} {v1 : Int32} {v4 : Nat} {v5 : Int64} {v7 : Int32} {v8 : Int64} {v10 : Int32} {D : xDt} {r : Int64 × xDt}, xK S v0 3 → xK S v4 10 → f_X3_common_29 F P S rec_15 n v0 v1 v4 v5 v7 v8 v10 D = some r → xfr Rg D r.2 := by
  intro n
  induction n with
  | zero => intros; rename_i h; cases h
  | succ n ih =>
    intro v0 v1 v4 v5 v7 v8 v10 D r k0 k4 h
    exact u_X3_common_29s hS hR hrec_15 (fun k0 k4 h => ih k0 k4 h) k0 k4 h

theorem u_X3_common_15s {F P : Nat} {S : xSt} (hS : xWF S) {Rg : Nat → Prop} (hR : xRC S Rg) {rec_15 : Nat → Int32 → Nat → Int64 → Int32 → xDt → Option (Int64 × xDt)} (hrec_15 : ∀ {v0 : Nat} {v1 : Int32} {v4 : Nat} {v5 : Int64} {v7 : Int32} {D : xDt} {r : Int64 × xDt}, xK S v0 3 → xK S v4 10 → rec_15 v0 v1 v4 v5 v7 D = some r → xfr Rg D r.2) {v0 : Nat} {v1 : Int32} {v4 : Nat} {v5 : Int64} {v7 : Int32} {D : xDt} {r : Int64 × xDt} (k0 : xK S v0 3) (k4 : xK S v4 10) (h : f_X3_common_15s F P S rec_15 v0 v1 v4 v5 v7 D = some r) : xfr Rg D r.2 := by
  unfold f_X3_common_15s at h
  refine xif_p h (fun c h => ?_) (fun c h => ?_)
  · skip
    exact u_X3_common_90 hS hR k0 h
  · skip
    exact u_X3_common_29 hS hR hrec_15 F k0 k4 h
theorem u_X3_common_15 {F P : Nat} {S : xSt} (hS : xWF S) {Rg : Nat → Prop} (hR : xRC S Rg) : ∀ (n : Nat) {v0 : Nat} {v1 : Int32} {v4 : Nat} {v5 : Int64} {v7 : Int32} {D : xDt} {r : Int64 × xDt}, xK S v0 3 → xK S v4 10 → f_X3_common_15 F P S n v0 v1 v4 v5 v7 D = some r → xfr Rg D r.2 := by
  intro n
  induction n with
  | zero => intros; rename_i h; cases h
  | succ n ih =>
    intro v0 v1 v4 v5 v7 D r k0 k4 h
    exact u_X3_common_15s hS hR (fun k0 k4 h => ih k0 k4 h) k0 k4 h

theorem U_X3_common {F P : Nat} {S : xSt} (hS : xWF S) {Rg : Nat → Prop} (hR : xRC S Rg) {v0 : Nat} {v1 : Int32} {v2 : Int64} {v4 : Nat} {D : xDt} {r : Int64 × xDt} (k0 : xK S v0 3) (k4 : xK S v4 10) (h : f_X3_common F P S v0 v1 v2 v4 D = some r) : xfr Rg D r.2 := by
  unfold f_X3_common at h
  refine xlet_e h (fun v5_1 ev5_1 h => ?_)
  exact u_X3_common_15 hS hR F k0 k4 h

theorem U_X10_cell {F P : Nat} {S : xSt} (hS : xWF S) {Rg : Nat → Prop} (hR : xRC S Rg) {v0 : Nat} {v1 : Int32} {v2 : Int32} {D : xDt} {r : Int64 × xDt} (k0 : xK S v0 10) (h : f_X10_cell F P S v0 v1 v2 D = some r) : xfr Rg D r.2 := by
  unfold f_X10_cell at h
  refine xgrd_e h (fun g1 h => ?_)
  obtain rfl := Option.some.inj h
  exact xfr_rf

theorem u_X3_pooled_60 {F P : Nat} {S : xSt} (hS : xWF S) {Rg : Nat → Prop} (hR : xRC S Rg) {rec_6 : Nat → Int32 → Int64 → Nat → Int64 → Int32 → xDt → Option (Int64 × xDt)} (hrec_6 : ∀ {v0 : Nat} {v1 : Int32} {v2 : Int64} {v4 : Nat} {v5 : Int64} {v7 : Int32} {D : xDt} {r : Int64 × xDt}, xK S v0 3 → xK S v4 10 → rec_6 v0 v1 v2 v4 v5 v7 D = some r → xfr Rg D r.2) {rec_31 : Nat → Int32 → Int64 → Nat → Int64 → Int32 → Int64 → Int32 → xDt → Option (Int64 × xDt)} (hrec_31 : ∀ {v0 : Nat} {v1 : Int32} {v2 : Int64} {v4 : Nat} {v5 : Int64} {v7 : Int32} {v8 : Int64} {v10 : Int32} {D : xDt} {r : Int64 × xDt}, xK S v0 3 → xK S v4 10 → rec_31 v0 v1 v2 v4 v5 v7 v8 v10 D = some r → xfr Rg D r.2) {v0 : Nat} {v1 : Int32} {v2 : Int64} {v4 : Nat} {v5 : Int64} {v7 : Int32} {v8 : Int64} {v10 : Int32} {D : xDt} {r : Int64 × xDt} (k0 : xK S v0 3) (k4 : xK S v4 10) (h : f_X3_pooled_60 F P S rec_6 rec_31 v0 v1 v2 v4 v5 v7 v8 v10 D = some r) : xfr Rg D r.2 := by
  unfold f_X3_pooled_60 at h
  refine xlet_e h (fun v10_1 ev10_1 h => ?_)
  exact hrec_31 k0 k4 h

theorem u_X3_pooled_83 {F P : Nat} {S : xSt} (hS : xWF S) {Rg : Nat → Prop} (hR : xRC S Rg) {rec_6 : Nat → Int32 → Int64 → Nat → Int64 → Int32 → xDt → Option (Int64 × xDt)} (hrec_6 : ∀ {v0 : Nat} {v1 : Int32} {v2 : Int64} {v4 : Nat} {v5 : Int64} {v7 : Int32} {D : xDt} {r : Int64 × xDt}, xK S v0 3 → xK S v4 10 → rec_6 v0 v1 v2 v4 v5 v7 D = some r → xfr Rg D r.2) {v0 : Nat} {v1 : Int32} {v2 : Int64} {v4 : Nat} {v7 : Int32} {s0 : Int64} {s1 : Int64} {D : xDt} {r : Int64 × xDt} (k0 : xK S v0 3) (k4 : xK S v4 10) (h : f_X3_pooled_83 F P S rec_6 v0 v1 v2 v4 v7 s0 s1 D = some r) : xfr Rg D r.2 := by
  unfold f_X3_pooled_83 at h
  refine xlet_e h (fun v5_1 ev5_1 h => ?_)
  refine xlet_e h (fun v7_2 ev7_2 h => ?_)
  exact hrec_6 k0 k4 h

theorem u_X3_pooled_31s {F P : Nat} {S : xSt} (hS : xWF S) {Rg : Nat → Prop} (hR : xRC S Rg) {rec_6 : Nat → Int32 → Int64 → Nat → Int64 → Int32 → xDt → Option (Int64 × xDt)} (hrec_6 : ∀ {v0 : Nat} {v1 : Int32} {v2 : Int64} {v4 : Nat} {v5 : Int64} {v7 : Int32} {D : xDt} {r : Int64 × xDt}, xK S v0 3 → xK S v4 10 → rec_6 v0 v1 v2 v4 v5 v7 D = some r → xfr Rg D r.2) {rec_31 : Nat → Int32 → Int64 → Nat → Int64 → Int32 → Int64 → Int32 → xDt → Option (Int64 × xDt)} (hrec_31 : ∀ {v0 : Nat} {v1 : Int32} {v2 : Int64} {v4 : Nat} {v5 : Int64} {v7 : Int32} {v8 : Int64} {v10 : Int32} {D : xDt} {r : Int64 × xDt}, xK S v0 3 → xK S v4 10 → rec_31 v0 v1 v2 v4 v5 v7 v8 v10 D = some r → xfr Rg D r.2) {v0 : Nat} {v1 : Int32} {v2 : Int64} {v4 : Nat} {v5 : Int64} {v7 : Int32} {v8 : Int64} {v10 : Int32} {D : xDt} {r : Int64 × xDt} (k0 : xK S v0 3) (k4 : xK S v4 10) (h : f_X3_pooled_31s F P S rec_6 rec_31 v0 v1 v2 v4 v5 v7 v8 v10 D = some r) : xfr Rg D r.2 := by
  unfold f_X3_pooled_31s at h
  refine xif_p h (fun c h => ?_) (fun c h => ?_)
  · skip
    refine xif_n h (fun c h => ?_) (fun c h => ?_)
    · skip
      exact u_X3_pooled_83 hS hR hrec_6 k0 k4 h
    · skip
      exact u_X3_pooled_83 hS hR hrec_6 k0 k4 h
  · skip
    refine xbnd_e h (fun q1 e1 h => ?_)
    refine xfr_tr (U_X11_hasAgent hS hR e1) ?_
    refine xif_p h (fun c h => ?_) (fun c h => ?_)
    · skip
      exact u_X3_pooled_60 hS hR hrec_6 hrec_31 k0 k4 h
    · skip
      refine xbnd_e h (fun q2 e2 h => ?_)
      refine xfr_tr (U_X10_cell hS hR k4 e2) ?_
      refine xlet_e h (fun v8_3 ev8_3 h => ?_)
      exact u_X3_pooled_60 hS hR hrec_6 hrec_31 k0 k4 h
theorem u_X3_pooled_31 {F P : Nat} {S : xSt} (hS : xWF S) {Rg : Nat → Prop} (hR : xRC S Rg) {rec_6 : Nat → Int32 → Int64 → Nat → Int64 → Int32 → xDt → Option (Int64 × xDt)} (hrec_6 : ∀ {v0 : Nat} {v1 : Int32} {v2 : Int64} {v4 : Nat} {v5 : Int64} {v7 : Int32} {D : xDt} {r : Int64 × xDt}, xK S v0 3 → xK S v4 10 → rec_6 v0 v1 v2 v4 v5 v7 D = some r → xfr Rg D r.2) : ∀ (n : Nat) {v0 : Nat} {v1 : Int32} {v2 : Int64} {v4 : Nat} {v5 : Int64} {v7 : Int32} {v8 : Int64} {v10 : Int32} {D : xDt} {r : Int64 × xDt}, xK S v0 3 → xK S v4 10 → f_X3_pooled_31 F P S rec_6 n v0 v1 v2 v4 v5 v7 v8 v10 D = some r → xfr Rg D r.2 := by
  intro n
  induction n with
  | zero => intros; rename_i h; cases h
  | succ n ih =>
    intro v0 v1 v2 v4 v5 v7 v8 v10 D r k0 k4 h
    exact u_X3_pooled_31s hS hR hrec_6 (fun k0 k4 h => ih k0 k4 h) k0 k4 h

theorem u_X3_pooled_6s {F P : Nat} {S : xSt} (hS : xWF S) {Rg : Nat → Prop} (hR : xRC S Rg) {rec_6 : Nat → Int32 → Int64 → Nat → Int64 → Int32 → xDt → Option (Int64 × xDt)} (hrec_6 : ∀ {v0 : Nat} {v1 : Int32} {v2 : Int64} {v4 : Nat} {v5 : Int64} {v7 : Int32} {D : xDt} {r : Int64 × xDt}, xK S v0 3 → xK S v4 10 → rec_6 v0 v1 v2 v4 v5 v7 D = some r → xfr Rg D r.2) {v0 : Nat} {v1 : Int32} {v2 : Int64} {v4 : Nat} {v5 : Int64} {v7 : Int32} {D : xDt} {r : Int64 × xDt} (k0 : xK S v0 3) (k4 : xK S v4 10) (h : f_X3_pooled_6s F P S rec_6 v0 v1 v2 v4 v5 v7 D = some r) : xfr Rg D r.2 := by
  unfold f_X3_pooled_6s at h
  refine xif_p h (fun c h => ?_) (fun c h => ?_)
  · skip
    obtain rfl := Option.some.inj h
    exact xfr_rf
  · skip
    refine xlet_e h (fun v8_1 ev8_1 h => ?_)
    exact u_X3_pooled_31 hS hR hrec_6 F k0 k4 h
theorem u_X3_pooled_6 {F P : Nat} {S : xSt} (hS : xWF S) {Rg : Nat → Prop} (hR : xRC S Rg) : ∀ (n : Nat) {v0 : Nat} {v1 : Int32} {v2 : Int64} {v4 : Nat} {v5 : Int64} {v7 : Int32} {D : xDt} {r : Int64 × xDt}, xK S v0 3 → xK S v4 10 → f_X3_pooled_6 F P S n v0 v1 v2 v4 v5 v7 D = some r → xfr Rg D r.2 := by
  intro n
  induction n with
  | zero => intros; rename_i h; cases h
  | succ n ih =>
    intro v0 v1 v2 v4 v5 v7 D r k0 k4 h
    exact u_X3_pooled_6s hS hR (fun k0 k4 h => ih k0 k4 h) k0 k4 h

theorem U_X3_pooled {F P : Nat} {S : xSt} (hS : xWF S) {Rg : Nat → Prop} (hR : xRC S Rg) {v0 : Nat} {v1 : Int32} {v2 : Int64} {v4 : Nat} {D : xDt} {r : Int64 × xDt} (k0 : xK S v0 3) (k4 : xK S v4 10) (h : f_X3_pooled F P S v0 v1 v2 v4 D = some r) : xfr Rg D r.2 := by
  unfold f_X3_pooled at h
  exact u_X3_pooled_6 hS hR F k0 k4 h

theorem U_X3_single {F P : Nat} {S : xSt} (hS : xWF S) {Rg : Nat → Prop} (hR : xRC S Rg) {v0 : Nat} {v1 : Int32} {v2 : Int64} {v4 : Nat} {D : xDt} {r : Int64 × xDt} (k0 : xK S v0 3) (k4 : xK S v4 10) (h : f_X3_single F P S v0 v1 v2 v4 D = some r) : xfr Rg D r.2 := by
  unfold f_X3_single at h
  refine xbnd_e h (fun q1 e1 h => ?_)
  refine xfr_tr (U_X11_signOf hS hR e1) ?_
  by_cases c0 : q1.1 = 67
  · rw [if_pos c0] at h
    refine xbnd_e h (fun q2 e2 h => ?_)
    refine xfr_tr (U_X3_common hS hR k0 k4 e2) ?_
    obtain rfl := Option.some.inj h
    exact xfr_rf
  · rw [if_neg c0] at h
    by_cases c1 : q1.1 = 68
    · rw [if_pos c1] at h
      refine xbnd_e h (fun q3 e3 h => ?_)
      refine xfr_tr (U_X3_pooled hS hR k0 k4 e3) ?_
      obtain rfl := Option.some.inj h
      exact xfr_rf
    · rw [if_neg c1] at h
      by_cases c2 : q1.1 = 80
      · rw [if_pos c2] at h
        refine xbnd_e h (fun q4 e4 h => ?_)
        refine xfr_tr (U_X3_known hS hR k0 k4 e4) ?_
        obtain rfl := Option.some.inj h
        exact xfr_rf
      · rw [if_neg c2] at h
        by_cases c3 : q1.1 = 126
        · rw [if_pos c3] at h
          obtain rfl := Option.some.inj h
          exact xfr_rf
        · rw [if_neg c3] at h
          refine xbnd_e h (fun q5 e5 h => ?_)
          refine xfr_tr (U_X3_known hS hR k0 k4 e5) ?_
          obtain rfl := Option.some.inj h
          exact xfr_rf

theorem u_X3_finish_92 {F P : Nat} {S : xSt} (hS : xWF S) {Rg : Nat → Prop} (hR : xRC S Rg) {v0 : Nat} {v4 : Int64} {v6 : Int32} {s0 : Int64} {s1 : Nat} {D : xDt} {r : Int64 × xDt} (k0 : xK S v0 3) (ks1 : xK S s1 3) (r0 : Rg v0) (rs1 : Rg s1) (h : f_X3_finish_92 F P S v0 v4 v6 s0 s1 D = some r) : xfr Rg D r.2 := by
  unfold f_X3_finish_92 at h
  refine xlet_e h (fun D1 eD1 h => ?_)
  refine xfr_l rs1 eD1 ?_
  refine xlet_e h (fun D2 eD2 h => ?_)
  refine xfr_i r0 eD2 ?_
  obtain rfl := Option.some.inj h
  exact xfr_rf

theorem u_X3_finish_161 {F P : Nat} {S : xSt} (hS : xWF S) {Rg : Nat → Prop} (hR : xRC S Rg) {rec_11 : Nat → Nat → Int64 → Int32 → xDt → Option (Int64 × xDt)} (hrec_11 : ∀ {v0 : Nat} {v3 : Nat} {v4 : Int64} {v6 : Int32} {D : xDt} {r : Int64 × xDt}, xK S v0 3 → xK S v3 10 → Rg v0 → rec_11 v0 v3 v4 v6 D = some r → xfr Rg D r.2) {v0 : Nat} {v3 : Nat} {v4 : Int64} {v6 : Int32} {D : xDt} {r : Int64 × xDt} (k0 : xK S v0 3) (k3 : xK S v3 10) (r0 : Rg v0) (h : f_X3_finish_161 F P S rec_11 v0 v3 v4 v6 D = some r) : xfr Rg D r.2 := by
  unfold f_X3_finish_161 at h
  refine xlet_e h (fun v6_1 ev6_1 h => ?_)
  exact hrec_11 k0 k3 r0 h

theorem u_X3_finish_106 {F P : Nat} {S : xSt} (hS : xWF S) {Rg : Nat → Prop} (hR : xRC S Rg) {rec_11 : Nat → Nat → Int64 → Int32 → xDt → Option (Int64 × xDt)} (hrec_11 : ∀ {v0 : Nat} {v3 : Nat} {v4 : Int64} {v6 : Int32} {D : xDt} {r : Int64 × xDt}, xK S v0 3 → xK S v3 10 → Rg v0 → rec_11 v0 v3 v4 v6 D = some r → xfr Rg D r.2) {v0 : Nat} {v3 : Nat} {v4 : Int64} {v6 : Int32} {v7 : Int32} {D : xDt} {r : Int64 × xDt} (k0 : xK S v0 3) (k3 : xK S v3 10) (r0 : Rg v0) (h : f_X3_finish_106 F P S rec_11 v0 v3 v4 v6 v7 D = some r) : xfr Rg D r.2 := by
  unfold f_X3_finish_106 at h
  refine xbnd_e h (fun q1 e1 h => ?_)
  refine xfr_tr (U_X11_hasTwoParts hS hR e1) ?_
  refine xif_p h (fun c h => ?_) (fun c h => ?_)
  · skip
    refine xgrd_e h (fun g2 h => ?_)
    refine xbnd_e h (fun q3 e3 h => ?_)
    refine xfr_tr (U_X3_single hS hR k0 k3 e3) ?_
    exact u_X3_finish_161 hS hR hrec_11 k0 k3 r0 h
  · skip
    refine xgrd_e h (fun g4 h => ?_)
    refine xlet_e h (fun D5 eD5 h => ?_)
    refine xfr_l r0 eD5 ?_
    refine xgrd_e h (fun g6 h => ?_)
    refine xbnd_e h (fun q7 e7 h => ?_)
    refine xfr_tr (U_X3_joined hS hR k0 e7) ?_
    exact u_X3_finish_161 hS hR hrec_11 k0 k3 r0 h

theorem u_X3_finish_11s {F P : Nat} {S : xSt} (hS : xWF S) {Rg : Nat → Prop} (hR : xRC S Rg) {rec_11 : Nat → Nat → Int64 → Int32 → xDt → Option (Int64 × xDt)} (hrec_11 : ∀ {v0 : Nat} {v3 : Nat} {v4 : Int64} {v6 : Int32} {D : xDt} {r : Int64 × xDt}, xK S v0 3 → xK S v3 10 → Rg v0 → rec_11 v0 v3 v4 v6 D = some r → xfr Rg D r.2) {v0 : Nat} {v3 : Nat} {v4 : Int64} {v6 : Int32} {D : xDt} {r : Int64 × xDt} (k0 : xK S v0 3) (k3 : xK S v3 10) (r0 : Rg v0) (h : f_X3_finish_11s F P S rec_11 v0 v3 v4 v6 D = some r) : xfr Rg D r.2 := by
  unfold f_X3_finish_11s at h
  refine xif_p h (fun c h => ?_) (fun c h => ?_)
  · skip
    refine xlet_e h (fun D1 eD1 h => ?_)
    refine xfr_i r0 eD1 ?_
    obtain rfl := Option.some.inj h
    exact xfr_rf
  · skip
    refine xgrd_e h (fun g2 h => ?_)
    refine xbnd_e h (fun q3 e3 h => ?_)
    refine xfr_tr (U_X11_signOf hS hR e3) ?_
    refine xbnd_e h (fun q4 e4 h => ?_)
    refine xfr_tr (U_X11_hasTwoParts hS hR e4) ?_
    refine xif_p h (fun c h => ?_) (fun c h => ?_)
    · skip
      exact u_X3_finish_106 hS hR hrec_11 k0 k3 r0 h
    · skip
      refine xgrd_e h (fun g5 h => ?_)
      refine xif_n h (fun c h => ?_) (fun c h => ?_)
      · skip
        exact u_X3_finish_106 hS hR hrec_11 k0 k3 r0 h
      · skip
        refine xgrd_e h (fun g6 h => ?_)
        refine xlet_e h (fun D7 eD7 h => ?_)
        refine xfr_i (hR.1 k0 r0 1 104 rfl) eD7 ?_
        refine xgrd_e h (fun g8 h => ?_)
        refine xlet_e h (fun D9 eD9 h => ?_)
        refine xfr_l (hR.1 k0 r0 2 101 rfl) eD9 ?_
        refine xgrd_e h (fun g10 h => ?_)
        refine xlet_e h (fun D11 eD11 h => ?_)
        refine xfr_l (hR.1 k0 r0 3 101 rfl) eD11 ?_
        refine xbnd_e h (fun q12 e12 h => ?_)
        refine xfr_tr (U_X11_isSaying hS hR e12) ?_
        refine xif_p h (fun c h => ?_) (fun c h => ?_)
        · skip
          exact u_X3_finish_92 hS hR k0 k0 r0 r0 h
        · skip
          exact u_X3_finish_92 hS hR k0 k0 r0 r0 h
theorem u_X3_finish_11 {F P : Nat} {S : xSt} (hS : xWF S) {Rg : Nat → Prop} (hR : xRC S Rg) : ∀ (n : Nat) {v0 : Nat} {v3 : Nat} {v4 : Int64} {v6 : Int32} {D : xDt} {r : Int64 × xDt}, xK S v0 3 → xK S v3 10 → Rg v0 → f_X3_finish_11 F P S n v0 v3 v4 v6 D = some r → xfr Rg D r.2 := by
  intro n
  induction n with
  | zero => intros; rename_i h; cases h
  | succ n ih =>
    intro v0 v3 v4 v6 D r k0 k3 r0 h
    exact u_X3_finish_11s hS hR (fun k0 k3 r0 h => ih k0 k3 r0 h) k0 k3 r0 h

theorem U_X3_finish {F P : Nat} {S : xSt} (hS : xWF S) {Rg : Nat → Prop} (hR : xRC S Rg) {v0 : Nat} {v1 : Int64} {v3 : Nat} {D : xDt} {r : Int64 × xDt} (k0 : xK S v0 3) (k3 : xK S v3 10) (r0 : Rg v0) (h : f_X3_finish F P S v0 v1 v3 D = some r) : xfr Rg D r.2 := by
  unfold f_X3_finish at h
  refine xlet_e h (fun v6_1 ev6_1 h => ?_)
  exact u_X3_finish_11 hS hR F k0 k3 r0 h

theorem u_X3_where_109 {F P : Nat} {S : xSt} (hS : xWF S) {Rg : Nat → Prop} (hR : xRC S Rg) {rec_18 : Nat → Nat → Nat → Int64 → Int32 → xDt → Option (Int64 × xDt)} (hrec_18 : ∀ {v0 : Nat} {v1 : Nat} {v2 : Nat} {v3 : Int64} {v5 : Int32} {D : xDt} {r : Int64 × xDt}, xK S v0 3 → xK S v1 2 → xK S v2 10 → Rg v0 → rec_18 v0 v1 v2 v3 v5 D = some r → xfr Rg D r.2) {v0 : Nat} {v1 : Nat} {v2 : Nat} {v3 : Int64} {v5 : Int32} {D : xDt} {r : Int64 × xDt} (k0 : xK S v0 3) (k1 : xK S v1 2) (k2 : xK S v2 10) (r0 : Rg v0) (h : f_X3_where_109 F P S rec_18 v0 v1 v2 v3 v5 D = some r) : xfr Rg D r.2 := by
  unfold f_X3_where_109 at h
  refine xlet_e h (fun v5_1 ev5_1 h => ?_)
  exact hrec_18 k0 k1 k2 r0 h

theorem u_X3_where_18s {F P : Nat} {S : xSt} (hS : xWF S) {Rg : Nat → Prop} (hR : xRC S Rg) {rec_18 : Nat → Nat → Nat → Int64 → Int32 → xDt → Option (Int64 × xDt)} (hrec_18 : ∀ {v0 : Nat} {v1 : Nat} {v2 : Nat} {v3 : Int64} {v5 : Int32} {D : xDt} {r : Int64 × xDt}, xK S v0 3 → xK S v1 2 → xK S v2 10 → Rg v0 → rec_18 v0 v1 v2 v3 v5 D = some r → xfr Rg D r.2) {v0 : Nat} {v1 : Nat} {v2 : Nat} {v3 : Int64} {v5 : Int32} {D : xDt} {r : Int64 × xDt} (k0 : xK S v0 3) (k1 : xK S v1 2) (k2 : xK S v2 10) (r0 : Rg v0) (h : f_X3_where_18s F P S rec_18 v0 v1 v2 v3 v5 D = some r) : xfr Rg D r.2 := by
  unfold f_X3_where_18s at h
  refine xif_p h (fun c h => ?_) (fun c h => ?_)
  · skip
    obtain rfl := Option.some.inj h
    exact xfr_rf
  · skip
    refine xgrd_e h (fun g1 h => ?_)
    refine xlet_e h (fun v6_2 ev6_2 h => ?_)
    refine xbnd_e h (fun q3 e3 h => ?_)
    refine xfr_tr (U_X11_signOf hS hR e3) ?_
    refine xbnd_e h (fun q4 e4 h => ?_)
    refine xfr_tr (U_X11_isLeaf hS hR e4) ?_
    refine xif_p h (fun c h => ?_) (fun c h => ?_)
    · skip
      refine xif_p h (fun c h => ?_) (fun c h => ?_)
      · skip
        exact u_X3_where_109 hS hR hrec_18 k0 k1 k2 r0 h
      · skip
        refine xgrd_e h (fun g5 h => ?_)
        refine xlet_e h (fun D6 eD6 h => ?_)
        refine xfr_i (hR.1 k0 r0 0 100 rfl) eD6 ?_
        refine xgrd_e h (fun g7 h => ?_)
        refine xlet_e h (fun D8 eD8 h => ?_)
        refine xfr_i (hR.1 k0 r0 1 104 rfl) eD8 ?_
        refine xlet_e h (fun D9 eD9 h => ?_)
        refine xfr_i r0 eD9 ?_
        exact u_X3_where_109 hS hR hrec_18 k0 k1 k2 r0 h
    · skip
      refine xbnd_e h (fun q10 e10 h => ?_)
      refine xfr_tr (U_X11_signOf hS hR e10) ?_
      refine xbnd_e h (fun q11 e11 h => ?_)
      refine xfr_tr (U_X3_leaf hS hR k0 k2 e11) ?_
      refine xbnd_e h (fun q12 e12 h => ?_)
      refine xfr_tr (U_X3_finish hS hR k0 k2 r0 e12) ?_
      exact u_X3_where_109 hS hR hrec_18 k0 k1 k2 r0 h
theorem u_X3_where_18 {F P : Nat} {S : xSt} (hS : xWF S) {Rg : Nat → Prop} (hR : xRC S Rg) : ∀ (n : Nat) {v0 : Nat} {v1 : Nat} {v2 : Nat} {v3 : Int64} {v5 : Int32} {D : xDt} {r : Int64 × xDt}, xK S v0 3 → xK S v1 2 → xK S v2 10 → Rg v0 → f_X3_where_18 F P S n v0 v1 v2 v3 v5 D = some r → xfr Rg D r.2 := by
  intro n
  induction n with
  | zero => intros; rename_i h; cases h
  | succ n ih =>
    intro v0 v1 v2 v3 v5 D r k0 k1 k2 r0 h
    exact u_X3_where_18s hS hR (fun k0 k1 k2 r0 h => ih k0 k1 k2 r0 h) k0 k1 k2 r0 h

theorem U_X3_where {F P : Nat} {S : xSt} (hS : xWF S) {Rg : Nat → Prop} (hR : xRC S Rg) {v0 : Nat} {v1 : Nat} {v2 : Nat} {D : xDt} {r : Int64 × xDt} (k0 : xK S v0 3) (k1 : xK S v1 2) (k2 : xK S v2 10) (r0 : Rg v0) (h : f_X3_where F P S v0 v1 v2 D = some r) : xfr Rg D r.2 := by
  unfold f_X3_where at h
  refine xbnd_e h (fun q1 e1 h => ?_)
  refine xfr_tr (U_X10_all hS hR k2 e1) ?_
  refine xlet_e h (fun D2 eD2 h => ?_)
  refine xfr_l r0 eD2 ?_
  refine xlet_e h (fun D3 eD3 h => ?_)
  refine xfr_i r0 eD3 ?_
  exact u_X3_where_18 hS hR F k0 k1 k2 r0 h

theorem u_X1_pair_104 {F P : Nat} {S : xSt} (hS : xWF S) {Rg : Nat → Prop} (hR : xRC S Rg) {rec_41 : Nat → Nat → Int32 → Int32 → xDt → Option (Int32 × xDt)} (hrec_41 : ∀ {v0 : Nat} {v1 : Nat} {v3 : Int32} {v4 : Int32} {D : xDt} {r : Int32 × xDt}, xK S v0 1 → xK S v1 10 → Rg v0 → rec_41 v0 v1 v3 v4 D = some r → xfr Rg D r.2) {rec_53 : Nat → Nat → Int32 → Int32 → Int32 → xDt → Option (Int32 × xDt)} (hrec_53 : ∀ {v0 : Nat} {v1 : Nat} {v3 : Int32} {v4 : Int32} {v5 : Int32} {D : xDt} {r : Int32 × xDt}, xK S v0 1 → xK S v1 10 → Rg v0 → rec_53 v0 v1 v3 v4 v5 D = some r → xfr Rg D r.2) {v0 : Nat} {v1 : Nat} {v3 : Int32} {v4 : Int32} {v5 : Int32} {D : xDt} {r : Int32 × xDt} (k0 : xK S v0 1) (k1 : xK S v1 10) (r0 : Rg v0) (h : f_X1_pair_104 F P S rec_41 rec_53 v0 v1 v3 v4 v5 D = some r) : xfr Rg D r.2 := by
  unfold f_X1_pair_104 at h
  refine xlet_e h (fun v5_1 ev5_1 h => ?_)
  exact hrec_53 k0 k1 r0 h

theorem u_X1_pair_101 {F P : Nat} {S : xSt} (hS : xWF S) {Rg : Nat → Prop} (hR : xRC S Rg) {rec_41 : Nat → Nat → Int32 → Int32 → xDt → Option (Int32 × xDt)} (hrec_41 : ∀ {v0 : Nat} {v1 : Nat} {v3 : Int32} {v4 : Int32} {D : xDt} {r : Int32 × xDt}, xK S v0 1 → xK S v1 10 → Rg v0 → rec_41 v0 v1 v3 v4 D = some r → xfr Rg D r.2) {rec_53 : Nat → Nat → Int32 → Int32 → Int32 → xDt → Option (Int32 × xDt)} (hrec_53 : ∀ {v0 : Nat} {v1 : Nat} {v3 : Int32} {v4 : Int32} {v5 : Int32} {D : xDt} {r : Int32 × xDt}, xK S v0 1 → xK S v1 10 → Rg v0 → rec_53 v0 v1 v3 v4 v5 D = some r → xfr Rg D r.2) {v0 : Nat} {v1 : Nat} {v3 : Int32} {v4 : Int32} {v5 : Int32} {D : xDt} {r : Int32 × xDt} (k0 : xK S v0 1) (k1 : xK S v1 10) (r0 : Rg v0) (h : f_X1_pair_101 F P S rec_41 rec_53 v0 v1 v3 v4 v5 D = some r) : xfr Rg D r.2 := by
  unfold f_X1_pair_101 at h
  refine xlet_e h (fun v3_1 ev3_1 h => ?_)
  exact u_X1_pair_104 hS hR hrec_41 hrec_53 k0 k1 r0 h

theorem u_X1_pair_53s {F P : Nat} {S : xSt} (hS : xWF S) {Rg : Nat → Prop} (hR : xRC S Rg) {rec_41 : Nat → Nat → Int32 → Int32 → xDt → Option (Int32 × xDt)} (hrec_41 : ∀ {v0 : Nat} {v1 : Nat} {v3 : Int32} {v4 : Int32} {D : xDt} {r : Int32 × xDt}, xK S v0 1 → xK S v1 10 → Rg v0 → rec_41 v0 v1 v3 v4 D = some r → xfr Rg D r.2) {rec_53 : Nat → Nat → Int32 → Int32 → Int32 → xDt → Option (Int32 × xDt)} (hrec_53 : ∀ {v0 : Nat} {v1 : Nat} {v3 : Int32} {v4 : Int32} {v5 : Int32} {D : xDt} {r : Int32 × xDt}, xK S v0 1 → xK S v1 10 → Rg v0 → rec_53 v0 v1 v3 v4 v5 D = some r → xfr Rg D r.2) {v0 : Nat} {v1 : Nat} {v3 : Int32} {v4 : Int32} {v5 : Int32} {D : xDt} {r : Int32 × xDt} (k0 : xK S v0 1) (k1 : xK S v1 10) (r0 : Rg v0) (h : f_X1_pair_53s F P S rec_41 rec_53 v0 v1 v3 v4 v5 D = some r) : xfr Rg D r.2 := by
  unfold f_X1_pair_53s at h
  refine xif_p h (fun c h => ?_) (fun c h => ?_)
  · skip
    refine xlet_e h (fun v4_1 ev4_1 h => ?_)
    exact hrec_41 k0 k1 r0 h
  · skip
    refine xgrd_e h (fun g2 h => ?_)
    refine xif_p h (fun c h => ?_) (fun c h => ?_)
    · skip
      exact u_X1_pair_104 hS hR hrec_41 hrec_53 k0 k1 r0 h
    · skip
      refine xif_p h (fun c h => ?_) (fun c h => ?_)
      · skip
        exact u_X1_pair_101 hS hR hrec_41 hrec_53 k0 k1 r0 h
      · skip
        refine xgrd_e h (fun g3 h => ?_)
        refine xlet_e h (fun D4 eD4 h => ?_)
        refine xfr_i (hR.1 k0 r0 4 100 rfl) eD4 ?_
        refine xgrd_e h (fun g5 h => ?_)
        refine xlet_e h (fun D6 eD6 h => ?_)
        refine xfr_i (hR.1 k0 r0 5 100 rfl) eD6 ?_
        exact u_X1_pair_101 hS hR hrec_41 hrec_53 k0 k1 r0 h
theorem u_X1_pair_53 {F P : Nat} {S : xSt} (hS : xWF S) {Rg : Nat → Prop} (hR : xRC S Rg) {rec_41 : Nat → Nat → Int32 → Int32 → xDt → Option (Int32 × xDt)} (hrec_41 : ∀ {v0 : Nat} {v1 : Nat} {v3 : Int32} {v4 : Int32} {D : xDt} {r : Int32 × xDt}, xK S v0 1 → xK S v1 10 → Rg v0 → rec_41 v0 v1 v3 v4 D = some r → xfr Rg D r.2) : ∀ (n : Nat) {v0 : Nat} {v1 : Nat} {v3 : Int32} {v4 : Int32} {v5 : Int32} {D : xDt} {r : Int32 × xDt}, xK S v0 1 → xK S v1 10 → Rg v0 → f_X1_pair_53 F P S rec_41 n v0 v1 v3 v4 v5 D = some r → xfr Rg D r.2 := by
  intro n
  induction n with
  | zero => intros; rename_i h; cases h
  | succ n ih =>
    intro v0 v1 v3 v4 v5 D r k0 k1 r0 h
    exact u_X1_pair_53s hS hR hrec_41 (fun k0 k1 r0 h => ih k0 k1 r0 h) k0 k1 r0 h

theorem u_X1_pair_41s {F P : Nat} {S : xSt} (hS : xWF S) {Rg : Nat → Prop} (hR : xRC S Rg) {rec_41 : Nat → Nat → Int32 → Int32 → xDt → Option (Int32 × xDt)} (hrec_41 : ∀ {v0 : Nat} {v1 : Nat} {v3 : Int32} {v4 : Int32} {D : xDt} {r : Int32 × xDt}, xK S v0 1 → xK S v1 10 → Rg v0 → rec_41 v0 v1 v3 v4 D = some r → xfr Rg D r.2) {v0 : Nat} {v1 : Nat} {v3 : Int32} {v4 : Int32} {D : xDt} {r : Int32 × xDt} (k0 : xK S v0 1) (k1 : xK S v1 10) (r0 : Rg v0) (h : f_X1_pair_41s F P S rec_41 v0 v1 v3 v4 D = some r) : xfr Rg D r.2 := by
  unfold f_X1_pair_41s at h
  refine xif_p h (fun c h => ?_) (fun c h => ?_)
  · skip
    obtain rfl := Option.some.inj h
    exact xfr_rf
  · skip
    exact u_X1_pair_53 hS hR hrec_41 F k0 k1 r0 h
theorem u_X1_pair_41 {F P : Nat} {S : xSt} (hS : xWF S) {Rg : Nat → Prop} (hR : xRC S Rg) : ∀ (n : Nat) {v0 : Nat} {v1 : Nat} {v3 : Int32} {v4 : Int32} {D : xDt} {r : Int32 × xDt}, xK S v0 1 → xK S v1 10 → Rg v0 → f_X1_pair_41 F P S n v0 v1 v3 v4 D = some r → xfr Rg D r.2 := by
  intro n
  induction n with
  | zero => intros; rename_i h; cases h
  | succ n ih =>
    intro v0 v1 v3 v4 D r k0 k1 r0 h
    exact u_X1_pair_41s hS hR (fun k0 k1 r0 h => ih k0 k1 r0 h) k0 k1 r0 h

theorem u_X1_pair_2s {F P : Nat} {S : xSt} (hS : xWF S) {Rg : Nat → Prop} (hR : xRC S Rg) {rec_2 : Nat → Nat → Nat → Int32 → xDt → Option (Int32 × xDt)} (hrec_2 : ∀ {v0 : Nat} {v1 : Nat} {v2 : Nat} {v3 : Int32} {D : xDt} {r : Int32 × xDt}, xK S v0 1 → xK S v1 10 → xK S v2 3 → Rg v0 → Rg v2 → rec_2 v0 v1 v2 v3 D = some r → xfr Rg D r.2) {v0 : Nat} {v1 : Nat} {v2 : Nat} {v3 : Int32} {D : xDt} {r : Int32 × xDt} (k0 : xK S v0 1) (k1 : xK S v1 10) (k2 : xK S v2 3) (r0 : Rg v0) (r2 : Rg v2) (h : f_X1_pair_2s F P S rec_2 v0 v1 v2 v3 D = some r) : xfr Rg D r.2 := by
  unfold f_X1_pair_2s at h
  refine xif_p h (fun c h => ?_) (fun c h => ?_)
  · skip
    exact u_X1_pair_41 hS hR F k0 k1 r0 h
  · skip
    refine xgrd_e h (fun g1 h => ?_)
    refine xbnd_e h (fun q2 e2 h => ?_)
    refine xfr_tr (U_X3_where hS hR k2 ((hS.e ((hS.f k0 1 202 rfl).2) (by decide) (xin_lt g1)).2) k1 r2 e2) ?_
    refine xgrd_e h (fun g3 h => ?_)
    refine xlet_e h (fun D4 eD4 h => ?_)
    refine xfr_l (hR.1 k0 r0 3 101 rfl) eD4 ?_
    refine xlet_e h (fun v3_5 ev3_5 h => ?_)
    exact hrec_2 k0 k1 k2 r0 r2 h
theorem u_X1_pair_2 {F P : Nat} {S : xSt} (hS : xWF S) {Rg : Nat → Prop} (hR : xRC S Rg) : ∀ (n : Nat) {v0 : Nat} {v1 : Nat} {v2 : Nat} {v3 : Int32} {D : xDt} {r : Int32 × xDt}, xK S v0 1 → xK S v1 10 → xK S v2 3 → Rg v0 → Rg v2 → f_X1_pair_2 F P S n v0 v1 v2 v3 D = some r → xfr Rg D r.2 := by
  intro n
  induction n with
  | zero => intros; rename_i h; cases h
  | succ n ih =>
    intro v0 v1 v2 v3 D r k0 k1 k2 r0 r2 h
    exact u_X1_pair_2s hS hR (fun k0 k1 k2 r0 r2 h => ih k0 k1 k2 r0 r2 h) k0 k1 k2 r0 r2 h

theorem U_X1_pair {F P : Nat} {S : xSt} (hS : xWF S) {Rg : Nat → Prop} (hR : xRC S Rg) {v0 : Nat} {v1 : Nat} {v2 : Nat} {D : xDt} {r : Int32 × xDt} (k0 : xK S v0 1) (k1 : xK S v1 10) (k2 : xK S v2 3) (r0 : Rg v0) (r2 : Rg v2) (h : f_X1_pair F P S v0 v1 v2 D = some r) : xfr Rg D r.2 := by
  unfold f_X1_pair at h
  exact u_X1_pair_2 hS hR F k0 k1 k2 r0 r2 h

theorem u_X1_pairsOf_5s {F P : Nat} {S : xSt} (hS : xWF S) {Rg : Nat → Prop} (hR : xRC S Rg) {rec_5 : Nat → Int32 → Int32 → Int64 → Int32 → xDt → Option (Int64 × xDt)} (hrec_5 : ∀ {v0 : Nat} {v1 : Int32} {v2 : Int32} {v3 : Int64} {v5 : Int32} {D : xDt} {r : Int64 × xDt}, xK S v0 1 → rec_5 v0 v1 v2 v3 v5 D = some r → xfr Rg D r.2) {v0 : Nat} {v1 : Int32} {v2 : Int32} {v3 : Int64} {v5 : Int32} {D : xDt} {r : Int64 × xDt} (k0 : xK S v0 1) (h : f_X1_pairsOf_5s F P S rec_5 v0 v1 v2 v3 v5 D = some r) : xfr Rg D r.2 := by
  unfold f_X1_pairsOf_5s at h
  refine xif_p h (fun c h => ?_) (fun c h => ?_)
  · skip
    obtain rfl := Option.some.inj h
    exact xfr_rf
  · skip
    refine xgrd_e h (fun g1 h => ?_)
    refine xlet_e h (fun v3_2 ev3_2 h => ?_)
    refine xlet_e h (fun v5_3 ev5_3 h => ?_)
    exact hrec_5 k0 h
theorem u_X1_pairsOf_5 {F P : Nat} {S : xSt} (hS : xWF S) {Rg : Nat → Prop} (hR : xRC S Rg) : ∀ (n : Nat) {v0 : Nat} {v1 : Int32} {v2 : Int32} {v3 : Int64} {v5 : Int32} {D : xDt} {r : Int64 × xDt}, xK S v0 1 → f_X1_pairsOf_5 F P S n v0 v1 v2 v3 v5 D = some r → xfr Rg D r.2 := by
  intro n
  induction n with
  | zero => intros; rename_i h; cases h
  | succ n ih =>
    intro v0 v1 v2 v3 v5 D r k0 h
    exact u_X1_pairsOf_5s hS hR (fun k0 h => ih k0 h) k0 h

theorem U_X1_pairsOf {F P : Nat} {S : xSt} (hS : xWF S) {Rg : Nat → Prop} (hR : xRC S Rg) {v0 : Nat} {v1 : Int32} {v2 : Int32} {D : xDt} {r : Int64 × xDt} (k0 : xK S v0 1) (h : f_X1_pairsOf F P S v0 v1 v2 D = some r) : xfr Rg D r.2 := by
  unfold f_X1_pairsOf at h
  exact u_X1_pairsOf_5 hS hR F k0 h

theorem u_X1_narrowCells_9s {F P : Nat} {S : xSt} (hS : xWF S) {Rg : Nat → Prop} (hR : xRC S Rg) {rec_2 : Nat → Nat → Int32 → xDt → Option (xDt)} (hrec_2 : ∀ {v0 : Nat} {v1 : Nat} {v2 : Int32} {D : xDt} {r : xDt}, xK S v0 1 → xK S v1 10 → Rg v1 → rec_2 v0 v1 v2 D = some r → xfr Rg D r) {rec_9 : Nat → Nat → Int32 → Int32 → xDt → Option (xDt)} (hrec_9 : ∀ {v0 : Nat} {v1 : Nat} {v2 : Int32} {v3 : Int32} {D : xDt} {r : xDt}, xK S v0 1 → xK S v1 10 → Rg v1 → rec_9 v0 v1 v2 v3 D = some r → xfr Rg D r) {v0 : Nat} {v1 : Nat} {v2 : Int32} {v3 : Int32} {D : xDt} {r : xDt} (k0 : xK S v0 1) (k1 : xK S v1 10) (r1 : Rg v1) (h : f_X1_narrowCells_9s F P S rec_2 rec_9 v0 v1 v2 v3 D = some r) : xfr Rg D r := by
  unfold f_X1_narrowCells_9s at h
  refine xif_p h (fun c h => ?_) (fun c h => ?_)
  · skip
    refine xlet_e h (fun v2_1 ev2_1 h => ?_)
    exact hrec_2 k0 k1 r1 h
  · skip
    refine xgrd_e h (fun g2 h => ?_)
    refine xgrd_e h (fun g3 h => ?_)
    refine xlet_e h (fun v4_4 ev4_4 h => ?_)
    refine xgrd_e h (fun g5 h => ?_)
    refine xbnd_e h (fun q6 e6 h => ?_)
    refine xfr_tr (U_X1_pairsOf hS hR k0 e6) ?_
    refine xgrd_e h (fun g7 h => ?_)
    refine xlet_e h (fun D8 eD8 h => ?_)
    refine xfr_l (hR.1 k1 r1 2 101 rfl) eD8 ?_
    refine xlet_e h (fun v3_9 ev3_9 h => ?_)
    exact hrec_9 k0 k1 r1 h
theorem u_X1_narrowCells_9 {F P : Nat} {S : xSt} (hS : xWF S) {Rg : Nat → Prop} (hR : xRC S Rg) {rec_2 : Nat → Nat → Int32 → xDt → Option (xDt)} (hrec_2 : ∀ {v0 : Nat} {v1 : Nat} {v2 : Int32} {D : xDt} {r : xDt}, xK S v0 1 → xK S v1 10 → Rg v1 → rec_2 v0 v1 v2 D = some r → xfr Rg D r) : ∀ (n : Nat) {v0 : Nat} {v1 : Nat} {v2 : Int32} {v3 : Int32} {D : xDt} {r : xDt}, xK S v0 1 → xK S v1 10 → Rg v1 → f_X1_narrowCells_9 F P S rec_2 n v0 v1 v2 v3 D = some r → xfr Rg D r := by
  intro n
  induction n with
  | zero => intros; rename_i h; cases h
  | succ n ih =>
    intro v0 v1 v2 v3 D r k0 k1 r1 h
    exact u_X1_narrowCells_9s hS hR hrec_2 (fun k0 k1 r1 h => ih k0 k1 r1 h) k0 k1 r1 h

theorem u_X1_narrowCells_2s {F P : Nat} {S : xSt} (hS : xWF S) {Rg : Nat → Prop} (hR : xRC S Rg) {rec_2 : Nat → Nat → Int32 → xDt → Option (xDt)} (hrec_2 : ∀ {v0 : Nat} {v1 : Nat} {v2 : Int32} {D : xDt} {r : xDt}, xK S v0 1 → xK S v1 10 → Rg v1 → rec_2 v0 v1 v2 D = some r → xfr Rg D r) {v0 : Nat} {v1 : Nat} {v2 : Int32} {D : xDt} {r : xDt} (k0 : xK S v0 1) (k1 : xK S v1 10) (r1 : Rg v1) (h : f_X1_narrowCells_2s F P S rec_2 v0 v1 v2 D = some r) : xfr Rg D r := by
  unfold f_X1_narrowCells_2s at h
  refine xif_p h (fun c h => ?_) (fun c h => ?_)
  · skip
    obtain rfl := Option.some.inj h
    exact xfr_rf
  · skip
    exact u_X1_narrowCells_9 hS hR hrec_2 F k0 k1 r1 h
theorem u_X1_narrowCells_2 {F P : Nat} {S : xSt} (hS : xWF S) {Rg : Nat → Prop} (hR : xRC S Rg) : ∀ (n : Nat) {v0 : Nat} {v1 : Nat} {v2 : Int32} {D : xDt} {r : xDt}, xK S v0 1 → xK S v1 10 → Rg v1 → f_X1_narrowCells_2 F P S n v0 v1 v2 D = some r → xfr Rg D r := by
  intro n
  induction n with
  | zero => intros; rename_i h; cases h
  | succ n ih =>
    intro v0 v1 v2 D r k0 k1 r1 h
    exact u_X1_narrowCells_2s hS hR (fun k0 k1 r1 h => ih k0 k1 r1 h) k0 k1 r1 h

theorem U_X1_narrowCells {F P : Nat} {S : xSt} (hS : xWF S) {Rg : Nat → Prop} (hR : xRC S Rg) {v0 : Nat} {v1 : Nat} {D : xDt} {r : xDt} (k0 : xK S v0 1) (k1 : xK S v1 10) (r1 : Rg v1) (h : f_X1_narrowCells F P S v0 v1 D = some r) : xfr Rg D r := by
  unfold f_X1_narrowCells at h
  exact u_X1_narrowCells_2 hS hR F k0 k1 r1 h

theorem U_X10_setAtom {F P : Nat} {S : xSt} (hS : xWF S) {Rg : Nat → Prop} (hR : xRC S Rg) {v0 : Nat} {v1 : Int32} {v2 : Int32} {v3 : Int32} {D : xDt} {r : xDt} (k0 : xK S v0 10) (r0 : Rg v0) (h : f_X10_setAtom F P S v0 v1 v2 v3 D = some r) : xfr Rg D r := by
  unfold f_X10_setAtom at h
  refine xlet_e h (fun v4_1 ev4_1 h => ?_)
  refine xif_p h (fun c h => ?_) (fun c h => ?_)
  · skip
    refine xgrd_e h (fun g2 h => ?_)
    refine xgrd_e h (fun g3 h => ?_)
    refine xlet_e h (fun D4 eD4 h => ?_)
    refine xfr_l (hR.1 k0 r0 1 101 rfl) eD4 ?_
    obtain rfl := Option.some.inj h
    exact xfr_rf
  · skip
    refine xgrd_e h (fun g5 h => ?_)
    refine xgrd_e h (fun g6 h => ?_)
    refine xlet_e h (fun D7 eD7 h => ?_)
    refine xfr_l (hR.1 k0 r0 1 101 rfl) eD7 ?_
    obtain rfl := Option.some.inj h
    exact xfr_rf

theorem u_X1_changeAtom_52 {F P : Nat} {S : xSt} (hS : xWF S) {Rg : Nat → Prop} (hR : xRC S Rg) {rec_3 : Nat → Nat → Int32 → Int32 → Int64 → Int32 → xDt → Option (xDt)} (hrec_3 : ∀ {v0 : Nat} {v1 : Nat} {v2 : Int32} {v3 : Int32} {v4 : Int64} {v6 : Int32} {D : xDt} {r : xDt}, xK S v0 1 → xK S v1 10 → Rg v1 → rec_3 v0 v1 v2 v3 v4 v6 D = some r → xfr Rg D r) {v0 : Nat} {v1 : Nat} {v2 : Int32} {v3 : Int32} {v4 : Int64} {v6 : Int32} {D : xDt} {r : xDt} (k0 : xK S v0 1) (k1 : xK S v1 10) (r1 : Rg v1) (h : f_X1_changeAtom_52 F P S rec_3 v0 v1 v2 v3 v4 v6 D = some r) : xfr Rg D r := by
  unfold f_X1_changeAtom_52 at h
  refine xlet_e h (fun v6_1 ev6_1 h => ?_)
  exact hrec_3 k0 k1 r1 h

theorem u_X1_changeAtom_49 {F P : Nat} {S : xSt} (hS : xWF S) {Rg : Nat → Prop} (hR : xRC S Rg) {rec_3 : Nat → Nat → Int32 → Int32 → Int64 → Int32 → xDt → Option (xDt)} (hrec_3 : ∀ {v0 : Nat} {v1 : Nat} {v2 : Int32} {v3 : Int32} {v4 : Int64} {v6 : Int32} {D : xDt} {r : xDt}, xK S v0 1 → xK S v1 10 → Rg v1 → rec_3 v0 v1 v2 v3 v4 v6 D = some r → xfr Rg D r) {v0 : Nat} {v1 : Nat} {v2 : Int32} {v3 : Int32} {v4 : Int64} {v6 : Int32} {s0 : Int32} {s1 : Int32} {s2 : Int32} {s3 : Nat} {D : xDt} {r : xDt} (k0 : xK S v0 1) (k1 : xK S v1 10) (ks3 : xK S s3 10) (r1 : Rg v1) (rs3 : Rg s3) (h : f_X1_changeAtom_49 F P S rec_3 v0 v1 v2 v3 v4 v6 s0 s1 s2 s3 D = some r) : xfr Rg D r := by
  unfold f_X1_changeAtom_49 at h
  refine xbnd_e h (fun q1 e1 h => ?_)
  refine xfr_tr (U_X10_setAtom hS hR ks3 rs3 e1) ?_
  exact u_X1_changeAtom_52 hS hR hrec_3 k0 k1 r1 h

theorem u_X1_changeAtom_3s {F P : Nat} {S : xSt} (hS : xWF S) {Rg : Nat → Prop} (hR : xRC S Rg) {rec_3 : Nat → Nat → Int32 → Int32 → Int64 → Int32 → xDt → Option (xDt)} (hrec_3 : ∀ {v0 : Nat} {v1 : Nat} {v2 : Int32} {v3 : Int32} {v4 : Int64} {v6 : Int32} {D : xDt} {r : xDt}, xK S v0 1 → xK S v1 10 → Rg v1 → rec_3 v0 v1 v2 v3 v4 v6 D = some r → xfr Rg D r) {v0 : Nat} {v1 : Nat} {v2 : Int32} {v3 : Int32} {v4 : Int64} {v6 : Int32} {D : xDt} {r : xDt} (k0 : xK S v0 1) (k1 : xK S v1 10) (r1 : Rg v1) (h : f_X1_changeAtom_3s F P S rec_3 v0 v1 v2 v3 v4 v6 D = some r) : xfr Rg D r := by
  unfold f_X1_changeAtom_3s at h
  refine xif_p h (fun c h => ?_) (fun c h => ?_)
  · skip
    obtain rfl := Option.some.inj h
    exact xfr_rf
  · skip
    refine xgrd_e h (fun g1 h => ?_)
    refine xif_n h (fun c h => ?_) (fun c h => ?_)
    · skip
      exact u_X1_changeAtom_52 hS hR hrec_3 k0 k1 r1 h
    · skip
      refine xgrd_e h (fun g2 h => ?_)
      refine xif_p h (fun c h => ?_) (fun c h => ?_)
      · skip
        exact u_X1_changeAtom_49 hS hR hrec_3 k0 k1 k1 r1 r1 h
      · skip
        exact u_X1_changeAtom_49 hS hR hrec_3 k0 k1 k1 r1 r1 h
theorem u_X1_changeAtom_3 {F P : Nat} {S : xSt} (hS : xWF S) {Rg : Nat → Prop} (hR : xRC S Rg) : ∀ (n : Nat) {v0 : Nat} {v1 : Nat} {v2 : Int32} {v3 : Int32} {v4 : Int64} {v6 : Int32} {D : xDt} {r : xDt}, xK S v0 1 → xK S v1 10 → Rg v1 → f_X1_changeAtom_3 F P S n v0 v1 v2 v3 v4 v6 D = some r → xfr Rg D r := by
  intro n
  induction n with
  | zero => intros; rename_i h; cases h
  | succ n ih =>
    intro v0 v1 v2 v3 v4 v6 D r k0 k1 r1 h
    exact u_X1_changeAtom_3s hS hR (fun k0 k1 r1 h => ih k0 k1 r1 h) k0 k1 r1 h

theorem U_X1_changeAtom {F P : Nat} {S : xSt} (hS : xWF S) {Rg : Nat → Prop} (hR : xRC S Rg) {v0 : Nat} {v1 : Nat} {v2 : Int32} {v3 : Int32} {v4 : Int64} {D : xDt} {r : xDt} (k0 : xK S v0 1) (k1 : xK S v1 10) (r1 : Rg v1) (h : f_X1_changeAtom F P S v0 v1 v2 v3 v4 D = some r) : xfr Rg D r := by
  unfold f_X1_changeAtom at h
  exact u_X1_changeAtom_3 hS hR F k0 k1 r1 h

theorem u_X1_changeAtoms_63 {F P : Nat} {S : xSt} (hS : xWF S) {Rg : Nat → Prop} (hR : xRC S Rg) {rec_3 : Nat → Nat → Nat → Nat → Int32 → xDt → Option (xDt)} (hrec_3 : ∀ {v0 : Nat} {v1 : Nat} {v2 : Nat} {v3 : Nat} {v4 : Int32} {D : xDt} {r : xDt}, xK S v0 1 → xK S v1 10 → xK S v2 10 → xK S v3 3 → Rg v1 → Rg v3 → rec_3 v0 v1 v2 v3 v4 D = some r → xfr Rg D r) {rec_15 : Nat → Nat → Nat → Nat → Int32 → Int32 → xDt → Option (xDt)} (hrec_15 : ∀ {v0 : Nat} {v1 : Nat} {v2 : Nat} {v3 : Nat} {v4 : Int32} {v5 : Int32} {D : xDt} {r : xDt}, xK S v0 1 → xK S v1 10 → xK S v2 10 → xK S v3 3 → Rg v1 → Rg v3 → rec_15 v0 v1 v2 v3 v4 v5 D = some r → xfr Rg D r) {v0 : Nat} {v1 : Nat} {v2 : Nat} {v3 : Nat} {v4 : Int32} {v5 : Int32} {D : xDt} {r : xDt} (k0 : xK S v0 1) (k1 : xK S v1 10) (k2 : xK S v2 10) (k3 : xK S v3 3) (r1 : Rg v1) (r3 : Rg v3) (h : f_X1_changeAtoms_63 F P S rec_3 rec_15 v0 v1 v2 v3 v4 v5 D = some r) : xfr Rg D r := by
  unfold f_X1_changeAtoms_63 at h
  refine xlet_e h (fun v5_1 ev5_1 h => ?_)
  exact hrec_15 k0 k1 k2 k3 r1 r3 h

theorem u_X1_changeAtoms_15s {F P : Nat} {S : xSt} (hS : xWF S) {Rg : Nat → Prop} (hR : xRC S Rg) {rec_3 : Nat → Nat → Nat → Nat → Int32 → xDt → Option (xDt)} (hrec_3 : ∀ {v0 : Nat} {v1 : Nat} {v2 : Nat} {v3 : Nat} {v4 : Int32} {D : xDt} {r : xDt}, xK S v0 1 → xK S v1 10 → xK S v2 10 → xK S v3 3 → Rg v1 → Rg v3 → rec_3 v0 v1 v2 v3 v4 D = some r → xfr Rg D r) {rec_15 : Nat → Nat → Nat → Nat → Int32 → Int32 → xDt → Option (xDt)} (hrec_15 : ∀ {v0 : Nat} {v1 : Nat} {v2 : Nat} {v3 : Nat} {v4 : Int32} {v5 : Int32} {D : xDt} {r : xDt}, xK S v0 1 → xK S v1 10 → xK S v2 10 → xK S v3 3 → Rg v1 → Rg v3 → rec_15 v0 v1 v2 v3 v4 v5 D = some r → xfr Rg D r) {v0 : Nat} {v1 : Nat} {v2 : Nat} {v3 : Nat} {v4 : Int32} {v5 : Int32} {D : xDt} {r : xDt} (k0 : xK S v0 1) (k1 : xK S v1 10) (k2 : xK S v2 10) (k3 : xK S v3 3) (r1 : Rg v1) (r3 : Rg v3) (h : f_X1_changeAtoms_15s F P S rec_3 rec_15 v0 v1 v2 v3 v4 v5 D = some r) : xfr Rg D r := by
  unfold f_X1_changeAtoms_15s at h
  refine xif_p h (fun c h => ?_) (fun c h => ?_)
  · skip
    refine xlet_e h (fun v4_1 ev4_1 h => ?_)
    exact hrec_3 k0 k1 k2 k3 r1 r3 h
  · skip
    refine xgrd_e h (fun g2 h => ?_)
    refine xif_p h (fun c h => ?_) (fun c h => ?_)
    · skip
      exact u_X1_changeAtoms_63 hS hR hrec_3 hrec_15 k0 k1 k2 k3 r1 r3 h
    · skip
      refine xbnd_e h (fun q3 e3 h => ?_)
      refine xfr_tr (U_X3_where hS hR k3 ((hS.e ((hS.f k0 1 202 rfl).2) (by decide) (xin_lt g2)).2) k2 r3 e3) ?_
      refine xbnd_e h (fun q4 e4 h => ?_)
      refine xfr_tr (U_X1_changeAtom hS hR k0 k1 r1 e4) ?_
      exact u_X1_changeAtoms_63 hS hR hrec_3 hrec_15 k0 k1 k2 k3 r1 r3 h
theorem u_X1_changeAtoms_15 {F P : Nat} {S : xSt} (hS : xWF S) {Rg : Nat → Prop} (hR : xRC S Rg) {rec_3 : Nat → Nat → Nat → Nat → Int32 → xDt → Option (xDt)} (hrec_3 : ∀ {v0 : Nat} {v1 : Nat} {v2 : Nat} {v3 : Nat} {v4 : Int32} {D : xDt} {r : xDt}, xK S v0 1 → xK S v1 10 → xK S v2 10 → xK S v3 3 → Rg v1 → Rg v3 → rec_3 v0 v1 v2 v3 v4 D = some r → xfr Rg D r) : ∀ (n : Nat) {v0 : Nat} {v1 : Nat} {v2 : Nat} {v3 : Nat} {v4 : Int32} {v5 : Int32} {D : xDt} {r : xDt}, xK S v0 1 → xK S v1 10 → xK S v2 10 → xK S v3 3 → Rg v1 → Rg v3 → f_X1_changeAtoms_15 F P S rec_3 n v0 v1 v2 v3 v4 v5 D = some r → xfr Rg D r := by
  intro n
  induction n with
  | zero => intros; rename_i h; cases h
  | succ n ih =>
    intro v0 v1 v2 v3 v4 v5 D r k0 k1 k2 k3 r1 r3 h
    exact u_X1_changeAtoms_15s hS hR hrec_3 (fun k0 k1 k2 k3 r1 r3 h => ih k0 k1 k2 k3 r1 r3 h) k0 k1 k2 k3 r1 r3 h

theorem u_X1_changeAtoms_3s {F P : Nat} {S : xSt} (hS : xWF S) {Rg : Nat → Prop} (hR : xRC S Rg) {rec_3 : Nat → Nat → Nat → Nat → Int32 → xDt → Option (xDt)} (hrec_3 : ∀ {v0 : Nat} {v1 : Nat} {v2 : Nat} {v3 : Nat} {v4 : Int32} {D : xDt} {r : xDt}, xK S v0 1 → xK S v1 10 → xK S v2 10 → xK S v3 3 → Rg v1 → Rg v3 → rec_3 v0 v1 v2 v3 v4 D = some r → xfr Rg D r) {v0 : Nat} {v1 : Nat} {v2 : Nat} {v3 : Nat} {v4 : Int32} {D : xDt} {r : xDt} (k0 : xK S v0 1) (k1 : xK S v1 10) (k2 : xK S v2 10) (k3 : xK S v3 3) (r1 : Rg v1) (r3 : Rg v3) (h : f_X1_changeAtoms_3s F P S rec_3 v0 v1 v2 v3 v4 D = some r) : xfr Rg D r := by
  unfold f_X1_changeAtoms_3s at h
  refine xif_p h (fun c h => ?_) (fun c h => ?_)
  · skip
    obtain rfl := Option.some.inj h
    exact xfr_rf
  · skip
    exact u_X1_changeAtoms_15 hS hR hrec_3 F k0 k1 k2 k3 r1 r3 h
theorem u_X1_changeAtoms_3 {F P : Nat} {S : xSt} (hS : xWF S) {Rg : Nat → Prop} (hR : xRC S Rg) : ∀ (n : Nat) {v0 : Nat} {v1 : Nat} {v2 : Nat} {v3 : Nat} {v4 : Int32} {D : xDt} {r : xDt}, xK S v0 1 → xK S v1 10 → xK S v2 10 → xK S v3 3 → Rg v1 → Rg v3 → f_X1_changeAtoms_3 F P S n v0 v1 v2 v3 v4 D = some r → xfr Rg D r := by
  intro n
  induction n with
  | zero => intros; rename_i h; cases h
  | succ n ih =>
    intro v0 v1 v2 v3 v4 D r k0 k1 k2 k3 r1 r3 h
    exact u_X1_changeAtoms_3s hS hR (fun k0 k1 k2 k3 r1 r3 h => ih k0 k1 k2 k3 r1 r3 h) k0 k1 k2 k3 r1 r3 h

theorem U_X1_changeAtoms {F P : Nat} {S : xSt} (hS : xWF S) {Rg : Nat → Prop} (hR : xRC S Rg) {v0 : Nat} {v1 : Nat} {v2 : Nat} {v3 : Nat} {D : xDt} {r : xDt} (k0 : xK S v0 1) (k1 : xK S v1 10) (k2 : xK S v2 10) (k3 : xK S v3 3) (r1 : Rg v1) (r3 : Rg v3) (h : f_X1_changeAtoms F P S v0 v1 v2 v3 D = some r) : xfr Rg D r := by
  unfold f_X1_changeAtoms at h
  exact u_X1_changeAtoms_3 hS hR F k0 k1 k2 k3 r1 r3 h

theorem U_X2_add {F P : Nat} {S : xSt} (hS : xWF S) {Rg : Nat → Prop} (hR : xRC S Rg) {v0 : Nat} {v1 : Int32} {D : xDt} {r : Int32 × xDt} (k0 : xK S v0 2) (r0 : Rg v0) (h : f_X2_add F P S v0 v1 D = some r) : xfr Rg D r.2 := by
  unfold f_X2_add at h
  refine xif_p h (fun c h => ?_) (fun c h => ?_)
  · skip
    refine xlet_e h (fun D1 eD1 h => ?_)
    refine xfr_i r0 eD1 ?_
    refine xgrd_e h (fun g2 h => ?_)
    refine xlet_e h (fun D3 eD3 h => ?_)
    refine xfr_i (hR.1 k0 r0 0 100 rfl) eD3 ?_
    obtain rfl := Option.some.inj h
    exact xfr_rf
  · skip
    obtain rfl := Option.some.inj h
    exact xfr_rf

theorem u_X2_insert_31s {F P : Nat} {S : xSt} (hS : xWF S) {Rg : Nat → Prop} (hR : xRC S Rg) {rec_31 : Nat → Int32 → Int32 → Int32 → xDt → Option (Int32 × xDt)} (hrec_31 : ∀ {v0 : Nat} {v1 : Int32} {v2 : Int32} {v3 : Int32} {D : xDt} {r : Int32 × xDt}, xK S v0 2 → Rg v0 → rec_31 v0 v1 v2 v3 D = some r → xfr Rg D r.2) {v0 : Nat} {v1 : Int32} {v2 : Int32} {v3 : Int32} {D : xDt} {r : Int32 × xDt} (k0 : xK S v0 2) (r0 : Rg v0) (h : f_X2_insert_31s F P S rec_31 v0 v1 v2 v3 D = some r) : xfr Rg D r.2 := by
  unfold f_X2_insert_31s at h
  refine xif_p h (fun c h => ?_) (fun c h => ?_)
  · skip
    refine xgrd_e h (fun g1 h => ?_)
    refine xlet_e h (fun D2 eD2 h => ?_)
    refine xfr_i (hR.1 k0 r0 0 100 rfl) eD2 ?_
    refine xlet_e h (fun D3 eD3 h => ?_)
    refine xfr_i r0 eD3 ?_
    obtain rfl := Option.some.inj h
    exact xfr_rf
  · skip
    refine xgrd_e h (fun g4 h => ?_)
    refine xgrd_e h (fun g5 h => ?_)
    refine xlet_e h (fun D6 eD6 h => ?_)
    refine xfr_i (hR.1 k0 r0 0 100 rfl) eD6 ?_
    refine xlet_e h (fun v3_7 ev3_7 h => ?_)
    exact hrec_31 k0 r0 h
theorem u_X2_insert_31 {F P : Nat} {S : xSt} (hS : xWF S) {Rg : Nat → Prop} (hR : xRC S Rg) : ∀ (n : Nat) {v0 : Nat} {v1 : Int32} {v2 : Int32} {v3 : Int32} {D : xDt} {r : Int32 × xDt}, xK S v0 2 → Rg v0 → f_X2_insert_31 F P S n v0 v1 v2 v3 D = some r → xfr Rg D r.2 := by
  intro n
  induction n with
  | zero => intros; rename_i h; cases h
  | succ n ih =>
    intro v0 v1 v2 v3 D r k0 r0 h
    exact u_X2_insert_31s hS hR (fun k0 r0 h => ih k0 r0 h) k0 r0 h

theorem U_X2_insert {F P : Nat} {S : xSt} (hS : xWF S) {Rg : Nat → Prop} (hR : xRC S Rg) {v0 : Nat} {v1 : Int32} {v2 : Int32} {D : xDt} {r : Int32 × xDt} (k0 : xK S v0 2) (r0 : Rg v0) (h : f_X2_insert F P S v0 v1 v2 D = some r) : xfr Rg D r.2 := by
  unfold f_X2_insert at h
  refine xif_p h (fun c h => ?_) (fun c h => ?_)
  · skip
    obtain rfl := Option.some.inj h
    exact xfr_rf
  · skip
    refine xif_p h (fun c h => ?_) (fun c h => ?_)
    · skip
      obtain rfl := Option.some.inj h
      exact xfr_rf
    · skip
      refine xif_p h (fun c h => ?_) (fun c h => ?_)
      · skip
        refine xlet_e h (fun v3_1 ev3_1 h => ?_)
        exact u_X2_insert_31 hS hR F k0 r0 h
      · skip
        obtain rfl := Option.some.inj h
        exact xfr_rf

theorem u_X11_isKnowing_30 {F P : Nat} {S : xSt} (hS : xWF S) {Rg : Nat → Prop} (hR : xRC S Rg) {D : xDt} {r : Int32 × xDt} (h : f_X11_isKnowing_30 F P S D = some r) : xfr Rg D r.2 := by
  unfold f_X11_isKnowing_30 at h
  obtain rfl := Option.some.inj h
  exact xfr_rf

theorem U_X11_isKnowing {F P : Nat} {S : xSt} (hS : xWF S) {Rg : Nat → Prop} (hR : xRC S Rg) {v0 : Int32} {D : xDt} {r : Int32 × xDt} (h : f_X11_isKnowing F P S v0 D = some r) : xfr Rg D r.2 := by
  unfold f_X11_isKnowing at h
  refine xif_p h (fun c h => ?_) (fun c h => ?_)
  · skip
    exact u_X11_isKnowing_30 hS hR h
  · skip
    refine xif_p h (fun c h => ?_) (fun c h => ?_)
    · skip
      exact u_X11_isKnowing_30 hS hR h
    · skip
      refine xif_p h (fun c h => ?_) (fun c h => ?_)
      · skip
        exact u_X11_isKnowing_30 hS hR h
      · skip
        refine xif_p h (fun c h => ?_) (fun c h => ?_)
        · skip
          exact u_X11_isKnowing_30 hS hR h
        · skip
          refine xif_n h (fun c h => ?_) (fun c h => ?_)
          · skip
            obtain rfl := Option.some.inj h
            exact xfr_rf
          · skip
            exact u_X11_isKnowing_30 hS hR h

theorem u_X2_depth_105 {F P : Nat} {S : xSt} (hS : xWF S) {Rg : Nat → Prop} (hR : xRC S Rg) {rec_9 : Nat → Nat → Int32 → Int32 → xDt → Option (Int32 × xDt)} (hrec_9 : ∀ {v0 : Nat} {v1 : Nat} {v2 : Int32} {v3 : Int32} {D : xDt} {r : Int32 × xDt}, xK S v0 2 → xK S v1 100 → Rg v1 → rec_9 v0 v1 v2 v3 D = some r → xfr Rg D r.2) {v0 : Nat} {v1 : Nat} {v2 : Int32} {v3 : Int32} {D : xDt} {r : Int32 × xDt} (k0 : xK S v0 2) (k1 : xK S v1 100) (r1 : Rg v1) (h : f_X2_depth_105 F P S rec_9 v0 v1 v2 v3 D = some r) : xfr Rg D r.2 := by
  unfold f_X2_depth_105 at h
  refine xlet_e h (fun v3_1 ev3_1 h => ?_)
  exact hrec_9 k0 k1 r1 h

theorem u_X2_depth_83 {F P : Nat} {S : xSt} (hS : xWF S) {Rg : Nat → Prop} (hR : xRC S Rg) {rec_9 : Nat → Nat → Int32 → Int32 → xDt → Option (Int32 × xDt)} (hrec_9 : ∀ {v0 : Nat} {v1 : Nat} {v2 : Int32} {v3 : Int32} {D : xDt} {r : Int32 × xDt}, xK S v0 2 → xK S v1 100 → Rg v1 → rec_9 v0 v1 v2 v3 D = some r → xfr Rg D r.2) {v0 : Nat} {v1 : Nat} {v2 : Int32} {v3 : Int32} {v4 : Int32} {D : xDt} {r : Int32 × xDt} (k0 : xK S v0 2) (k1 : xK S v1 100) (r1 : Rg v1) (h : f_X2_depth_83 F P S rec_9 v0 v1 v2 v3 v4 D = some r) : xfr Rg D r.2 := by
  unfold f_X2_depth_83 at h
  refine xbnd_e h (fun q1 e1 h => ?_)
  refine xfr_tr (U_X11_isKnowing hS hR e1) ?_
  refine xif_p h (fun c h => ?_) (fun c h => ?_)
  · skip
    exact u_X2_depth_105 hS hR hrec_9 k0 k1 r1 h
  · skip
    refine xif_p h (fun c h => ?_) (fun c h => ?_)
    · skip
      exact u_X2_depth_105 hS hR hrec_9 k0 k1 r1 h
    · skip
      refine xgrd_e h (fun g2 h => ?_)
      refine xgrd_e h (fun g3 h => ?_)
      refine xlet_e h (fun D4 eD4 h => ?_)
      refine xfr_i r1 eD4 ?_
      exact u_X2_depth_105 hS hR hrec_9 k0 k1 r1 h

theorem u_X2_depth_48 {F P : Nat} {S : xSt} (hS : xWF S) {Rg : Nat → Prop} (hR : xRC S Rg) {rec_9 : Nat → Nat → Int32 → Int32 → xDt → Option (Int32 × xDt)} (hrec_9 : ∀ {v0 : Nat} {v1 : Nat} {v2 : Int32} {v3 : Int32} {D : xDt} {r : Int32 × xDt}, xK S v0 2 → xK S v1 100 → Rg v1 → rec_9 v0 v1 v2 v3 D = some r → xfr Rg D r.2) {v0 : Nat} {v1 : Nat} {v2 : Int32} {v3 : Int32} {v4 : Int32} {D : xDt} {r : Int32 × xDt} (k0 : xK S v0 2) (k1 : xK S v1 100) (r1 : Rg v1) (h : f_X2_depth_48 F P S rec_9 v0 v1 v2 v3 v4 D = some r) : xfr Rg D r.2 := by
  unfold f_X2_depth_48 at h
  refine xbnd_e h (fun q1 e1 h => ?_)
  refine xfr_tr (U_X11_hasTwoParts hS hR e1) ?_
  refine xif_p h (fun c h => ?_) (fun c h => ?_)
  · skip
    exact u_X2_depth_83 hS hR hrec_9 k0 k1 r1 h
  · skip
    refine xif_p h (fun c h => ?_) (fun c h => ?_)
    · skip
      exact u_X2_depth_83 hS hR hrec_9 k0 k1 r1 h
    · skip
      refine xlet_e h (fun v2_2 ev2_2 h => ?_)
      refine xgrd_e h (fun g3 h => ?_)
      refine xgrd_e h (fun g4 h => ?_)
      refine xgrd_e h (fun g5 h => ?_)
      refine xlet_e h (fun D6 eD6 h => ?_)
      refine xfr_i r1 eD6 ?_
      exact u_X2_depth_105 hS hR hrec_9 k0 k1 r1 h

theorem u_X2_depth_9s {F P : Nat} {S : xSt} (hS : xWF S) {Rg : Nat → Prop} (hR : xRC S Rg) {rec_9 : Nat → Nat → Int32 → Int32 → xDt → Option (Int32 × xDt)} (hrec_9 : ∀ {v0 : Nat} {v1 : Nat} {v2 : Int32} {v3 : Int32} {D : xDt} {r : Int32 × xDt}, xK S v0 2 → xK S v1 100 → Rg v1 → rec_9 v0 v1 v2 v3 D = some r → xfr Rg D r.2) {v0 : Nat} {v1 : Nat} {v2 : Int32} {v3 : Int32} {D : xDt} {r : Int32 × xDt} (k0 : xK S v0 2) (k1 : xK S v1 100) (r1 : Rg v1) (h : f_X2_depth_9s F P S rec_9 v0 v1 v2 v3 D = some r) : xfr Rg D r.2 := by
  unfold f_X2_depth_9s at h
  refine xif_p h (fun c h => ?_) (fun c h => ?_)
  · skip
    refine xif_p h (fun c h => ?_) (fun c h => ?_)
    · skip
      obtain rfl := Option.some.inj h
      exact xfr_rf
    · skip
      refine xgrd_e h (fun g1 h => ?_)
      obtain rfl := Option.some.inj h
      exact xfr_rf
  · skip
    refine xgrd_e h (fun g2 h => ?_)
    refine xbnd_e h (fun q3 e3 h => ?_)
    refine xfr_tr (U_X11_signOf hS hR e3) ?_
    refine xbnd_e h (fun q4 e4 h => ?_)
    refine xfr_tr (U_X11_isLeaf hS hR e4) ?_
    refine xif_p h (fun c h => ?_) (fun c h => ?_)
    · skip
      exact u_X2_depth_48 hS hR hrec_9 k0 k1 r1 h
    · skip
      refine xif_p h (fun c h => ?_) (fun c h => ?_)
      · skip
        exact u_X2_depth_48 hS hR hrec_9 k0 k1 r1 h
      · skip
        refine xlet_e h (fun v2_5 ev2_5 h => ?_)
        refine xgrd_e h (fun g6 h => ?_)
        refine xlet_e h (fun D7 eD7 h => ?_)
        refine xfr_i r1 eD7 ?_
        exact u_X2_depth_105 hS hR hrec_9 k0 k1 r1 h
theorem u_X2_depth_9 {F P : Nat} {S : xSt} (hS : xWF S) {Rg : Nat → Prop} (hR : xRC S Rg) : ∀ (n : Nat) {v0 : Nat} {v1 : Nat} {v2 : Int32} {v3 : Int32} {D : xDt} {r : Int32 × xDt}, xK S v0 2 → xK S v1 100 → Rg v1 → f_X2_depth_9 F P S n v0 v1 v2 v3 D = some r → xfr Rg D r.2 := by
  intro n
  induction n with
  | zero => intros; rename_i h; cases h
  | succ n ih =>
    intro v0 v1 v2 v3 D r k0 k1 r1 h
    exact u_X2_depth_9s hS hR (fun k0 k1 r1 h => ih k0 k1 r1 h) k0 k1 r1 h

theorem U_X2_depth {F P : Nat} {S : xSt} (hS : xWF S) {Rg : Nat → Prop} (hR : xRC S Rg) {v0 : Nat} {v1 : Nat} {D : xDt} {r : Int32 × xDt} (k0 : xK S v0 2) (k1 : xK S v1 100) (r1 : Rg v1) (h : f_X2_depth F P S v0 v1 D = some r) : xfr Rg D r.2 := by
  unfold f_X2_depth at h
  refine xlet_e h (fun v3_1 ev3_1 h => ?_)
  exact u_X2_depth_9 hS hR F k0 k1 r1 h

theorem u_X10_atomsOf_4s {F P : Nat} {S : xSt} (hS : xWF S) {Rg : Nat → Prop} (hR : xRC S Rg) {rec_4 : Nat → Int32 → Int32 → Int32 → xDt → Option (Int32 × xDt)} (hrec_4 : ∀ {v0 : Nat} {v1 : Int32} {v2 : Int32} {v3 : Int32} {D : xDt} {r : Int32 × xDt}, xK S v0 10 → rec_4 v0 v1 v2 v3 D = some r → xfr Rg D r.2) {v0 : Nat} {v1 : Int32} {v2 : Int32} {v3 : Int32} {D : xDt} {r : Int32 × xDt} (k0 : xK S v0 10) (h : f_X10_atomsOf_4s F P S rec_4 v0 v1 v2 v3 D = some r) : xfr Rg D r.2 := by
  unfold f_X10_atomsOf_4s at h
  refine xif_p h (fun c h => ?_) (fun c h => ?_)
  · skip
    obtain rfl := Option.some.inj h
    exact xfr_rf
  · skip
    refine xgrd_e h (fun g1 h => ?_)
    refine xlet_e h (fun v2_2 ev2_2 h => ?_)
    refine xlet_e h (fun v3_3 ev3_3 h => ?_)
    exact hrec_4 k0 h
theorem u_X10_atomsOf_4 {F P : Nat} {S : xSt} (hS : xWF S) {Rg : Nat → Prop} (hR : xRC S Rg) : ∀ (n : Nat) {v0 : Nat} {v1 : Int32} {v2 : Int32} {v3 : Int32} {D : xDt} {r : Int32 × xDt}, xK S v0 10 → f_X10_atomsOf_4 F P S n v0 v1 v2 v3 D = some r → xfr Rg D r.2 := by
  intro n
  induction n with
  | zero => intros; rename_i h; cases h
  | succ n ih =>
    intro v0 v1 v2 v3 D r k0 h
    exact u_X10_atomsOf_4s hS hR (fun k0 h => ih k0 h) k0 h

theorem U_X10_atomsOf {F P : Nat} {S : xSt} (hS : xWF S) {Rg : Nat → Prop} (hR : xRC S Rg) {v0 : Nat} {v1 : Int32} {D : xDt} {r : Int32 × xDt} (k0 : xK S v0 10) (h : f_X10_atomsOf F P S v0 v1 D = some r) : xfr Rg D r.2 := by
  unfold f_X10_atomsOf at h
  exact u_X10_atomsOf_4 hS hR F k0 h

theorem u_X4_start_66 {F P : Nat} {S : xSt} (hS : xWF S) {Rg : Nat → Prop} (hR : xRC S Rg) {rec_2 : Nat → Nat → Int32 → xDt → Option (xDt)} (hrec_2 : ∀ {v0 : Nat} {v1 : Nat} {v2 : Int32} {D : xDt} {r : xDt}, xK S v0 4 → xK S v1 10 → Rg v0 → rec_2 v0 v1 v2 D = some r → xfr Rg D r) {v0 : Nat} {v1 : Nat} {v2 : Int32} {D : xDt} {r : xDt} (k0 : xK S v0 4) (k1 : xK S v1 10) (r0 : Rg v0) (h : f_X4_start_66 F P S rec_2 v0 v1 v2 D = some r) : xfr Rg D r := by
  unfold f_X4_start_66 at h
  refine xlet_e h (fun v2_1 ev2_1 h => ?_)
  exact hrec_2 k0 k1 r0 h

theorem u_X4_start_30s {F P : Nat} {S : xSt} (hS : xWF S) {Rg : Nat → Prop} (hR : xRC S Rg) {rec_2 : Nat → Nat → Int32 → xDt → Option (xDt)} (hrec_2 : ∀ {v0 : Nat} {v1 : Nat} {v2 : Int32} {D : xDt} {r : xDt}, xK S v0 4 → xK S v1 10 → Rg v0 → rec_2 v0 v1 v2 D = some r → xfr Rg D r) {rec_30 : Nat → Nat → Int32 → Int32 → xDt → Option (xDt)} (hrec_30 : ∀ {v0 : Nat} {v1 : Nat} {v2 : Int32} {v3 : Int32} {D : xDt} {r : xDt}, xK S v0 4 → xK S v1 10 → Rg v0 → rec_30 v0 v1 v2 v3 D = some r → xfr Rg D r) {v0 : Nat} {v1 : Nat} {v2 : Int32} {v3 : Int32} {D : xDt} {r : xDt} (k0 : xK S v0 4) (k1 : xK S v1 10) (r0 : Rg v0) (h : f_X4_start_30s F P S rec_2 rec_30 v0 v1 v2 v3 D = some r) : xfr Rg D r := by
  unfold f_X4_start_30s at h
  refine xif_p h (fun c h => ?_) (fun c h => ?_)
  · skip
    exact u_X4_start_66 hS hR hrec_2 k0 k1 r0 h
  · skip
    refine xgrd_e h (fun g1 h => ?_)
    refine xgrd_e h (fun g2 h => ?_)
    refine xif_n h (fun c h => ?_) (fun c h => ?_)
    · skip
      refine xlet_e h (fun v3_3 ev3_3 h => ?_)
      exact hrec_30 k0 k1 r0 h
    · skip
      refine xgrd_e h (fun g4 h => ?_)
      refine xlet_e h (fun D5 eD5 h => ?_)
      refine xfr_i (hR.1 k0 r0 0 100 rfl) eD5 ?_
      exact u_X4_start_66 hS hR hrec_2 k0 k1 r0 h
theorem u_X4_start_30 {F P : Nat} {S : xSt} (hS : xWF S) {Rg : Nat → Prop} (hR : xRC S Rg) {rec_2 : Nat → Nat → Int32 → xDt → Option (xDt)} (hrec_2 : ∀ {v0 : Nat} {v1 : Nat} {v2 : Int32} {D : xDt} {r : xDt}, xK S v0 4 → xK S v1 10 → Rg v0 → rec_2 v0 v1 v2 D = some r → xfr Rg D r) : ∀ (n : Nat) {v0 : Nat} {v1 : Nat} {v2 : Int32} {v3 : Int32} {D : xDt} {r : xDt}, xK S v0 4 → xK S v1 10 → Rg v0 → f_X4_start_30 F P S rec_2 n v0 v1 v2 v3 D = some r → xfr Rg D r := by
  intro n
  induction n with
  | zero => intros; rename_i h; cases h
  | succ n ih =>
    intro v0 v1 v2 v3 D r k0 k1 r0 h
    exact u_X4_start_30s hS hR hrec_2 (fun k0 k1 r0 h => ih k0 k1 r0 h) k0 k1 r0 h

theorem u_X4_start_2s {F P : Nat} {S : xSt} (hS : xWF S) {Rg : Nat → Prop} (hR : xRC S Rg) {rec_2 : Nat → Nat → Int32 → xDt → Option (xDt)} (hrec_2 : ∀ {v0 : Nat} {v1 : Nat} {v2 : Int32} {D : xDt} {r : xDt}, xK S v0 4 → xK S v1 10 → Rg v0 → rec_2 v0 v1 v2 D = some r → xfr Rg D r) {v0 : Nat} {v1 : Nat} {v2 : Int32} {D : xDt} {r : xDt} (k0 : xK S v0 4) (k1 : xK S v1 10) (r0 : Rg v0) (h : f_X4_start_2s F P S rec_2 v0 v1 v2 D = some r) : xfr Rg D r := by
  unfold f_X4_start_2s at h
  refine xif_p h (fun c h => ?_) (fun c h => ?_)
  · skip
    obtain rfl := Option.some.inj h
    exact xfr_rf
  · skip
    refine xbnd_e h (fun q1 e1 h => ?_)
    refine xfr_tr (U_X10_atomsOf hS hR k1 e1) ?_
    refine xgrd_e h (fun g2 h => ?_)
    refine xlet_e h (fun D3 eD3 h => ?_)
    refine xfr_i (hR.1 k0 r0 3 100 rfl) eD3 ?_
    refine xgrd_e h (fun g4 h => ?_)
    refine xlet_e h (fun D5 eD5 h => ?_)
    refine xfr_i (hR.1 k0 r0 0 100 rfl) eD5 ?_
    exact u_X4_start_30 hS hR hrec_2 F k0 k1 r0 h
theorem u_X4_start_2 {F P : Nat} {S : xSt} (hS : xWF S) {Rg : Nat → Prop} (hR : xRC S Rg) : ∀ (n : Nat) {v0 : Nat} {v1 : Nat} {v2 : Int32} {D : xDt} {r : xDt}, xK S v0 4 → xK S v1 10 → Rg v0 → f_X4_start_2 F P S n v0 v1 v2 D = some r → xfr Rg D r := by
  intro n
  induction n with
  | zero => intros; rename_i h; cases h
  | succ n ih =>
    intro v0 v1 v2 D r k0 k1 r0 h
    exact u_X4_start_2s hS hR (fun k0 k1 r0 h => ih k0 k1 r0 h) k0 k1 r0 h

theorem U_X4_start {F P : Nat} {S : xSt} (hS : xWF S) {Rg : Nat → Prop} (hR : xRC S Rg) {v0 : Nat} {v1 : Nat} {D : xDt} {r : xDt} (k0 : xK S v0 4) (k1 : xK S v1 10) (r0 : Rg v0) (h : f_X4_start F P S v0 v1 D = some r) : xfr Rg D r := by
  unfold f_X4_start at h
  exact u_X4_start_2 hS hR F k0 k1 r0 h

theorem U_X11_lowest {F P : Nat} {S : xSt} (hS : xWF S) {Rg : Nat → Prop} (hR : xRC S Rg) {v0 : Int64} {D : xDt} {r : Int32 × xDt} (h : f_X11_lowest F P S v0 D = some r) : xfr Rg D r.2 := by
  unfold f_X11_lowest at h
  refine xbnd_e h (fun q1 e1 h => ?_)
  refine xfr_tr (U_J13_bitCount_95d88 hS hR e1) ?_
  obtain rfl := Option.some.inj h
  exact xfr_rf

theorem u_X4_firstsIn_6s {F P : Nat} {S : xSt} (hS : xWF S) {Rg : Nat → Prop} (hR : xRC S Rg) {rec_6 : Nat → Int64 → Int32 → Int64 → Int32 → xDt → Option (Int64 × xDt)} (hrec_6 : ∀ {v0 : Nat} {v1 : Int64} {v3 : Int32} {v4 : Int64} {v6 : Int32} {D : xDt} {r : Int64 × xDt}, xK S v0 4 → rec_6 v0 v1 v3 v4 v6 D = some r → xfr Rg D r.2) {v0 : Nat} {v1 : Int64} {v3 : Int32} {v4 : Int64} {v6 : Int32} {D : xDt} {r : Int64 × xDt} (k0 : xK S v0 4) (h : f_X4_firstsIn_6s F P S rec_6 v0 v1 v3 v4 v6 D = some r) : xfr Rg D r.2 := by
  unfold f_X4_firstsIn_6s at h
  refine xif_p h (fun c h => ?_) (fun c h => ?_)
  · skip
    obtain rfl := Option.some.inj h
    exact xfr_rf
  · skip
    refine xgrd_e h (fun g1 h => ?_)
    refine xlet_e h (fun v4_2 ev4_2 h => ?_)
    refine xlet_e h (fun v6_3 ev6_3 h => ?_)
    exact hrec_6 k0 h
theorem u_X4_firstsIn_6 {F P : Nat} {S : xSt} (hS : xWF S) {Rg : Nat → Prop} (hR : xRC S Rg) : ∀ (n : Nat) {v0 : Nat} {v1 : Int64} {v3 : Int32} {v4 : Int64} {v6 : Int32} {D : xDt} {r : Int64 × xDt}, xK S v0 4 → f_X4_firstsIn_6 F P S n v0 v1 v3 v4 v6 D = some r → xfr Rg D r.2 := by
  intro n
  induction n with
  | zero => intros; rename_i h; cases h
  | succ n ih =>
    intro v0 v1 v3 v4 v6 D r k0 h
    exact u_X4_firstsIn_6s hS hR (fun k0 h => ih k0 h) k0 h

theorem U_X4_firstsIn {F P : Nat} {S : xSt} (hS : xWF S) {Rg : Nat → Prop} (hR : xRC S Rg) {v0 : Nat} {v1 : Int64} {v3 : Int32} {D : xDt} {r : Int64 × xDt} (k0 : xK S v0 4) (h : f_X4_firstsIn F P S v0 v1 v3 D = some r) : xfr Rg D r.2 := by
  unfold f_X4_firstsIn at h
  exact u_X4_firstsIn_6 hS hR F k0 h

theorem u_X4_look_75 {F P : Nat} {S : xSt} (hS : xWF S) {Rg : Nat → Prop} (hR : xRC S Rg) {rec_2 : Nat → Nat → Int32 → xDt → Option (xDt)} (hrec_2 : ∀ {v0 : Nat} {v1 : Nat} {v2 : Int32} {D : xDt} {r : xDt}, xK S v0 4 → xK S v1 10 → Rg v0 → rec_2 v0 v1 v2 D = some r → xfr Rg D r) {rec_9 : Nat → Nat → Int32 → Int32 → xDt → Option (xDt)} (hrec_9 : ∀ {v0 : Nat} {v1 : Nat} {v2 : Int32} {v3 : Int32} {D : xDt} {r : xDt}, xK S v0 4 → xK S v1 10 → Rg v0 → rec_9 v0 v1 v2 v3 D = some r → xfr Rg D r) {v0 : Nat} {v1 : Nat} {v2 : Int32} {v3 : Int32} {s0 : Int64} {s1 : Int32} {s2 : Nat} {D : xDt} {r : xDt} (k0 : xK S v0 4) (k1 : xK S v1 10) (ks2 : xK S s2 101) (r0 : Rg v0) (rs2 : Rg s2) (h : f_X4_look_75 F P S rec_2 rec_9 v0 v1 v2 v3 s0 s1 s2 D = some r) : xfr Rg D r := by
  unfold f_X4_look_75 at h
  refine xgrd_e h (fun g1 h => ?_)
  refine xlet_e h (fun D2 eD2 h => ?_)
  refine xfr_l rs2 eD2 ?_
  refine xlet_e h (fun v3_3 ev3_3 h => ?_)
  exact hrec_9 k0 k1 r0 h

theorem u_X4_look_9s {F P : Nat} {S : xSt} (hS : xWF S) {Rg : Nat → Prop} (hR : xRC S Rg) {rec_2 : Nat → Nat → Int32 → xDt → Option (xDt)} (hrec_2 : ∀ {v0 : Nat} {v1 : Nat} {v2 : Int32} {D : xDt} {r : xDt}, xK S v0 4 → xK S v1 10 → Rg v0 → rec_2 v0 v1 v2 D = some r → xfr Rg D r) {rec_9 : Nat → Nat → Int32 → Int32 → xDt → Option (xDt)} (hrec_9 : ∀ {v0 : Nat} {v1 : Nat} {v2 : Int32} {v3 : Int32} {D : xDt} {r : xDt}, xK S v0 4 → xK S v1 10 → Rg v0 → rec_9 v0 v1 v2 v3 D = some r → xfr Rg D r) {v0 : Nat} {v1 : Nat} {v2 : Int32} {v3 : Int32} {D : xDt} {r : xDt} (k0 : xK S v0 4) (k1 : xK S v1 10) (r0 : Rg v0) (h : f_X4_look_9s F P S rec_2 rec_9 v0 v1 v2 v3 D = some r) : xfr Rg D r := by
  unfold f_X4_look_9s at h
  refine xif_p h (fun c h => ?_) (fun c h => ?_)
  · skip
    refine xlet_e h (fun v2_1 ev2_1 h => ?_)
    exact hrec_2 k0 k1 r0 h
  · skip
    refine xbnd_e h (fun q2 e2 h => ?_)
    refine xfr_tr (U_X10_cell hS hR k1 e2) ?_
    refine xbnd_e h (fun q3 e3 h => ?_)
    refine xfr_tr (U_X11_lowest hS hR e3) ?_
    refine xlet_e h (fun v7_4 ev7_4 h => ?_)
    refine xif_p h (fun c h => ?_) (fun c h => ?_)
    · skip
      refine xbnd_e h (fun q5 e5 h => ?_)
      refine xfr_tr (U_X4_firstsIn hS hR k0 e5) ?_
      exact u_X4_look_75 hS hR hrec_2 hrec_9 k0 k1 ((hS.f k0 1 101 rfl).2) r0 (hR.1 k0 r0 1 101 rfl) h
    · skip
      refine xgrd_e h (fun g6 h => ?_)
      exact u_X4_look_75 hS hR hrec_2 hrec_9 k0 k1 ((hS.f k0 1 101 rfl).2) r0 (hR.1 k0 r0 1 101 rfl) h
theorem u_X4_look_9 {F P : Nat} {S : xSt} (hS : xWF S) {Rg : Nat → Prop} (hR : xRC S Rg) {rec_2 : Nat → Nat → Int32 → xDt → Option (xDt)} (hrec_2 : ∀ {v0 : Nat} {v1 : Nat} {v2 : Int32} {D : xDt} {r : xDt}, xK S v0 4 → xK S v1 10 → Rg v0 → rec_2 v0 v1 v2 D = some r → xfr Rg D r) : ∀ (n : Nat) {v0 : Nat} {v1 : Nat} {v2 : Int32} {v3 : Int32} {D : xDt} {r : xDt}, xK S v0 4 → xK S v1 10 → Rg v0 → f_X4_look_9 F P S rec_2 n v0 v1 v2 v3 D = some r → xfr Rg D r := by
  intro n
  induction n with
  | zero => intros; rename_i h; cases h
  | succ n ih =>
    intro v0 v1 v2 v3 D r k0 k1 r0 h
    exact u_X4_look_9s hS hR hrec_2 (fun k0 k1 r0 h => ih k0 k1 r0 h) k0 k1 r0 h

theorem u_X4_look_2s {F P : Nat} {S : xSt} (hS : xWF S) {Rg : Nat → Prop} (hR : xRC S Rg) {rec_2 : Nat → Nat → Int32 → xDt → Option (xDt)} (hrec_2 : ∀ {v0 : Nat} {v1 : Nat} {v2 : Int32} {D : xDt} {r : xDt}, xK S v0 4 → xK S v1 10 → Rg v0 → rec_2 v0 v1 v2 D = some r → xfr Rg D r) {v0 : Nat} {v1 : Nat} {v2 : Int32} {D : xDt} {r : xDt} (k0 : xK S v0 4) (k1 : xK S v1 10) (r0 : Rg v0) (h : f_X4_look_2s F P S rec_2 v0 v1 v2 D = some r) : xfr Rg D r := by
  unfold f_X4_look_2s at h
  refine xif_p h (fun c h => ?_) (fun c h => ?_)
  · skip
    obtain rfl := Option.some.inj h
    exact xfr_rf
  · skip
    exact u_X4_look_9 hS hR hrec_2 F k0 k1 r0 h
theorem u_X4_look_2 {F P : Nat} {S : xSt} (hS : xWF S) {Rg : Nat → Prop} (hR : xRC S Rg) : ∀ (n : Nat) {v0 : Nat} {v1 : Nat} {v2 : Int32} {D : xDt} {r : xDt}, xK S v0 4 → xK S v1 10 → Rg v0 → f_X4_look_2 F P S n v0 v1 v2 D = some r → xfr Rg D r := by
  intro n
  induction n with
  | zero => intros; rename_i h; cases h
  | succ n ih =>
    intro v0 v1 v2 D r k0 k1 r0 h
    exact u_X4_look_2s hS hR (fun k0 k1 r0 h => ih k0 k1 r0 h) k0 k1 r0 h

theorem U_X4_look {F P : Nat} {S : xSt} (hS : xWF S) {Rg : Nat → Prop} (hR : xRC S Rg) {v0 : Nat} {v1 : Nat} {D : xDt} {r : xDt} (k0 : xK S v0 4) (k1 : xK S v1 10) (r0 : Rg v0) (h : f_X4_look F P S v0 v1 D = some r) : xfr Rg D r := by
  unfold f_X4_look at h
  exact u_X4_look_2 hS hR F k0 k1 r0 h

theorem u_X4_seeSame_2s {F P : Nat} {S : xSt} (hS : xWF S) {Rg : Nat → Prop} (hR : xRC S Rg) {rec_2 : Nat → Int32 → Int32 → Int32 → xDt → Option (Int32 × xDt)} (hrec_2 : ∀ {v0 : Nat} {v1 : Int32} {v2 : Int32} {v3 : Int32} {D : xDt} {r : Int32 × xDt}, xK S v0 4 → rec_2 v0 v1 v2 v3 D = some r → xfr Rg D r.2) {v0 : Nat} {v1 : Int32} {v2 : Int32} {v3 : Int32} {D : xDt} {r : Int32 × xDt} (k0 : xK S v0 4) (h : f_X4_seeSame_2s F P S rec_2 v0 v1 v2 v3 D = some r) : xfr Rg D r.2 := by
  unfold f_X4_seeSame_2s at h
  refine xif_p h (fun c h => ?_) (fun c h => ?_)
  · skip
    obtain rfl := Option.some.inj h
    exact xfr_rf
  · skip
    refine xgrd_e h (fun g1 h => ?_)
    refine xgrd_e h (fun g2 h => ?_)
    refine xif_p h (fun c h => ?_) (fun c h => ?_)
    · skip
      refine xlet_e h (fun v3_3 ev3_3 h => ?_)
      exact hrec_2 k0 h
    · skip
      obtain rfl := Option.some.inj h
      exact xfr_rf
theorem u_X4_seeSame_2 {F P : Nat} {S : xSt} (hS : xWF S) {Rg : Nat → Prop} (hR : xRC S Rg) : ∀ (n : Nat) {v0 : Nat} {v1 : Int32} {v2 : Int32} {v3 : Int32} {D : xDt} {r : Int32 × xDt}, xK S v0 4 → f_X4_seeSame_2 F P S n v0 v1 v2 v3 D = some r → xfr Rg D r.2 := by
  intro n
  induction n with
  | zero => intros; rename_i h; cases h
  | succ n ih =>
    intro v0 v1 v2 v3 D r k0 h
    exact u_X4_seeSame_2s hS hR (fun k0 h => ih k0 h) k0 h

theorem U_X4_seeSame {F P : Nat} {S : xSt} (hS : xWF S) {Rg : Nat → Prop} (hR : xRC S Rg) {v0 : Nat} {v1 : Int32} {v2 : Int32} {D : xDt} {r : Int32 × xDt} (k0 : xK S v0 4) (h : f_X4_seeSame F P S v0 v1 v2 D = some r) : xfr Rg D r.2 := by
  unfold f_X4_seeSame at h
  exact u_X4_seeSame_2 hS hR F k0 h

theorem u_X4_refine_75 {F P : Nat} {S : xSt} (hS : xWF S) {Rg : Nat → Prop} (hR : xRC S Rg) {rec_9 : Nat → Nat → Int32 → Int32 → xDt → Option (Int32 × xDt)} (hrec_9 : ∀ {v0 : Nat} {v1 : Nat} {v2 : Int32} {v3 : Int32} {D : xDt} {r : Int32 × xDt}, xK S v0 4 → xK S v1 10 → Rg v0 → rec_9 v0 v1 v2 v3 D = some r → xfr Rg D r.2) {rec_32 : Nat → Nat → Int32 → Int32 → Int32 → xDt → Option (Int32 × xDt)} (hrec_32 : ∀ {v0 : Nat} {v1 : Nat} {v2 : Int32} {v3 : Int32} {v4 : Int32} {D : xDt} {r : Int32 × xDt}, xK S v0 4 → xK S v1 10 → Rg v0 → rec_32 v0 v1 v2 v3 v4 D = some r → xfr Rg D r.2) {v0 : Nat} {v1 : Nat} {v2 : Int32} {v3 : Int32} {v4 : Int32} {D : xDt} {r : Int32 × xDt} (k0 : xK S v0 4) (k1 : xK S v1 10) (r0 : Rg v0) (h : f_X4_refine_75 F P S rec_9 rec_32 v0 v1 v2 v3 v4 D = some r) : xfr Rg D r.2 := by
  unfold f_X4_refine_75 at h
  refine xlet_e h (fun v4_1 ev4_1 h => ?_)
  exact hrec_32 k0 k1 r0 h

theorem u_X4_refine_105 {F P : Nat} {S : xSt} (hS : xWF S) {Rg : Nat → Prop} (hR : xRC S Rg) {rec_9 : Nat → Nat → Int32 → Int32 → xDt → Option (Int32 × xDt)} (hrec_9 : ∀ {v0 : Nat} {v1 : Nat} {v2 : Int32} {v3 : Int32} {D : xDt} {r : Int32 × xDt}, xK S v0 4 → xK S v1 10 → Rg v0 → rec_9 v0 v1 v2 v3 D = some r → xfr Rg D r.2) {v0 : Nat} {v1 : Nat} {v3 : Int32} {s0 : Int32} {D : xDt} {r : Int32 × xDt} (k0 : xK S v0 4) (k1 : xK S v1 10) (r0 : Rg v0) (h : f_X4_refine_105 F P S rec_9 v0 v1 v3 s0 D = some r) : xfr Rg D r.2 := by
  unfold f_X4_refine_105 at h
  refine xlet_e h (fun v3_1 ev3_1 h => ?_)
  exact hrec_9 k0 k1 r0 h

theorem u_X4_refine_100 {F P : Nat} {S : xSt} (hS : xWF S) {Rg : Nat → Prop} (hR : xRC S Rg) {rec_9 : Nat → Nat → Int32 → Int32 → xDt → Option (Int32 × xDt)} (hrec_9 : ∀ {v0 : Nat} {v1 : Nat} {v2 : Int32} {v3 : Int32} {D : xDt} {r : Int32 × xDt}, xK S v0 4 → xK S v1 10 → Rg v0 → rec_9 v0 v1 v2 v3 D = some r → xfr Rg D r.2) {v0 : Nat} {v1 : Nat} {v3 : Int32} {D : xDt} {r : Int32 × xDt} (k0 : xK S v0 4) (k1 : xK S v1 10) (r0 : Rg v0) (h : f_X4_refine_100 F P S rec_9 v0 v1 v3 D = some r) : xfr Rg D r.2 := by
  unfold f_X4_refine_100 at h
  exact u_X4_refine_105 hS hR hrec_9 k0 k1 r0 h

theorem u_X4_refine_81 {F P : Nat} {S : xSt} (hS : xWF S) {Rg : Nat → Prop} (hR : xRC S Rg) {rec_9 : Nat → Nat → Int32 → Int32 → xDt → Option (Int32 × xDt)} (hrec_9 : ∀ {v0 : Nat} {v1 : Nat} {v2 : Int32} {v3 : Int32} {D : xDt} {r : Int32 × xDt}, xK S v0 4 → xK S v1 10 → Rg v0 → rec_9 v0 v1 v2 v3 D = some r → xfr Rg D r.2) {v0 : Nat} {v1 : Nat} {v2 : Int32} {v3 : Int32} {D : xDt} {r : Int32 × xDt} (k0 : xK S v0 4) (k1 : xK S v1 10) (r0 : Rg v0) (h : f_X4_refine_81 F P S rec_9 v0 v1 v2 v3 D = some r) : xfr Rg D r.2 := by
  unfold f_X4_refine_81 at h
  refine xif_n h (fun c h => ?_) (fun c h => ?_)
  · skip
    exact u_X4_refine_100 hS hR hrec_9 k0 k1 r0 h
  · skip
    refine xgrd_e h (fun g1 h => ?_)
    refine xgrd_e h (fun g2 h => ?_)
    refine xif_p h (fun c h => ?_) (fun c h => ?_)
    · skip
      exact u_X4_refine_105 hS hR hrec_9 k0 k1 r0 h
    · skip
      exact u_X4_refine_100 hS hR hrec_9 k0 k1 r0 h

theorem u_X4_refine_32s {F P : Nat} {S : xSt} (hS : xWF S) {Rg : Nat → Prop} (hR : xRC S Rg) {rec_9 : Nat → Nat → Int32 → Int32 → xDt → Option (Int32 × xDt)} (hrec_9 : ∀ {v0 : Nat} {v1 : Nat} {v2 : Int32} {v3 : Int32} {D : xDt} {r : Int32 × xDt}, xK S v0 4 → xK S v1 10 → Rg v0 → rec_9 v0 v1 v2 v3 D = some r → xfr Rg D r.2) {rec_32 : Nat → Nat → Int32 → Int32 → Int32 → xDt → Option (Int32 × xDt)} (hrec_32 : ∀ {v0 : Nat} {v1 : Nat} {v2 : Int32} {v3 : Int32} {v4 : Int32} {D : xDt} {r : Int32 × xDt}, xK S v0 4 → xK S v1 10 → Rg v0 → rec_32 v0 v1 v2 v3 v4 D = some r → xfr Rg D r.2) {v0 : Nat} {v1 : Nat} {v2 : Int32} {v3 : Int32} {v4 : Int32} {D : xDt} {r : Int32 × xDt} (k0 : xK S v0 4) (k1 : xK S v1 10) (r0 : Rg v0) (h : f_X4_refine_32s F P S rec_9 rec_32 v0 v1 v2 v3 v4 D = some r) : xfr Rg D r.2 := by
  unfold f_X4_refine_32s at h
  refine xif_p h (fun c h => ?_) (fun c h => ?_)
  · skip
    exact u_X4_refine_81 hS hR hrec_9 k0 k1 r0 h
  · skip
    refine xgrd_e h (fun g1 h => ?_)
    refine xgrd_e h (fun g2 h => ?_)
    refine xif_n h (fun c h => ?_) (fun c h => ?_)
    · skip
      exact u_X4_refine_75 hS hR hrec_9 hrec_32 k0 k1 r0 h
    · skip
      refine xbnd_e h (fun q3 e3 h => ?_)
      refine xfr_tr (U_X4_seeSame hS hR k0 e3) ?_
      refine xif_p h (fun c h => ?_) (fun c h => ?_)
      · skip
        exact u_X4_refine_75 hS hR hrec_9 hrec_32 k0 k1 r0 h
      · skip
        refine xgrd_e h (fun g4 h => ?_)
        refine xlet_e h (fun D5 eD5 h => ?_)
        refine xfr_i (hR.1 k0 r0 2 100 rfl) eD5 ?_
        exact u_X4_refine_81 hS hR hrec_9 k0 k1 r0 h
theorem u_X4_refine_32 {F P : Nat} {S : xSt} (hS : xWF S) {Rg : Nat → Prop} (hR : xRC S Rg) {rec_9 : Nat → Nat → Int32 → Int32 → xDt → Option (Int32 × xDt)} (hrec_9 : ∀ {v0 : Nat} {v1 : Nat} {v2 : Int32} {v3 : Int32} {D : xDt} {r : Int32 × xDt}, xK S v0 4 → xK S v1 10 → Rg v0 → rec_9 v0 v1 v2 v3 D = some r → xfr Rg D r.2) : ∀ (n : Nat) {v0 : Nat} {v1 : Nat} {v2 : Int32} {v3 : Int32} {v4 : Int32} {D : xDt} {r : Int32 × xDt}, xK S v0 4 → xK S v1 10 → Rg v0 → f_X4_refine_32 F P S rec_9 n v0 v1 v2 v3 v4 D = some r → xfr Rg D r.2 := by
  intro n
  induction n with
  | zero => intros; rename_i h; cases h
  | succ n ih =>
    intro v0 v1 v2 v3 v4 D r k0 k1 r0 h
    exact u_X4_refine_32s hS hR hrec_9 (fun k0 k1 r0 h => ih k0 k1 r0 h) k0 k1 r0 h

theorem u_X4_refine_9s {F P : Nat} {S : xSt} (hS : xWF S) {Rg : Nat → Prop} (hR : xRC S Rg) {rec_9 : Nat → Nat → Int32 → Int32 → xDt → Option (Int32 × xDt)} (hrec_9 : ∀ {v0 : Nat} {v1 : Nat} {v2 : Int32} {v3 : Int32} {D : xDt} {r : Int32 × xDt}, xK S v0 4 → xK S v1 10 → Rg v0 → rec_9 v0 v1 v2 v3 D = some r → xfr Rg D r.2) {v0 : Nat} {v1 : Nat} {v2 : Int32} {v3 : Int32} {D : xDt} {r : Int32 × xDt} (k0 : xK S v0 4) (k1 : xK S v1 10) (r0 : Rg v0) (h : f_X4_refine_9s F P S rec_9 v0 v1 v2 v3 D = some r) : xfr Rg D r.2 := by
  unfold f_X4_refine_9s at h
  refine xif_p h (fun c h => ?_) (fun c h => ?_)
  · skip
    refine xgrd_e h (fun g1 h => ?_)
    refine xlet_e h (fun D2 eD2 h => ?_)
    refine xfr_ci (hR.1 k0 r0 0 100 rfl) eD2 ?_
    refine xgrd_e h (fun g3 h => ?_)
    obtain rfl := Option.some.inj h
    exact xfr_rf
  · skip
    refine xgrd_e h (fun g4 h => ?_)
    refine xlet_e h (fun D5 eD5 h => ?_)
    refine xfr_i (hR.1 k0 r0 2 100 rfl) eD5 ?_
    refine xgrd_e h (fun g6 h => ?_)
    refine xlet_e h (fun v4_7 ev4_7 h => ?_)
    exact u_X4_refine_32 hS hR hrec_9 F k0 k1 r0 h
theorem u_X4_refine_9 {F P : Nat} {S : xSt} (hS : xWF S) {Rg : Nat → Prop} (hR : xRC S Rg) : ∀ (n : Nat) {v0 : Nat} {v1 : Nat} {v2 : Int32} {v3 : Int32} {D : xDt} {r : Int32 × xDt}, xK S v0 4 → xK S v1 10 → Rg v0 → f_X4_refine_9 F P S n v0 v1 v2 v3 D = some r → xfr Rg D r.2 := by
  intro n
  induction n with
  | zero => intros; rename_i h; cases h
  | succ n ih =>
    intro v0 v1 v2 v3 D r k0 k1 r0 h
    exact u_X4_refine_9s hS hR (fun k0 k1 r0 h => ih k0 k1 r0 h) k0 k1 r0 h

theorem U_X4_refine {F P : Nat} {S : xSt} (hS : xWF S) {Rg : Nat → Prop} (hR : xRC S Rg) {v0 : Nat} {v1 : Nat} {D : xDt} {r : Int32 × xDt} (k0 : xK S v0 4) (k1 : xK S v1 10) (r0 : Rg v0) (h : f_X4_refine F P S v0 v1 D = some r) : xfr Rg D r.2 := by
  unfold f_X4_refine at h
  refine xbnd_e h (fun q1 e1 h => ?_)
  refine xfr_tr (U_X4_look hS hR k0 k1 r0 e1) ?_
  exact u_X4_refine_9 hS hR F k0 k1 r0 h

theorem u_X4_difference_8s {F P : Nat} {S : xSt} (hS : xWF S) {Rg : Nat → Prop} (hR : xRC S Rg) {rec_8 : Nat → Nat → Int32 → Int32 → Int32 → xDt → Option (Int32 × xDt)} (hrec_8 : ∀ {v0 : Nat} {v1 : Nat} {v2 : Int32} {v3 : Int32} {v4 : Int32} {D : xDt} {r : Int32 × xDt}, xK S v0 4 → xK S v1 10 → Rg v0 → rec_8 v0 v1 v2 v3 v4 D = some r → xfr Rg D r.2) {v0 : Nat} {v1 : Nat} {v2 : Int32} {v3 : Int32} {v4 : Int32} {D : xDt} {r : Int32 × xDt} (k0 : xK S v0 4) (k1 : xK S v1 10) (r0 : Rg v0) (h : f_X4_difference_8s F P S rec_8 v0 v1 v2 v3 v4 D = some r) : xfr Rg D r.2 := by
  unfold f_X4_difference_8s at h
  refine xif_p h (fun c h => ?_) (fun c h => ?_)
  · skip
    obtain rfl := Option.some.inj h
    exact xfr_rf
  · skip
    refine xgrd_e h (fun g1 h => ?_)
    refine xgrd_e h (fun g2 h => ?_)
    refine xif_p h (fun c h => ?_) (fun c h => ?_)
    · skip
      refine xbnd_e h (fun q3 e3 h => ?_)
      refine xfr_tr (U_X4_refine hS hR k0 k1 r0 e3) ?_
      refine xif_n h (fun c h => ?_) (fun c h => ?_)
      · skip
        refine xlet_e h (fun v4_4 ev4_4 h => ?_)
        exact hrec_8 k0 k1 r0 h
      · skip
        obtain rfl := Option.some.inj h
        exact xfr_rf
    · skip
      obtain rfl := Option.some.inj h
      exact xfr_rf
theorem u_X4_difference_8 {F P : Nat} {S : xSt} (hS : xWF S) {Rg : Nat → Prop} (hR : xRC S Rg) : ∀ (n : Nat) {v0 : Nat} {v1 : Nat} {v2 : Int32} {v3 : Int32} {v4 : Int32} {D : xDt} {r : Int32 × xDt}, xK S v0 4 → xK S v1 10 → Rg v0 → f_X4_difference_8 F P S n v0 v1 v2 v3 v4 D = some r → xfr Rg D r.2 := by
  intro n
  induction n with
  | zero => intros; rename_i h; cases h
  | succ n ih =>
    intro v0 v1 v2 v3 v4 D r k0 k1 r0 h
    exact u_X4_difference_8s hS hR (fun k0 k1 r0 h => ih k0 k1 r0 h) k0 k1 r0 h

theorem U_X4_difference {F P : Nat} {S : xSt} (hS : xWF S) {Rg : Nat → Prop} (hR : xRC S Rg) {v0 : Nat} {v1 : Nat} {v2 : Int32} {v3 : Int32} {D : xDt} {r : Int32 × xDt} (k0 : xK S v0 4) (k1 : xK S v1 10) (r0 : Rg v0) (h : f_X4_difference F P S v0 v1 v2 v3 D = some r) : xfr Rg D r.2 := by
  unfold f_X4_difference at h
  refine xbnd_e h (fun q1 e1 h => ?_)
  refine xfr_tr (U_X4_start hS hR k0 k1 r0 e1) ?_
  exact u_X4_difference_8 hS hR F k0 k1 r0 h

theorem u_X4_settle_7s {F P : Nat} {S : xSt} (hS : xWF S) {Rg : Nat → Prop} (hR : xRC S Rg) {rec_7 : Nat → Nat → Int32 → xDt → Option (xDt)} (hrec_7 : ∀ {v0 : Nat} {v1 : Nat} {v2 : Int32} {D : xDt} {r : xDt}, xK S v0 4 → xK S v1 10 → Rg v0 → rec_7 v0 v1 v2 D = some r → xfr Rg D r) {v0 : Nat} {v1 : Nat} {v2 : Int32} {D : xDt} {r : xDt} (k0 : xK S v0 4) (k1 : xK S v1 10) (r0 : Rg v0) (h : f_X4_settle_7s F P S rec_7 v0 v1 v2 D = some r) : xfr Rg D r := by
  unfold f_X4_settle_7s at h
  refine xif_p h (fun c h => ?_) (fun c h => ?_)
  · skip
    obtain rfl := Option.some.inj h
    exact xfr_rf
  · skip
    refine xbnd_e h (fun q1 e1 h => ?_)
    refine xfr_tr (U_X4_refine hS hR k0 k1 r0 e1) ?_
    refine xif_n h (fun c h => ?_) (fun c h => ?_)
    · skip
      refine xlet_e h (fun v2_2 ev2_2 h => ?_)
      exact hrec_7 k0 k1 r0 h
    · skip
      obtain rfl := Option.some.inj h
      exact xfr_rf
theorem u_X4_settle_7 {F P : Nat} {S : xSt} (hS : xWF S) {Rg : Nat → Prop} (hR : xRC S Rg) : ∀ (n : Nat) {v0 : Nat} {v1 : Nat} {v2 : Int32} {D : xDt} {r : xDt}, xK S v0 4 → xK S v1 10 → Rg v0 → f_X4_settle_7 F P S n v0 v1 v2 D = some r → xfr Rg D r := by
  intro n
  induction n with
  | zero => intros; rename_i h; cases h
  | succ n ih =>
    intro v0 v1 v2 D r k0 k1 r0 h
    exact u_X4_settle_7s hS hR (fun k0 k1 r0 h => ih k0 k1 r0 h) k0 k1 r0 h

theorem U_X4_settle {F P : Nat} {S : xSt} (hS : xWF S) {Rg : Nat → Prop} (hR : xRC S Rg) {v0 : Nat} {v1 : Nat} {D : xDt} {r : xDt} (k0 : xK S v0 4) (k1 : xK S v1 10) (r0 : Rg v0) (h : f_X4_settle F P S v0 v1 D = some r) : xfr Rg D r := by
  unfold f_X4_settle at h
  refine xbnd_e h (fun q1 e1 h => ?_)
  refine xfr_tr (U_X4_start hS hR k0 k1 r0 e1) ?_
  exact u_X4_settle_7 hS hR F k0 k1 r0 h

theorem u_X4_firsts_5s {F P : Nat} {S : xSt} (hS : xWF S) {Rg : Nat → Prop} (hR : xRC S Rg) {rec_5 : Nat → Nat → Int64 → Int32 → xDt → Option (Int64 × xDt)} (hrec_5 : ∀ {v0 : Nat} {v1 : Nat} {v2 : Int64} {v4 : Int32} {D : xDt} {r : Int64 × xDt}, xK S v0 4 → xK S v1 10 → rec_5 v0 v1 v2 v4 D = some r → xfr Rg D r.2) {v0 : Nat} {v1 : Nat} {v2 : Int64} {v4 : Int32} {D : xDt} {r : Int64 × xDt} (k0 : xK S v0 4) (k1 : xK S v1 10) (h : f_X4_firsts_5s F P S rec_5 v0 v1 v2 v4 D = some r) : xfr Rg D r.2 := by
  unfold f_X4_firsts_5s at h
  refine xif_p h (fun c h => ?_) (fun c h => ?_)
  · skip
    obtain rfl := Option.some.inj h
    exact xfr_rf
  · skip
    refine xgrd_e h (fun g1 h => ?_)
    refine xlet_e h (fun v2_2 ev2_2 h => ?_)
    refine xlet_e h (fun v4_3 ev4_3 h => ?_)
    exact hrec_5 k0 k1 h
theorem u_X4_firsts_5 {F P : Nat} {S : xSt} (hS : xWF S) {Rg : Nat → Prop} (hR : xRC S Rg) : ∀ (n : Nat) {v0 : Nat} {v1 : Nat} {v2 : Int64} {v4 : Int32} {D : xDt} {r : Int64 × xDt}, xK S v0 4 → xK S v1 10 → f_X4_firsts_5 F P S n v0 v1 v2 v4 D = some r → xfr Rg D r.2 := by
  intro n
  induction n with
  | zero => intros; rename_i h; cases h
  | succ n ih =>
    intro v0 v1 v2 v4 D r k0 k1 h
    exact u_X4_firsts_5s hS hR (fun k0 k1 h => ih k0 k1 h) k0 k1 h

theorem U_X4_firsts {F P : Nat} {S : xSt} (hS : xWF S) {Rg : Nat → Prop} (hR : xRC S Rg) {v0 : Nat} {v1 : Nat} {D : xDt} {r : Int64 × xDt} (k0 : xK S v0 4) (k1 : xK S v1 10) (h : f_X4_firsts F P S v0 v1 D = some r) : xfr Rg D r.2 := by
  unfold f_X4_firsts at h
  exact u_X4_firsts_5 hS hR F k0 k1 h

theorem U_X10_copy {F P : Nat} {S : xSt} (hS : xWF S) {Rg : Nat → Prop} (hR : xRC S Rg) {v0 : Nat} {v1 : Nat} {D : xDt} {r : xDt} (k0 : xK S v0 10) (k1 : xK S v1 10) (r0 : Rg v0) (h : f_X10_copy F P S v0 v1 D = some r) : xfr Rg D r := by
  unfold f_X10_copy at h
  refine xlet_e h (fun D1 eD1 h => ?_)
  refine xfr_i r0 eD1 ?_
  refine xgrd_e h (fun g2 h => ?_)
  refine xlet_e h (fun D3 eD3 h => ?_)
  refine xfr_cl (hR.1 k0 r0 1 101 rfl) eD3 ?_
  refine xgrd_e h (fun g4 h => ?_)
  refine xlet_e h (fun D5 eD5 h => ?_)
  refine xfr_cl (hR.1 k0 r0 2 101 rfl) eD5 ?_
  obtain rfl := Option.some.inj h
  exact xfr_rf

theorem U_X5_keep {F P : Nat} {S : xSt} (hS : xWF S) {Rg : Nat → Prop} (hR : xRC S Rg) {v0 : Nat} {v1 : Nat} {D : xDt} {r : Nat × xDt} (k0 : xK S v0 5) (k1 : xK S v1 10) (r0 : Rg v0) (h : f_X5_keep F P S v0 v1 D = some r) : xfr Rg D r.2 ∧ Rg r.1 := by
  unfold f_X5_keep at h
  refine xgrd_e h (fun g h => ?_)
  refine xbnd_e h (fun q2 e2 h => ?_)
  have kr := (hS.f k0 0 210 rfl).2
  have rr := hR.1 k0 r0 0 210 rfl
  have kx : xK S (xr S (xr S v0 0) (D.1 v0 1).toNatClampNeg) 10 := (hS.e kr (by decide) (xin_lt g)).2
  have rx := hR.2 kr rr (by decide) (xin_lt g)
  have u := U_X10_copy hS hR kx k1 rx e2
  have fin : ∀ {s0 : Int32}, f_X5_keep_37 F P S v0 (xr S (xr S v0 0) (D.1 v0 1).toNatClampNeg) s0 v0 q2 = some r → xfr Rg D r.2 ∧ Rg r.1 := by
    intro s0 h
    unfold f_X5_keep_37 at h
    refine xlet_e h (fun D1 e1 h => ?_)
    refine xlet_e h (fun D2 e2 h => ?_)
    obtain rfl := Option.some.inj h
    exact ⟨xfr_tr u (xfr_i r0 e1 (xfr_i r0 e2 xfr_rf)), rx⟩
  exact xif_p h (fun _ h => fin h) (fun _ h => fin h)

theorem u_X5_restore_19 {F P : Nat} {S : xSt} (hS : xWF S) {Rg : Nat → Prop} (hR : xRC S Rg) {v0 : Nat} {v1 : Nat} {s0 : Int32} {s1 : Nat} {D : xDt} {r : xDt} (k0 : xK S v0 5) (k1 : xK S v1 10) (ks1 : xK S s1 5) (r0 : Rg v0) (r1 : Rg v1) (rs1 : Rg s1) (h : f_X5_restore_19 F P S v0 v1 s0 s1 D = some r) : xfr Rg D r := by
  unfold f_X5_restore_19 at h
  refine xlet_e h (fun D1 eD1 h => ?_)
  refine xfr_i rs1 eD1 ?_
  refine xlet_e h (fun D2 eD2 h => ?_)
  refine xfr_i r0 eD2 ?_
  refine xgrd_e h (fun g3 h => ?_)
  refine xbnd_e h (fun q4 e4 h => ?_)
  refine xfr_tr (U_X10_copy hS hR k1 ((hS.e ((hS.f k0 0 210 rfl).2) (by decide) (xin_lt g3)).2) r1 e4) ?_
  obtain rfl := Option.some.inj h
  exact xfr_rf

theorem U_X5_restore {F P : Nat} {S : xSt} (hS : xWF S) {Rg : Nat → Prop} (hR : xRC S Rg) {v0 : Nat} {v1 : Nat} {D : xDt} {r : xDt} (k0 : xK S v0 5) (k1 : xK S v1 10) (r0 : Rg v0) (r1 : Rg v1) (h : f_X5_restore F P S v0 v1 D = some r) : xfr Rg D r := by
  unfold f_X5_restore at h
  refine xif_p h (fun c h => ?_) (fun c h => ?_)
  · skip
    exact u_X5_restore_19 hS hR k0 k1 k0 r0 r1 r0 h
  · skip
    exact u_X5_restore_19 hS hR k0 k1 k0 r0 r1 r0 h

theorem u_X6_isSign_16 {F P : Nat} {S : xSt} (hS : xWF S) {Rg : Nat → Prop} (hR : xRC S Rg) {D : xDt} {r : Int32 × xDt} (h : f_X6_isSign_16 F P S D = some r) : xfr Rg D r.2 := by
  unfold f_X6_isSign_16 at h
  obtain rfl := Option.some.inj h
  exact xfr_rf

theorem U_X6_isSign {F P : Nat} {S : xSt} (hS : xWF S) {Rg : Nat → Prop} (hR : xRC S Rg) {v0 : Int32} {D : xDt} {r : Int32 × xDt} (h : f_X6_isSign F P S v0 D = some r) : xfr Rg D r.2 := by
  unfold f_X6_isSign at h
  refine xif_p h (fun c h => ?_) (fun c h => ?_)
  · skip
    exact u_X6_isSign_16 hS hR h
  · skip
    refine xif_p h (fun c h => ?_) (fun c h => ?_)
    · skip
      exact u_X6_isSign_16 hS hR h
    · skip
      obtain rfl := Option.some.inj h
      exact xfr_rf

theorem U_X6_collect {F P : Nat} {S : xSt} (hS : xWF S) {Rg : Nat → Prop} (hR : xRC S Rg) {v0 : Nat} {v1 : Int32} {D : xDt} {r : Int32 × xDt} (k0 : xK S v0 6) (r0 : Rg v0) (h : f_X6_collect F P S v0 v1 D = some r) : xfr Rg D r.2 := by
  unfold f_X6_collect at h
  refine xbnd_e h (fun q1 e1 h => ?_)
  refine xfr_tr (U_X6_isSign hS hR e1) ?_
  refine xif_p h (fun c h => ?_) (fun c h => ?_)
  · skip
    obtain rfl := Option.some.inj h
    exact xfr_rf
  · skip
    refine xif_p h (fun c h => ?_) (fun c h => ?_)
    · skip
      refine xlet_e h (fun D2 eD2 h => ?_)
      refine xfr_i r0 eD2 ?_
      refine xgrd_e h (fun g3 h => ?_)
      refine xlet_e h (fun D4 eD4 h => ?_)
      refine xfr_i (hR.1 k0 r0 0 102 rfl) eD4 ?_
      obtain rfl := Option.some.inj h
      exact xfr_rf
    · skip
      obtain rfl := Option.some.inj h
      exact xfr_rf

theorem u_X6_collectFour_44 {F P : Nat} {S : xSt} (hS : xWF S) {Rg : Nat → Prop} (hR : xRC S Rg) {rec_5 : Nat → Int32 → Int32 → Int32 → xDt → Option (Int32 × xDt)} (hrec_5 : ∀ {v0 : Nat} {v1 : Int32} {v2 : Int32} {v3 : Int32} {D : xDt} {r : Int32 × xDt}, xK S v0 6 → Rg v0 → rec_5 v0 v1 v2 v3 D = some r → xfr Rg D r.2) {v0 : Nat} {v1 : Int32} {v3 : Int32} {s0 : Int32} {s1 : Int32} {D : xDt} {r : Int32 × xDt} (k0 : xK S v0 6) (r0 : Rg v0) (h : f_X6_collectFour_44 F P S rec_5 v0 v1 v3 s0 s1 D = some r) : xfr Rg D r.2 := by
  unfold f_X6_collectFour_44 at h
  refine xlet_e h (fun v2_1 ev2_1 h => ?_)
  refine xlet_e h (fun v3_2 ev3_2 h => ?_)
  exact hrec_5 k0 r0 h

theorem u_X6_collectFour_33 {F P : Nat} {S : xSt} (hS : xWF S) {Rg : Nat → Prop} (hR : xRC S Rg) {rec_5 : Nat → Int32 → Int32 → Int32 → xDt → Option (Int32 × xDt)} (hrec_5 : ∀ {v0 : Nat} {v1 : Int32} {v2 : Int32} {v3 : Int32} {D : xDt} {r : Int32 × xDt}, xK S v0 6 → Rg v0 → rec_5 v0 v1 v2 v3 D = some r → xfr Rg D r.2) {v0 : Nat} {v1 : Int32} {v2 : Int32} {v3 : Int32} {v4 : Int32} {D : xDt} {r : Int32 × xDt} (k0 : xK S v0 6) (r0 : Rg v0) (h : f_X6_collectFour_33 F P S rec_5 v0 v1 v2 v3 v4 D = some r) : xfr Rg D r.2 := by
  unfold f_X6_collectFour_33 at h
  refine xif_p h (fun c h => ?_) (fun c h => ?_)
  · skip
    exact u_X6_collectFour_44 hS hR hrec_5 k0 r0 h
  · skip
    exact u_X6_collectFour_44 hS hR hrec_5 k0 r0 h

theorem u_X6_collectFour_94 {F P : Nat} {S : xSt} (hS : xWF S) {Rg : Nat → Prop} (hR : xRC S Rg) {rec_69 : Nat → Int32 → Int32 → xDt → Option (Int32 × xDt)} (hrec_69 : ∀ {v0 : Nat} {v1 : Int32} {v3 : Int32} {D : xDt} {r : Int32 × xDt}, xK S v0 6 → Rg v0 → rec_69 v0 v1 v3 D = some r → xfr Rg D r.2) {v0 : Nat} {v1 : Int32} {v3 : Int32} {D : xDt} {r : Int32 × xDt} (k0 : xK S v0 6) (r0 : Rg v0) (h : f_X6_collectFour_94 F P S rec_69 v0 v1 v3 D = some r) : xfr Rg D r.2 := by
  unfold f_X6_collectFour_94 at h
  refine xlet_e h (fun v3_1 ev3_1 h => ?_)
  exact hrec_69 k0 r0 h

theorem u_X6_collectFour_69s {F P : Nat} {S : xSt} (hS : xWF S) {Rg : Nat → Prop} (hR : xRC S Rg) {rec_69 : Nat → Int32 → Int32 → xDt → Option (Int32 × xDt)} (hrec_69 : ∀ {v0 : Nat} {v1 : Int32} {v3 : Int32} {D : xDt} {r : Int32 × xDt}, xK S v0 6 → Rg v0 → rec_69 v0 v1 v3 D = some r → xfr Rg D r.2) {v0 : Nat} {v1 : Int32} {v3 : Int32} {D : xDt} {r : Int32 × xDt} (k0 : xK S v0 6) (r0 : Rg v0) (h : f_X6_collectFour_69s F P S rec_69 v0 v1 v3 D = some r) : xfr Rg D r.2 := by
  unfold f_X6_collectFour_69s at h
  refine xif_p h (fun c h => ?_) (fun c h => ?_)
  · skip
    obtain rfl := Option.some.inj h
    exact xfr_rf
  · skip
    refine xlet_e h (fun v4_1 ev4_1 h => ?_)
    refine xif_p h (fun c h => ?_) (fun c h => ?_)
    · skip
      exact u_X6_collectFour_94 hS hR hrec_69 k0 r0 h
    · skip
      refine xbnd_e h (fun q2 e2 h => ?_)
      refine xfr_tr (U_X6_collect hS hR k0 r0 e2) ?_
      exact u_X6_collectFour_94 hS hR hrec_69 k0 r0 h
theorem u_X6_collectFour_69 {F P : Nat} {S : xSt} (hS : xWF S) {Rg : Nat → Prop} (hR : xRC S Rg) : ∀ (n : Nat) {v0 : Nat} {v1 : Int32} {v3 : Int32} {D : xDt} {r : Int32 × xDt}, xK S v0 6 → Rg v0 → f_X6_collectFour_69 F P S n v0 v1 v3 D = some r → xfr Rg D r.2 := by
  intro n
  induction n with
  | zero => intros; rename_i h; cases h
  | succ n ih =>
    intro v0 v1 v3 D r k0 r0 h
    exact u_X6_collectFour_69s hS hR (fun k0 r0 h => ih k0 r0 h) k0 r0 h

theorem u_X6_collectFour_5s {F P : Nat} {S : xSt} (hS : xWF S) {Rg : Nat → Prop} (hR : xRC S Rg) {rec_5 : Nat → Int32 → Int32 → Int32 → xDt → Option (Int32 × xDt)} (hrec_5 : ∀ {v0 : Nat} {v1 : Int32} {v2 : Int32} {v3 : Int32} {D : xDt} {r : Int32 × xDt}, xK S v0 6 → Rg v0 → rec_5 v0 v1 v2 v3 D = some r → xfr Rg D r.2) {v0 : Nat} {v1 : Int32} {v2 : Int32} {v3 : Int32} {D : xDt} {r : Int32 × xDt} (k0 : xK S v0 6) (r0 : Rg v0) (h : f_X6_collectFour_5s F P S rec_5 v0 v1 v2 v3 D = some r) : xfr Rg D r.2 := by
  unfold f_X6_collectFour_5s at h
  refine xif_p h (fun c h => ?_) (fun c h => ?_)
  · skip
    refine xif_p h (fun c h => ?_) (fun c h => ?_)
    · skip
      exact u_X6_collectFour_69 hS hR F k0 r0 h
    · skip
      obtain rfl := Option.some.inj h
      exact xfr_rf
  · skip
    refine xlet_e h (fun v4_1 ev4_1 h => ?_)
    refine xif_p h (fun c h => ?_) (fun c h => ?_)
    · skip
      exact u_X6_collectFour_33 hS hR hrec_5 k0 r0 h
    · skip
      refine xbnd_e h (fun q2 e2 h => ?_)
      refine xfr_tr (U_X6_isSign hS hR e2) ?_
      refine xif_n h (fun c h => ?_) (fun c h => ?_)
      · skip
        exact u_X6_collectFour_33 hS hR hrec_5 k0 r0 h
      · skip
        obtain rfl := Option.some.inj h
        exact xfr_rf
theorem u_X6_collectFour_5 {F P : Nat} {S : xSt} (hS : xWF S) {Rg : Nat → Prop} (hR : xRC S Rg) : ∀ (n : Nat) {v0 : Nat} {v1 : Int32} {v2 : Int32} {v3 : Int32} {D : xDt} {r : Int32 × xDt}, xK S v0 6 → Rg v0 → f_X6_collectFour_5 F P S n v0 v1 v2 v3 D = some r → xfr Rg D r.2 := by
  intro n
  induction n with
  | zero => intros; rename_i h; cases h
  | succ n ih =>
    intro v0 v1 v2 v3 D r k0 r0 h
    exact u_X6_collectFour_5s hS hR (fun k0 r0 h => ih k0 r0 h) k0 r0 h

theorem U_X6_collectFour {F P : Nat} {S : xSt} (hS : xWF S) {Rg : Nat → Prop} (hR : xRC S Rg) {v0 : Nat} {v1 : Int32} {D : xDt} {r : Int32 × xDt} (k0 : xK S v0 6) (r0 : Rg v0) (h : f_X6_collectFour F P S v0 v1 D = some r) : xfr Rg D r.2 := by
  unfold f_X6_collectFour at h
  exact u_X6_collectFour_5 hS hR F k0 r0 h

theorem U_X6_wantFirstOne {F P : Nat} {S : xSt} (hS : xWF S) {Rg : Nat → Prop} (hR : xRC S Rg) {v0 : Nat} {D : xDt} {r : xDt} (k0 : xK S v0 6) (r0 : Rg v0) (h : f_X6_wantFirstOne F P S v0 D = some r) : xfr Rg D r := by
  unfold f_X6_wantFirstOne at h
  refine xlet_e h (fun D1 eD1 h => ?_)
  refine xfr_i r0 eD1 ?_
  refine xlet_e h (fun D2 eD2 h => ?_)
  refine xfr_i r0 eD2 ?_
  obtain rfl := Option.some.inj h
  exact xfr_rf

theorem U_X6_enter {F P : Nat} {S : xSt} (hS : xWF S) {Rg : Nat → Prop} (hR : xRC S Rg) {v0 : Nat} {v1 : Int32} {D : xDt} {r : xDt} (k0 : xK S v0 6) (r0 : Rg v0) (h : f_X6_enter F P S v0 v1 D = some r) : xfr Rg D r := by
  unfold f_X6_enter at h
  refine xlet_e h (fun D1 eD1 h => ?_)
  refine xfr_i r0 eD1 ?_
  refine xgrd_e h (fun g2 h => ?_)
  refine xlet_e h (fun D3 eD3 h => ?_)
  refine xfr_i (hR.1 k0 r0 3 102 rfl) eD3 ?_
  refine xgrd_e h (fun g4 h => ?_)
  refine xlet_e h (fun D5 eD5 h => ?_)
  refine xfr_i (hR.1 k0 r0 7 100 rfl) eD5 ?_
  refine xgrd_e h (fun g6 h => ?_)
  refine xlet_e h (fun D7 eD7 h => ?_)
  refine xfr_i (hR.1 k0 r0 8 104 rfl) eD7 ?_
  refine xgrd_e h (fun g8 h => ?_)
  refine xlet_e h (fun D9 eD9 h => ?_)
  refine xfr_i (hR.1 k0 r0 4 100 rfl) eD9 ?_
  refine xgrd_e h (fun g10 h => ?_)
  refine xlet_e h (fun D11 eD11 h => ?_)
  refine xfr_i (hR.1 k0 r0 5 100 rfl) eD11 ?_
  refine xgrd_e h (fun g12 h => ?_)
  refine xlet_e h (fun D13 eD13 h => ?_)
  refine xfr_i (hR.1 k0 r0 6 100 rfl) eD13 ?_
  refine xbnd_e h (fun q14 e14 h => ?_)
  refine xfr_tr (U_X6_wantFirstOne hS hR k0 r0 e14) ?_
  obtain rfl := Option.some.inj h
  exact xfr_rf

theorem u_X6_toSign_5s {F P : Nat} {S : xSt} (hS : xWF S) {Rg : Nat → Prop} (hR : xRC S Rg) {rec_5 : Nat → xDt → Option (xDt)} (hrec_5 : ∀ {v0 : Nat} {D : xDt} {r : xDt}, xK S v0 6 → Rg v0 → rec_5 v0 D = some r → xfr Rg D r) {v0 : Nat} {D : xDt} {r : xDt} (k0 : xK S v0 6) (r0 : Rg v0) (h : f_X6_toSign_5s F P S rec_5 v0 D = some r) : xfr Rg D r := by
  unfold f_X6_toSign_5s at h
  refine xif_p h (fun c h => ?_) (fun c h => ?_)
  · skip
    obtain rfl := Option.some.inj h
    exact xfr_rf
  · skip
    refine xgrd_e h (fun g1 h => ?_)
    refine xif_n h (fun c h => ?_) (fun c h => ?_)
    · skip
      obtain rfl := Option.some.inj h
      exact xfr_rf
    · skip
      refine xlet_e h (fun D2 eD2 h => ?_)
      refine xfr_i r0 eD2 ?_
      exact hrec_5 k0 r0 h
theorem u_X6_toSign_5 {F P : Nat} {S : xSt} (hS : xWF S) {Rg : Nat → Prop} (hR : xRC S Rg) : ∀ (n : Nat) {v0 : Nat} {D : xDt} {r : xDt}, xK S v0 6 → Rg v0 → f_X6_toSign_5 F P S n v0 D = some r → xfr Rg D r := by
  intro n
  induction n with
  | zero => intros; rename_i h; cases h
  | succ n ih =>
    intro v0 D r k0 r0 h
    exact u_X6_toSign_5s hS hR (fun k0 r0 h => ih k0 r0 h) k0 r0 h

theorem U_X6_toSign {F P : Nat} {S : xSt} (hS : xWF S) {Rg : Nat → Prop} (hR : xRC S Rg) {v0 : Nat} {v1 : Int32} {D : xDt} {r : xDt} (k0 : xK S v0 6) (r0 : Rg v0) (h : f_X6_toSign F P S v0 v1 D = some r) : xfr Rg D r := by
  unfold f_X6_toSign at h
  refine xlet_e h (fun D1 eD1 h => ?_)
  refine xfr_i r0 eD1 ?_
  exact u_X6_toSign_5 hS hR F k0 r0 h

theorem u_X6_takeOpening_26 {F P : Nat} {S : xSt} (hS : xWF S) {Rg : Nat → Prop} (hR : xRC S Rg) {v0 : Nat} {v2 : Int32} {D : xDt} {r : Int32 × xDt} (k0 : xK S v0 6) (r0 : Rg v0) (h : f_X6_takeOpening_26 F P S v0 v2 D = some r) : xfr Rg D r.2 := by
  unfold f_X6_takeOpening_26 at h
  refine xbnd_e h (fun q1 e1 h => ?_)
  refine xfr_tr (U_X6_enter hS hR k0 r0 e1) ?_
  refine xbnd_e h (fun q2 e2 h => ?_)
  refine xfr_tr (U_X6_toSign hS hR k0 r0 e2) ?_
  obtain rfl := Option.some.inj h
  exact xfr_rf

theorem U_X6_takeOpening {F P : Nat} {S : xSt} (hS : xWF S) {Rg : Nat → Prop} (hR : xRC S Rg) {v0 : Nat} {v1 : Int32} {v2 : Int32} {D : xDt} {r : Int32 × xDt} (k0 : xK S v0 6) (r0 : Rg v0) (h : f_X6_takeOpening F P S v0 v1 v2 D = some r) : xfr Rg D r.2 := by
  unfold f_X6_takeOpening at h
  refine xif_p h (fun c h => ?_) (fun c h => ?_)
  · skip
    refine xif_p h (fun c h => ?_) (fun c h => ?_)
    · skip
      exact u_X6_takeOpening_26 hS hR k0 r0 h
    · skip
      refine xbnd_e h (fun q1 e1 h => ?_)
      refine xfr_tr (U_X2_add hS hR ((hS.f k0 2 2 rfl).2) (hR.1 k0 r0 2 2 rfl) e1) ?_
      exact u_X6_takeOpening_26 hS hR k0 r0 h
  · skip
    obtain rfl := Option.some.inj h
    exact xfr_rf

theorem u_X6_takeAgents_8s {F P : Nat} {S : xSt} (hS : xWF S) {Rg : Nat → Prop} (hR : xRC S Rg) {rec_8 : Nat → Int32 → Int32 → Int32 → Int32 → xDt → Option (Int32 × xDt)} (hrec_8 : ∀ {v0 : Nat} {v1 : Int32} {v2 : Int32} {v3 : Int32} {v4 : Int32} {D : xDt} {r : Int32 × xDt}, xK S v0 6 → Rg v0 → rec_8 v0 v1 v2 v3 v4 D = some r → xfr Rg D r.2) {v0 : Nat} {v1 : Int32} {v2 : Int32} {v3 : Int32} {v4 : Int32} {D : xDt} {r : Int32 × xDt} (k0 : xK S v0 6) (r0 : Rg v0) (h : f_X6_takeAgents_8s F P S rec_8 v0 v1 v2 v3 v4 D = some r) : xfr Rg D r.2 := by
  unfold f_X6_takeAgents_8s at h
  refine xif_p h (fun c h => ?_) (fun c h => ?_)
  · skip
    obtain rfl := Option.some.inj h
    exact xfr_rf
  · skip
    refine xif_p h (fun c h => ?_) (fun c h => ?_)
    · skip
      obtain rfl := Option.some.inj h
      exact xfr_rf
    · skip
      refine xgrd_e h (fun g1 h => ?_)
      refine xif_p h (fun c h => ?_) (fun c h => ?_)
      · skip
        obtain rfl := Option.some.inj h
        exact xfr_rf
      · skip
        refine xgrd_e h (fun g2 h => ?_)
        refine xif_p h (fun c h => ?_) (fun c h => ?_)
        · skip
          obtain rfl := Option.some.inj h
          exact xfr_rf
        · skip
          refine xgrd_e h (fun g3 h => ?_)
          refine xlet_e h (fun v3_4 ev3_4 h => ?_)
          refine xlet_e h (fun v2_5 ev2_5 h => ?_)
          refine xbnd_e h (fun q6 e6 h => ?_)
          refine xfr_tr (U_X6_toSign hS hR k0 r0 e6) ?_
          refine xlet_e h (fun v4_7 ev4_7 h => ?_)
          exact hrec_8 k0 r0 h
theorem u_X6_takeAgents_8 {F P : Nat} {S : xSt} (hS : xWF S) {Rg : Nat → Prop} (hR : xRC S Rg) : ∀ (n : Nat) {v0 : Nat} {v1 : Int32} {v2 : Int32} {v3 : Int32} {v4 : Int32} {D : xDt} {r : Int32 × xDt}, xK S v0 6 → Rg v0 → f_X6_takeAgents_8 F P S n v0 v1 v2 v3 v4 D = some r → xfr Rg D r.2 := by
  intro n
  induction n with
  | zero => intros; rename_i h; cases h
  | succ n ih =>
    intro v0 v1 v2 v3 v4 D r k0 r0 h
    exact u_X6_takeAgents_8s hS hR (fun k0 r0 h => ih k0 r0 h) k0 r0 h

theorem U_X6_takeAgents {F P : Nat} {S : xSt} (hS : xWF S) {Rg : Nat → Prop} (hR : xRC S Rg) {v0 : Nat} {v1 : Int32} {D : xDt} {r : Int32 × xDt} (k0 : xK S v0 6) (r0 : Rg v0) (h : f_X6_takeAgents F P S v0 v1 D = some r) : xfr Rg D r.2 := by
  unfold f_X6_takeAgents at h
  exact u_X6_takeAgents_8 hS hR F k0 r0 h

theorem u_X6_takeKnowing_28 {F P : Nat} {S : xSt} (hS : xWF S) {Rg : Nat → Prop} (hR : xRC S Rg) {v0 : Nat} {v1 : Int32} {s0 : Int32} {s1 : Nat} {D : xDt} {r : Int32 × xDt} (k0 : xK S v0 6) (ks1 : xK S s1 6) (r0 : Rg v0) (rs1 : Rg s1) (h : f_X6_takeKnowing_28 F P S v0 v1 s0 s1 D = some r) : xfr Rg D r.2 := by
  unfold f_X6_takeKnowing_28 at h
  refine xbnd_e h (fun q1 e1 h => ?_)
  refine xfr_tr (U_X6_takeAgents hS hR ks1 rs1 e1) ?_
  refine xif_n h (fun c h => ?_) (fun c h => ?_)
  · skip
    refine xbnd_e h (fun q2 e2 h => ?_)
    refine xfr_tr (U_X11_withAgents hS hR e2) ?_
    refine xbnd_e h (fun q3 e3 h => ?_)
    refine xfr_tr (U_X2_add hS hR ((hS.f k0 2 2 rfl).2) (hR.1 k0 r0 2 2 rfl) e3) ?_
    refine xlet_e h (fun D4 eD4 h => ?_)
    refine xfr_i r0 eD4 ?_
    obtain rfl := Option.some.inj h
    exact xfr_rf
  · skip
    obtain rfl := Option.some.inj h
    exact xfr_rf

theorem u_X6_takeKnowing_23 {F P : Nat} {S : xSt} (hS : xWF S) {Rg : Nat → Prop} (hR : xRC S Rg) {v0 : Nat} {v1 : Int32} {s0 : Nat} {D : xDt} {r : Int32 × xDt} (k0 : xK S v0 6) (ks0 : xK S s0 6) (r0 : Rg v0) (rs0 : Rg s0) (h : f_X6_takeKnowing_23 F P S v0 v1 s0 D = some r) : xfr Rg D r.2 := by
  unfold f_X6_takeKnowing_23 at h
  exact u_X6_takeKnowing_28 hS hR k0 ks0 r0 rs0 h

theorem U_X6_takeKnowing {F P : Nat} {S : xSt} (hS : xWF S) {Rg : Nat → Prop} (hR : xRC S Rg) {v0 : Nat} {v1 : Int32} {D : xDt} {r : Int32 × xDt} (k0 : xK S v0 6) (r0 : Rg v0) (h : f_X6_takeKnowing F P S v0 v1 D = some r) : xfr Rg D r.2 := by
  unfold f_X6_takeKnowing at h
  refine xbnd_e h (fun q1 e1 h => ?_)
  refine xfr_tr (U_X6_toSign hS hR k0 r0 e1) ?_
  refine xif_p h (fun c h => ?_) (fun c h => ?_)
  · skip
    exact u_X6_takeKnowing_23 hS hR k0 k0 r0 r0 h
  · skip
    refine xif_n h (fun c h => ?_) (fun c h => ?_)
    · skip
      exact u_X6_takeKnowing_28 hS hR k0 k0 r0 r0 h
    · skip
      exact u_X6_takeKnowing_23 hS hR k0 k0 r0 r0 h

theorem u_X6_takeOne_62 {F P : Nat} {S : xSt} (hS : xWF S) {Rg : Nat → Prop} (hR : xRC S Rg) {s0 : Int32} {s1 : Int32} {s2 : Nat} {D : xDt} {r : Int32 × xDt} (ks2 : xK S s2 6) (rs2 : Rg s2) (h : f_X6_takeOne_62 F P S s0 s1 s2 D = some r) : xfr Rg D r.2 := by
  unfold f_X6_takeOne_62 at h
  refine xbnd_e h (fun q1 e1 h => ?_)
  refine xfr_tr (U_X6_takeOpening hS hR ks2 rs2 e1) ?_
  refine xgrd_e h (fun g2 h => ?_)
  obtain rfl := Option.some.inj h
  exact xfr_rf

theorem u_X6_takeOne_115 {F P : Nat} {S : xSt} (hS : xWF S) {Rg : Nat → Prop} (hR : xRC S Rg) {v0 : Nat} {s0 : Int32} {s1 : Nat} {D : xDt} {r : Int32 × xDt} (k0 : xK S v0 6) (ks1 : xK S s1 6) (r0 : Rg v0) (rs1 : Rg s1) (h : f_X6_takeOne_115 F P S v0 s0 s1 D = some r) : xfr Rg D r.2 := by
  unfold f_X6_takeOne_115 at h
  refine xgrd_e h (fun g1 h => ?_)
  refine xlet_e h (fun D2 eD2 h => ?_)
  refine xfr_i rs1 eD2 ?_
  refine xlet_e h (fun D3 eD3 h => ?_)
  refine xfr_i r0 eD3 ?_
  refine xbnd_e h (fun q4 e4 h => ?_)
  refine xfr_tr (U_X6_toSign hS hR k0 r0 e4) ?_
  obtain rfl := Option.some.inj h
  exact xfr_rf

theorem u_X6_takeOne_94 {F P : Nat} {S : xSt} (hS : xWF S) {Rg : Nat → Prop} (hR : xRC S Rg) {v0 : Nat} {v1 : Int32} {D : xDt} {r : Int32 × xDt} (k0 : xK S v0 6) (r0 : Rg v0) (h : f_X6_takeOne_94 F P S v0 v1 D = some r) : xfr Rg D r.2 := by
  unfold f_X6_takeOne_94 at h
  refine xbnd_e h (fun q1 e1 h => ?_)
  refine xfr_tr (U_X2_add hS hR ((hS.f k0 2 2 rfl).2) (hR.1 k0 r0 2 2 rfl) e1) ?_
  refine xif_n h (fun c h => ?_) (fun c h => ?_)
  · skip
    exact u_X6_takeOne_115 hS hR k0 k0 r0 r0 h
  · skip
    exact u_X6_takeOne_115 hS hR k0 k0 r0 r0 h

theorem U_X6_takeOne {F P : Nat} {S : xSt} (hS : xWF S) {Rg : Nat → Prop} (hR : xRC S Rg) {v0 : Nat} {v1 : Int32} {D : xDt} {r : Int32 × xDt} (k0 : xK S v0 6) (r0 : Rg v0) (h : f_X6_takeOne F P S v0 v1 D = some r) : xfr Rg D r.2 := by
  unfold f_X6_takeOne at h
  refine xif_p h (fun c h => ?_) (fun c h => ?_)
  · skip
    refine xif_n h (fun c h => ?_) (fun c h => ?_)
    · skip
      refine xif_p h (fun c h => ?_) (fun c h => ?_)
      · skip
        refine xbnd_e h (fun q1 e1 h => ?_)
        refine xfr_tr (U_X11_isSaying hS hR e1) ?_
        refine xif_p h (fun c h => ?_) (fun c h => ?_)
        · skip
          refine xbnd_e h (fun q2 e2 h => ?_)
          refine xfr_tr (U_X11_isKnowing hS hR e2) ?_
          refine xif_p h (fun c h => ?_) (fun c h => ?_)
          · skip
            refine xif_p h (fun c h => ?_) (fun c h => ?_)
            · skip
              exact u_X6_takeOne_94 hS hR k0 r0 h
            · skip
              refine xbnd_e h (fun q3 e3 h => ?_)
              refine xfr_tr (U_X11_isLeaf hS hR e3) ?_
              refine xif_n h (fun c h => ?_) (fun c h => ?_)
              · skip
                exact u_X6_takeOne_94 hS hR k0 r0 h
              · skip
                obtain rfl := Option.some.inj h
                exact xfr_rf
          · skip
            refine xbnd_e h (fun q4 e4 h => ?_)
            refine xfr_tr (U_X6_takeKnowing hS hR k0 r0 e4) ?_
            refine xgrd_e h (fun g5 h => ?_)
            obtain rfl := Option.some.inj h
            exact xfr_rf
        · skip
          refine xif_n h (fun c h => ?_) (fun c h => ?_)
          · skip
            exact u_X6_takeOne_62 hS hR k0 r0 h
          · skip
            exact u_X6_takeOne_62 hS hR k0 r0 h
      · skip
        obtain rfl := Option.some.inj h
        exact xfr_rf
    · skip
      refine xbnd_e h (fun q6 e6 h => ?_)
      refine xfr_tr (U_X6_takeOpening hS hR k0 r0 e6) ?_
      refine xgrd_e h (fun g7 h => ?_)
      obtain rfl := Option.some.inj h
      exact xfr_rf
  · skip
    obtain rfl := Option.some.inj h
    exact xfr_rf

theorem u_X6_leave_21 {F P : Nat} {S : xSt} (hS : xWF S) {Rg : Nat → Prop} (hR : xRC S Rg) {v0 : Nat} {s0 : Int32} {s1 : Nat} {D : xDt} {r : Int32 × xDt} (k0 : xK S v0 6) (ks1 : xK S s1 6) (r0 : Rg v0) (rs1 : Rg s1) (h : f_X6_leave_21 F P S v0 s0 s1 D = some r) : xfr Rg D r.2 := by
  unfold f_X6_leave_21 at h
  refine xgrd_e h (fun g1 h => ?_)
  refine xlet_e h (fun D2 eD2 h => ?_)
  refine xfr_i rs1 eD2 ?_
  refine xgrd_e h (fun g3 h => ?_)
  refine xlet_e h (fun D4 eD4 h => ?_)
  refine xfr_i r0 eD4 ?_
  refine xlet_e h (fun D5 eD5 h => ?_)
  refine xfr_i r0 eD5 ?_
  obtain rfl := Option.some.inj h
  exact xfr_rf

theorem U_X6_leave {F P : Nat} {S : xSt} (hS : xWF S) {Rg : Nat → Prop} (hR : xRC S Rg) {v0 : Nat} {v1 : Int32} {D : xDt} {r : Int32 × xDt} (k0 : xK S v0 6) (r0 : Rg v0) (h : f_X6_leave F P S v0 v1 D = some r) : xfr Rg D r.2 := by
  unfold f_X6_leave at h
  refine xif_n h (fun c h => ?_) (fun c h => ?_)
  · skip
    refine xif_p h (fun c h => ?_) (fun c h => ?_)
    · skip
      exact u_X6_leave_21 hS hR k0 k0 r0 r0 h
    · skip
      exact u_X6_leave_21 hS hR k0 k0 r0 r0 h
  · skip
    obtain rfl := Option.some.inj h
    exact xfr_rf

theorem u_X6_takeJoin_192 {F P : Nat} {S : xSt} (hS : xWF S) {Rg : Nat → Prop} (hR : xRC S Rg) {v0 : Nat} {s0 : Int32} {s1 : Int32} {s2 : Nat} {D : xDt} {r : Int32 × xDt} (k0 : xK S v0 6) (ks2 : xK S s2 100) (r0 : Rg v0) (rs2 : Rg s2) (h : f_X6_takeJoin_192 F P S v0 s0 s1 s2 D = some r) : xfr Rg D r.2 := by
  unfold f_X6_takeJoin_192 at h
  refine xgrd_e h (fun g1 h => ?_)
  refine xlet_e h (fun D2 eD2 h => ?_)
  refine xfr_i rs2 eD2 ?_
  refine xbnd_e h (fun q3 e3 h => ?_)
  refine xfr_tr (U_X6_wantFirstOne hS hR k0 r0 e3) ?_
  obtain rfl := Option.some.inj h
  exact xfr_rf

theorem u_X6_takeJoin_158 {F P : Nat} {S : xSt} (hS : xWF S) {Rg : Nat → Prop} (hR : xRC S Rg) {v0 : Nat} {v1 : Int32} {s0 : Int32} {s1 : Int32} {s2 : Nat} {D : xDt} {r : Int32 × xDt} (k0 : xK S v0 6) (ks2 : xK S s2 100) (r0 : Rg v0) (rs2 : Rg s2) (h : f_X6_takeJoin_158 F P S v0 v1 s0 s1 s2 D = some r) : xfr Rg D r.2 := by
  unfold f_X6_takeJoin_158 at h
  refine xgrd_e h (fun g1 h => ?_)
  refine xlet_e h (fun D2 eD2 h => ?_)
  refine xfr_i rs2 eD2 ?_
  refine xif_n h (fun c h => ?_) (fun c h => ?_)
  · skip
    exact u_X6_takeJoin_192 hS hR k0 ((hS.f k0 6 100 rfl).2) r0 (hR.1 k0 r0 6 100 rfl) h
  · skip
    refine xgrd_e h (fun g3 h => ?_)
    exact u_X6_takeJoin_192 hS hR k0 ((hS.f k0 6 100 rfl).2) r0 (hR.1 k0 r0 6 100 rfl) h

theorem u_X6_takeJoin_139 {F P : Nat} {S : xSt} (hS : xWF S) {Rg : Nat → Prop} (hR : xRC S Rg) {v0 : Nat} {v1 : Int32} {s0 : Int32} {s1 : Nat} {D : xDt} {r : Int32 × xDt} (k0 : xK S v0 6) (ks1 : xK S s1 100) (r0 : Rg v0) (rs1 : Rg s1) (h : f_X6_takeJoin_139 F P S v0 v1 s0 s1 D = some r) : xfr Rg D r.2 := by
  unfold f_X6_takeJoin_139 at h
  exact u_X6_takeJoin_158 hS hR k0 ks1 r0 rs1 h

theorem u_X6_takeJoin_118 {F P : Nat} {S : xSt} (hS : xWF S) {Rg : Nat → Prop} (hR : xRC S Rg) {v0 : Nat} {v1 : Int32} {s0 : Int32} {s1 : Int32} {s2 : Nat} {D : xDt} {r : Int32 × xDt} (k0 : xK S v0 6) (ks2 : xK S s2 104) (r0 : Rg v0) (rs2 : Rg s2) (h : f_X6_takeJoin_118 F P S v0 v1 s0 s1 s2 D = some r) : xfr Rg D r.2 := by
  unfold f_X6_takeJoin_118 at h
  refine xgrd_e h (fun g1 h => ?_)
  refine xlet_e h (fun D2 eD2 h => ?_)
  refine xfr_i rs2 eD2 ?_
  refine xif_p h (fun c h => ?_) (fun c h => ?_)
  · skip
    exact u_X6_takeJoin_139 hS hR k0 ((hS.f k0 5 100 rfl).2) r0 (hR.1 k0 r0 5 100 rfl) h
  · skip
    refine xif_n h (fun c h => ?_) (fun c h => ?_)
    · skip
      refine xgrd_e h (fun g3 h => ?_)
      exact u_X6_takeJoin_158 hS hR k0 ((hS.f k0 5 100 rfl).2) r0 (hR.1 k0 r0 5 100 rfl) h
    · skip
      exact u_X6_takeJoin_139 hS hR k0 ((hS.f k0 5 100 rfl).2) r0 (hR.1 k0 r0 5 100 rfl) h

theorem u_X6_takeJoin_113 {F P : Nat} {S : xSt} (hS : xWF S) {Rg : Nat → Prop} (hR : xRC S Rg) {v0 : Nat} {v1 : Int32} {s0 : Int32} {s1 : Nat} {D : xDt} {r : Int32 × xDt} (k0 : xK S v0 6) (ks1 : xK S s1 104) (r0 : Rg v0) (rs1 : Rg s1) (h : f_X6_takeJoin_113 F P S v0 v1 s0 s1 D = some r) : xfr Rg D r.2 := by
  unfold f_X6_takeJoin_113 at h
  exact u_X6_takeJoin_118 hS hR k0 ks1 r0 rs1 h

theorem u_X6_takeJoin_72 {F P : Nat} {S : xSt} (hS : xWF S) {Rg : Nat → Prop} (hR : xRC S Rg) {v0 : Nat} {v1 : Int32} {s0 : Int32} {D : xDt} {r : Int32 × xDt} (k0 : xK S v0 6) (r0 : Rg v0) (h : f_X6_takeJoin_72 F P S v0 v1 s0 D = some r) : xfr Rg D r.2 := by
  unfold f_X6_takeJoin_72 at h
  refine xbnd_e h (fun q1 e1 h => ?_)
  refine xfr_tr (U_X2_insert hS hR ((hS.f k0 2 2 rfl).2) (hR.1 k0 r0 2 2 rfl) e1) ?_
  refine xif_n h (fun c h => ?_) (fun c h => ?_)
  · skip
    refine xgrd_e h (fun g2 h => ?_)
    refine xif_n h (fun c h => ?_) (fun c h => ?_)
    · skip
      exact u_X6_takeJoin_113 hS hR k0 ((hS.f k0 8 104 rfl).2) r0 (hR.1 k0 r0 8 104 rfl) h
    · skip
      refine xif_n h (fun c h => ?_) (fun c h => ?_)
      · skip
        exact u_X6_takeJoin_118 hS hR k0 ((hS.f k0 8 104 rfl).2) r0 (hR.1 k0 r0 8 104 rfl) h
      · skip
        exact u_X6_takeJoin_113 hS hR k0 ((hS.f k0 8 104 rfl).2) r0 (hR.1 k0 r0 8 104 rfl) h
  · skip
    obtain rfl := Option.some.inj h
    exact xfr_rf

theorem u_X6_takeJoin_27 {F P : Nat} {S : xSt} (hS : xWF S) {Rg : Nat → Prop} (hR : xRC S Rg) {v0 : Nat} {v1 : Int32} {D : xDt} {r : Int32 × xDt} (k0 : xK S v0 6) (r0 : Rg v0) (h : f_X6_takeJoin_27 F P S v0 v1 D = some r) : xfr Rg D r.2 := by
  unfold f_X6_takeJoin_27 at h
  refine xif_n h (fun c h => ?_) (fun c h => ?_)
  · skip
    refine xif_n h (fun c h => ?_) (fun c h => ?_)
    · skip
      refine xgrd_e h (fun g1 h => ?_)
      exact u_X6_takeJoin_72 hS hR k0 r0 h
    · skip
      refine xgrd_e h (fun g2 h => ?_)
      exact u_X6_takeJoin_72 hS hR k0 r0 h
  · skip
    refine xgrd_e h (fun g3 h => ?_)
    exact u_X6_takeJoin_72 hS hR k0 r0 h

theorem U_X6_takeJoin {F P : Nat} {S : xSt} (hS : xWF S) {Rg : Nat → Prop} (hR : xRC S Rg) {v0 : Nat} {v1 : Int32} {D : xDt} {r : Int32 × xDt} (k0 : xK S v0 6) (r0 : Rg v0) (h : f_X6_takeJoin F P S v0 v1 D = some r) : xfr Rg D r.2 := by
  unfold f_X6_takeJoin at h
  refine xbnd_e h (fun q1 e1 h => ?_)
  refine xfr_tr (U_X11_isJoin hS hR e1) ?_
  refine xif_p h (fun c h => ?_) (fun c h => ?_)
  · skip
    obtain rfl := Option.some.inj h
    exact xfr_rf
  · skip
    refine xif_n h (fun c h => ?_) (fun c h => ?_)
    · skip
      exact u_X6_takeJoin_27 hS hR k0 r0 h
    · skip
      refine xgrd_e h (fun g2 h => ?_)
      refine xif_p h (fun c h => ?_) (fun c h => ?_)
      · skip
        exact u_X6_takeJoin_27 hS hR k0 r0 h
      · skip
        obtain rfl := Option.some.inj h
        exact xfr_rf

