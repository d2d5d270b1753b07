theorem u_X6_takeBehindOne_26 {F P : Nat} {S : xSt} (hS : xWF S) {Rg : Nat → Prop} (hR : xRC S Rg) {v0 : Nat} {s0 : Int32} {D : xDt} {r : Int32 × xDt} (k0 : xK S v0 6) (r0 : Rg v0) (h : f_X6_takeBehindOne_26 F P S v0 s0 D = some r) : xfr Rg D r.2 := by
  unfold f_X6_takeBehindOne_26 at h
  refine xif_p h (fun c h => ?_) (fun c h => ?_)
  · skip
    refine xgrd_e h (fun g1 h => ?_)
    obtain rfl := Option.some.inj h
    exact xfr_rf
  · skip
    refine xbnd_e h (fun q2 e2 h => ?_)
    refine xfr_tr (U_X6_toSign hS hR k0 r0 e2) ?_
    refine xgrd_e h (fun g3 h => ?_)
    obtain rfl := Option.some.inj h
    exact xfr_rf

theorem U_X6_takeBehindOne {F P : Nat} {S : xSt} (hS : xWF S) {Rg : Nat → Prop} (hR : xRC S Rg) {v0 : Nat} {v1 : Int32} {D : xDt} {r : Int32 × xDt} (k0 : xK S v0 6) (r0 : Rg v0) (h : f_X6_takeBehindOne F P S v0 v1 D = some r) : xfr Rg D r.2 := by
  unfold f_X6_takeBehindOne at h
  refine xgrd_e h (fun g1 h => ?_)
  refine xif_n h (fun c h => ?_) (fun c h => ?_)
  · skip
    refine xbnd_e h (fun q2 e2 h => ?_)
    refine xfr_tr (U_X6_takeJoin hS hR k0 r0 e2) ?_
    exact u_X6_takeBehindOne_26 hS hR k0 r0 h
  · skip
    refine xbnd_e h (fun q3 e3 h => ?_)
    refine xfr_tr (U_X6_leave hS hR k0 r0 e3) ?_
    exact u_X6_takeBehindOne_26 hS hR k0 r0 h

theorem u_X6_takeAll_50 {F P : Nat} {S : xSt} (hS : xWF S) {Rg : Nat → Prop} (hR : xRC S Rg) {rec_2 : Nat → Int32 → xDt → Option (Int32 × xDt)} (hrec_2 : ∀ {v0 : Nat} {v1 : Int32} {D : xDt} {r : Int32 × xDt}, xK S v0 6 → Rg v0 → rec_2 v0 v1 D = some r → xfr Rg D r.2) {v0 : Nat} {v1 : Int32} {s0 : Int32} {D : xDt} {r : Int32 × xDt} (k0 : xK S v0 6) (r0 : Rg v0) (h : f_X6_takeAll_50 F P S rec_2 v0 v1 s0 D = some r) : xfr Rg D r.2 := by
  unfold f_X6_takeAll_50 at h
  refine xif_n h (fun c h => ?_) (fun c h => ?_)
  · skip
    refine xlet_e h (fun v1_1 ev1_1 h => ?_)
    exact hrec_2 k0 r0 h
  · skip
    obtain rfl := Option.some.inj h
    exact xfr_rf

theorem u_X6_takeAll_92 {F P : Nat} {S : xSt} (hS : xWF S) {Rg : Nat → Prop} (hR : xRC S Rg) {D : xDt} {r : Int32 × xDt} (h : f_X6_takeAll_92 F P S D = some r) : xfr Rg D r.2 := by
  unfold f_X6_takeAll_92 at h
  obtain rfl := Option.some.inj h
  exact xfr_rf

theorem u_X6_takeAll_63 {F P : Nat} {S : xSt} (hS : xWF S) {Rg : Nat → Prop} (hR : xRC S Rg) {v0 : Nat} {D : xDt} {r : Int32 × xDt} (k0 : xK S v0 6) (h : f_X6_takeAll_63 F P S v0 D = some r) : xfr Rg D r.2 := by
  unfold f_X6_takeAll_63 at h
  refine xif_p h (fun c h => ?_) (fun c h => ?_)
  · skip
    exact u_X6_takeAll_92 hS hR h
  · skip
    refine xif_n h (fun c h => ?_) (fun c h => ?_)
    · skip
      exact u_X6_takeAll_92 hS hR h
    · skip
      refine xif_n h (fun c h => ?_) (fun c h => ?_)
      · skip
        exact u_X6_takeAll_92 hS hR h
      · skip
        obtain rfl := Option.some.inj h
        exact xfr_rf

theorem u_X6_takeAll_2s {F P : Nat} {S : xSt} (hS : xWF S) {Rg : Nat → Prop} (hR : xRC S Rg) {rec_2 : Nat → Int32 → xDt → Option (Int32 × xDt)} (hrec_2 : ∀ {v0 : Nat} {v1 : Int32} {D : xDt} {r : Int32 × xDt}, xK S v0 6 → Rg v0 → rec_2 v0 v1 D = some r → xfr Rg D r.2) {v0 : Nat} {v1 : Int32} {D : xDt} {r : Int32 × xDt} (k0 : xK S v0 6) (r0 : Rg v0) (h : f_X6_takeAll_2s F P S rec_2 v0 v1 D = some r) : xfr Rg D r.2 := by
  unfold f_X6_takeAll_2s at h
  refine xif_p h (fun c h => ?_) (fun c h => ?_)
  · skip
    exact u_X6_takeAll_63 hS hR k0 h
  · skip
    refine xif_p h (fun c h => ?_) (fun c h => ?_)
    · skip
      exact u_X6_takeAll_63 hS hR k0 h
    · skip
      refine xgrd_e h (fun g1 h => ?_)
      refine xlet_e h (fun v2_2 ev2_2 h => ?_)
      refine xif_p h (fun c h => ?_) (fun c h => ?_)
      · skip
        refine xbnd_e h (fun q3 e3 h => ?_)
        refine xfr_tr (U_X6_takeBehindOne hS hR k0 r0 e3) ?_
        exact u_X6_takeAll_50 hS hR hrec_2 k0 r0 h
      · skip
        refine xbnd_e h (fun q4 e4 h => ?_)
        refine xfr_tr (U_X6_takeOne hS hR k0 r0 e4) ?_
        exact u_X6_takeAll_50 hS hR hrec_2 k0 r0 h
theorem u_X6_takeAll_2 {F P : Nat} {S : xSt} (hS : xWF S) {Rg : Nat → Prop} (hR : xRC S Rg) : ∀ (n : Nat) {v0 : Nat} {v1 : Int32} {D : xDt} {r : Int32 × xDt}, xK S v0 6 → Rg v0 → f_X6_takeAll_2 F P S n v0 v1 D = some r → xfr Rg D r.2 := by
  intro n
  induction n with
  | zero => intros; rename_i h; cases h
  | succ n ih =>
    intro v0 v1 D r k0 r0 h
    exact u_X6_takeAll_2s hS hR (fun k0 r0 h => ih k0 r0 h) k0 r0 h

theorem U_X6_takeAll {F P : Nat} {S : xSt} (hS : xWF S) {Rg : Nat → Prop} (hR : xRC S Rg) {v0 : Nat} {D : xDt} {r : Int32 × xDt} (k0 : xK S v0 6) (r0 : Rg v0) (h : f_X6_takeAll F P S v0 D = some r) : xfr Rg D r.2 := by
  unfold f_X6_takeAll at h
  exact u_X6_takeAll_2 hS hR F k0 r0 h

theorem U_X6_read {F P : Nat} {S : xSt} (hS : xWF S) {Rg : Nat → Prop} (hR : xRC S Rg) {v0 : Nat} {v1 : Nat} {D : xDt} {r : Int32 × xDt} (k0 : xK S v0 6) (k1 : xK S v1 2) (r0 : Rg v0) (r1 : Rg v1) (h : f_X6_read F P S v0 v1 D = some r) : xfr Rg D r.2 := by
  unfold f_X6_read at h
  refine xlet_e h (fun D1 eD1 h => ?_)
  refine xfr_i (hR.1 k0 r0 2 2 rfl) eD1 ?_
  refine xlet_e h (fun D2 eD2 h => ?_)
  refine xfr_i r0 eD2 ?_
  refine xbnd_e h (fun q3 e3 h => ?_)
  refine xfr_tr (U_X6_enter hS hR k0 r0 e3) ?_
  refine xbnd_e h (fun q4 e4 h => ?_)
  refine xfr_tr (U_X6_toSign hS hR k0 r0 e4) ?_
  refine xbnd_e h (fun q5 e5 h => ?_)
  refine xfr_tr (U_X6_takeAll hS hR k0 r0 e5) ?_
  refine xlet_e h (fun D6 eD6 h => ?_)
  refine xfr_i r0 eD6 ?_
  refine xif_n h (fun c h => ?_) (fun c h => ?_)
  · skip
    refine xbnd_e h (fun q7 e7 h => ?_)
    refine xfr_tr (U_X2_copy hS hR k1 ((hS.f k0 2 2 rfl).2) r1 e7) ?_
    obtain rfl := Option.some.inj h
    exact xfr_rf
  · skip
    obtain rfl := Option.some.inj h
    exact xfr_rf

theorem u_X7_push_119 {F P : Nat} {S : xSt} (hS : xWF S) {Rg : Nat → Prop} (hR : xRC S Rg) {D : xDt} {r : Int32 × xDt} (h : f_X7_push_119 F P S D = some r) : xfr Rg D r.2 := by
  unfold f_X7_push_119 at h
  obtain rfl := Option.some.inj h
  exact xfr_rf

theorem u_X7_push_68 {F P : Nat} {S : xSt} (hS : xWF S) {Rg : Nat → Prop} (hR : xRC S Rg) {v0 : Nat} {v2 : Int32} {v3 : Int32} {s0 : Int32} {D : xDt} {r : Int32 × xDt} (k0 : xK S v0 7) (r0 : Rg v0) (h : f_X7_push_68 F P S v0 v2 v3 s0 D = some r) : xfr Rg D r.2 := by
  unfold f_X7_push_68 at h
  refine xif_p h (fun c h => ?_) (fun c h => ?_)
  · skip
    refine xif_p h (fun c h => ?_) (fun c h => ?_)
    · skip
      exact u_X7_push_119 hS hR h
    · skip
      refine xbnd_e h (fun q1 e1 h => ?_)
      refine xfr_tr (U_X2_add hS hR ((hS.f k0 2 2 rfl).2) (hR.1 k0 r0 2 2 rfl) e1) ?_
      refine xif_p h (fun c h => ?_) (fun c h => ?_)
      · skip
        exact u_X7_push_119 hS hR h
      · skip
        refine xbnd_e h (fun q2 e2 h => ?_)
        refine xfr_tr (U_X2_addAll hS hR ((hS.f k0 2 2 rfl).2) ((hS.f k0 0 100 rfl).2) (hR.1 k0 r0 2 2 rfl) e2) ?_
        refine xif_p h (fun c h => ?_) (fun c h => ?_)
        · skip
          exact u_X7_push_119 hS hR h
        · skip
          obtain rfl := Option.some.inj h
          exact xfr_rf
  · skip
    refine xgrd_e h (fun g3 h => ?_)
    obtain rfl := Option.some.inj h
    exact xfr_rf

theorem u_X7_push_67 {F P : Nat} {S : xSt} (hS : xWF S) {Rg : Nat → Prop} (hR : xRC S Rg) {v0 : Nat} {v2 : Int32} {v3 : Int32} {D : xDt} {r : Int32 × xDt} (k0 : xK S v0 7) (r0 : Rg v0) (h : f_X7_push_67 F P S v0 v2 v3 D = some r) : xfr Rg D r.2 := by
  unfold f_X7_push_67 at h
  exact u_X7_push_68 hS hR k0 r0 h

theorem U_X7_push {F P : Nat} {S : xSt} (hS : xWF S) {Rg : Nat → Prop} (hR : xRC S Rg) {v0 : Nat} {v1 : Int32} {v2 : Int32} {D : xDt} {r : Int32 × xDt} (k0 : xK S v0 7) (r0 : Rg v0) (h : f_X7_push F P S v0 v1 v2 D = some r) : xfr Rg D r.2 := by
  unfold f_X7_push at h
  refine xbnd_e h (fun q1 e1 h => ?_)
  refine xfr_tr (U_X11_signOf hS hR e1) ?_
  refine xbnd_e h (fun q2 e2 h => ?_)
  refine xfr_tr (U_X11_isJoin hS hR e2) ?_
  refine xif_p h (fun c h => ?_) (fun c h => ?_)
  · skip
    refine xbnd_e h (fun q3 e3 h => ?_)
    refine xfr_tr (U_X2_add hS hR ((hS.f k0 2 2 rfl).2) (hR.1 k0 r0 2 2 rfl) e3) ?_
    refine xif_p h (fun c h => ?_) (fun c h => ?_)
    · skip
      exact u_X7_push_67 hS hR k0 r0 h
    · skip
      refine xbnd_e h (fun q4 e4 h => ?_)
      refine xfr_tr (U_X2_addAll hS hR ((hS.f k0 2 2 rfl).2) ((hS.f k0 0 100 rfl).2) (hR.1 k0 r0 2 2 rfl) e4) ?_
      refine xif_p h (fun c h => ?_) (fun c h => ?_)
      · skip
        exact u_X7_push_67 hS hR k0 r0 h
      · skip
        refine xbnd_e h (fun q5 e5 h => ?_)
        refine xfr_tr (U_X2_add hS hR ((hS.f k0 2 2 rfl).2) (hR.1 k0 r0 2 2 rfl) e5) ?_
        refine xif_p h (fun c h => ?_) (fun c h => ?_)
        · skip
          exact u_X7_push_67 hS hR k0 r0 h
        · skip
          exact u_X7_push_68 hS hR k0 r0 h
  · skip
    refine xbnd_e h (fun q6 e6 h => ?_)
    refine xfr_tr (U_X2_add hS hR ((hS.f k0 2 2 rfl).2) (hR.1 k0 r0 2 2 rfl) e6) ?_
    refine xgrd_e h (fun g7 h => ?_)
    obtain rfl := Option.some.inj h
    exact xfr_rf

theorem u_X7_unsay_121 {F P : Nat} {S : xSt} (hS : xWF S) {Rg : Nat → Prop} (hR : xRC S Rg) {v0 : Nat} {v3 : Int32} {v4 : Int32} {D : xDt} {r : Int32 × xDt} (k0 : xK S v0 7) (r0 : Rg v0) (h : f_X7_unsay_121 F P S v0 v3 v4 D = some r) : xfr Rg D r.2 := by
  unfold f_X7_unsay_121 at h
  refine xif_p h (fun c h => ?_) (fun c h => ?_)
  · skip
    obtain rfl := Option.some.inj h
    exact xfr_rf
  · skip
    refine xif_p h (fun c h => ?_) (fun c h => ?_)
    · skip
      refine xlet_e h (fun D1 eD1 h => ?_)
      refine xfr_i r0 eD1 ?_
      refine xgrd_e h (fun g2 h => ?_)
      refine xlet_e h (fun D3 eD3 h => ?_)
      refine xfr_ci (hR.1 k0 r0 0 100 rfl) eD3 ?_
      obtain rfl := Option.some.inj h
      exact xfr_rf
    · skip
      obtain rfl := Option.some.inj h
      exact xfr_rf

theorem u_X7_unsay_90s {F P : Nat} {S : xSt} (hS : xWF S) {Rg : Nat → Prop} (hR : xRC S Rg) {rec_90 : Nat → Int32 → Int32 → Int32 → Int32 → xDt → Option (Int32 × xDt)} (hrec_90 : ∀ {v0 : Nat} {v2 : Int32} {v3 : Int32} {v4 : Int32} {v5 : Int32} {D : xDt} {r : Int32 × xDt}, xK S v0 7 → Rg v0 → rec_90 v0 v2 v3 v4 v5 D = some r → xfr Rg D r.2) {v0 : Nat} {v2 : Int32} {v3 : Int32} {v4 : Int32} {v5 : Int32} {D : xDt} {r : Int32 × xDt} (k0 : xK S v0 7) (r0 : Rg v0) (h : f_X7_unsay_90s F P S rec_90 v0 v2 v3 v4 v5 D = some r) : xfr Rg D r.2 := by
  unfold f_X7_unsay_90s at h
  refine xif_p h (fun c h => ?_) (fun c h => ?_)
  · skip
    exact u_X7_unsay_121 hS hR k0 r0 h
  · skip
    refine xif_p h (fun c h => ?_) (fun c h => ?_)
    · skip
      exact u_X7_unsay_121 hS hR k0 r0 h
    · skip
      refine xgrd_e h (fun g1 h => ?_)
      refine xbnd_e h (fun q2 e2 h => ?_)
      refine xfr_tr (U_X7_push hS hR k0 r0 e2) ?_
      refine xlet_e h (fun v5_3 ev5_3 h => ?_)
      exact hrec_90 k0 r0 h
theorem u_X7_unsay_90 {F P : Nat} {S : xSt} (hS : xWF S) {Rg : Nat → Prop} (hR : xRC S Rg) : ∀ (n : Nat) {v0 : Nat} {v2 : Int32} {v3 : Int32} {v4 : Int32} {v5 : Int32} {D : xDt} {r : Int32 × xDt}, xK S v0 7 → Rg v0 → f_X7_unsay_90 F P S n v0 v2 v3 v4 v5 D = some r → xfr Rg D r.2 := by
  intro n
  induction n with
  | zero => intros; rename_i h; cases h
  | succ n ih =>
    intro v0 v2 v3 v4 v5 D r k0 r0 h
    exact u_X7_unsay_90s hS hR (fun k0 r0 h => ih k0 r0 h) k0 r0 h

theorem u_X7_unsay_85 {F P : Nat} {S : xSt} (hS : xWF S) {Rg : Nat → Prop} (hR : xRC S Rg) {v0 : Nat} {v2 : Int32} {v3 : Int32} {s0 : Int32} {D : xDt} {r : Int32 × xDt} (k0 : xK S v0 7) (r0 : Rg v0) (h : f_X7_unsay_85 F P S v0 v2 v3 s0 D = some r) : xfr Rg D r.2 := by
  unfold f_X7_unsay_85 at h
  exact u_X7_unsay_90 hS hR F k0 r0 h

theorem u_X7_unsay_80 {F P : Nat} {S : xSt} (hS : xWF S) {Rg : Nat → Prop} (hR : xRC S Rg) {v0 : Nat} {v2 : Int32} {v3 : Int32} {D : xDt} {r : Int32 × xDt} (k0 : xK S v0 7) (r0 : Rg v0) (h : f_X7_unsay_80 F P S v0 v2 v3 D = some r) : xfr Rg D r.2 := by
  unfold f_X7_unsay_80 at h
  exact u_X7_unsay_85 hS hR k0 r0 h

theorem u_X7_unsay_84 {F P : Nat} {S : xSt} (hS : xWF S) {Rg : Nat → Prop} (hR : xRC S Rg) {v0 : Nat} {v2 : Int32} {v3 : Int32} {D : xDt} {r : Int32 × xDt} (k0 : xK S v0 7) (r0 : Rg v0) (h : f_X7_unsay_84 F P S v0 v2 v3 D = some r) : xfr Rg D r.2 := by
  unfold f_X7_unsay_84 at h
  exact u_X7_unsay_85 hS hR k0 r0 h

theorem U_X7_unsay {F P : Nat} {S : xSt} (hS : xWF S) {Rg : Nat → Prop} (hR : xRC S Rg) {v0 : Nat} {v1 : Int32} {D : xDt} {r : Int32 × xDt} (k0 : xK S v0 7) (r0 : Rg v0) (h : f_X7_unsay F P S v0 v1 D = some r) : xfr Rg D r.2 := by
  unfold f_X7_unsay at h
  refine xif_p h (fun c h => ?_) (fun c h => ?_)
  · skip
    refine xgrd_e h (fun g1 h => ?_)
    refine xlet_e h (fun v2_2 ev2_2 h => ?_)
    refine xgrd_e h (fun g3 h => ?_)
    refine xlet_e h (fun v3_4 ev3_4 h => ?_)
    refine xlet_e h (fun D5 eD5 h => ?_)
    refine xfr_i r0 eD5 ?_
    refine xlet_e h (fun D6 eD6 h => ?_)
    refine xfr_i (hR.1 k0 r0 2 2 rfl) eD6 ?_
    refine xif_p h (fun c h => ?_) (fun c h => ?_)
    · skip
      exact u_X7_unsay_80 hS hR k0 r0 h
    · skip
      refine xbnd_e h (fun q7 e7 h => ?_)
      refine xfr_tr (U_X2_add hS hR ((hS.f k0 2 2 rfl).2) (hR.1 k0 r0 2 2 rfl) e7) ?_
      refine xif_p h (fun c h => ?_) (fun c h => ?_)
      · skip
        exact u_X7_unsay_84 hS hR k0 r0 h
      · skip
        refine xbnd_e h (fun q8 e8 h => ?_)
        refine xfr_tr (U_X7_push hS hR k0 r0 e8) ?_
        refine xif_p h (fun c h => ?_) (fun c h => ?_)
        · skip
          exact u_X7_unsay_84 hS hR k0 r0 h
        · skip
          exact u_X7_unsay_80 hS hR k0 r0 h
  · skip
    obtain rfl := Option.some.inj h
    exact xfr_rf

theorem u_X7_place_94 {F P : Nat} {S : xSt} (hS : xWF S) {Rg : Nat → Prop} (hR : xRC S Rg) {v0 : Nat} {v1 : Int32} {D : xDt} {r : Int32 × xDt} (k0 : xK S v0 7) (r0 : Rg v0) (h : f_X7_place_94 F P S v0 v1 D = some r) : xfr Rg D r.2 := by
  unfold f_X7_place_94 at h
  refine xlet_e h (fun D1 eD1 h => ?_)
  refine xfr_i r0 eD1 ?_
  refine xgrd_e h (fun g2 h => ?_)
  refine xlet_e h (fun D3 eD3 h => ?_)
  refine xfr_i (hR.1 k0 r0 0 100 rfl) eD3 ?_
  obtain rfl := Option.some.inj h
  exact xfr_rf

theorem u_X7_place_69 {F P : Nat} {S : xSt} (hS : xWF S) {Rg : Nat → Prop} (hR : xRC S Rg) {v0 : Nat} {v1 : Int32} {v2 : Int32} {D : xDt} {r : Int32 × xDt} (k0 : xK S v0 7) (r0 : Rg v0) (h : f_X7_place_69 F P S v0 v1 v2 D = some r) : xfr Rg D r.2 := by
  unfold f_X7_place_69 at h
  refine xbnd_e h (fun q1 e1 h => ?_)
  refine xfr_tr (U_X11_isJoin hS hR e1) ?_
  refine xif_p h (fun c h => ?_) (fun c h => ?_)
  · skip
    exact u_X7_place_94 hS hR k0 r0 h
  · skip
    refine xif_p h (fun c h => ?_) (fun c h => ?_)
    · skip
      exact u_X7_place_94 hS hR k0 r0 h
    · skip
      refine xlet_e h (fun D2 eD2 h => ?_)
      refine xfr_i r0 eD2 ?_
      exact u_X7_place_94 hS hR k0 r0 h

theorem U_X7_place {F P : Nat} {S : xSt} (hS : xWF S) {Rg : Nat → Prop} (hR : xRC S Rg) {v0 : Nat} {v1 : Int32} {D : xDt} {r : Int32 × xDt} (k0 : xK S v0 7) (r0 : Rg v0) (h : f_X7_place F P S v0 v1 D = some r) : xfr Rg D r.2 := by
  unfold f_X7_place at h
  refine xbnd_e h (fun q1 e1 h => ?_)
  refine xfr_tr (U_X11_signOf hS hR e1) ?_
  refine xbnd_e h (fun q2 e2 h => ?_)
  refine xfr_tr (U_X11_isSaying hS hR e2) ?_
  refine xif_p h (fun c h => ?_) (fun c h => ?_)
  · skip
    refine xif_p h (fun c h => ?_) (fun c h => ?_)
    · skip
      refine xbnd_e h (fun q3 e3 h => ?_)
      refine xfr_tr (U_X11_isLeaf hS hR e3) ?_
      refine xif_p h (fun c h => ?_) (fun c h => ?_)
      · skip
        exact u_X7_place_69 hS hR k0 r0 h
      · skip
        refine xif_p h (fun c h => ?_) (fun c h => ?_)
        · skip
          exact u_X7_place_69 hS hR k0 r0 h
        · skip
          refine xlet_e h (fun D4 eD4 h => ?_)
          refine xfr_i r0 eD4 ?_
          refine xgrd_e h (fun g5 h => ?_)
          refine xlet_e h (fun D6 eD6 h => ?_)
          refine xfr_i (hR.1 k0 r0 1 100 rfl) eD6 ?_
          exact u_X7_place_94 hS hR k0 r0 h
    · skip
      obtain rfl := Option.some.inj h
      exact xfr_rf
  · skip
    refine xbnd_e h (fun q7 e7 h => ?_)
    refine xfr_tr (U_X7_unsay hS hR k0 r0 e7) ?_
    refine xgrd_e h (fun g8 h => ?_)
    obtain rfl := Option.some.inj h
    exact xfr_rf

theorem u_X7_apply_44s {F P : Nat} {S : xSt} (hS : xWF S) {Rg : Nat → Prop} (hR : xRC S Rg) {rec_44 : Nat → Nat → Int32 → xDt → Option (Int32 × xDt)} (hrec_44 : ∀ {v0 : Nat} {v1 : Nat} {v2 : Int32} {D : xDt} {r : Int32 × xDt}, xK S v0 7 → xK S v1 2 → Rg v0 → Rg v1 → rec_44 v0 v1 v2 D = some r → xfr Rg D r.2) {v0 : Nat} {v1 : Nat} {v2 : Int32} {D : xDt} {r : Int32 × xDt} (k0 : xK S v0 7) (k1 : xK S v1 2) (r0 : Rg v0) (r1 : Rg v1) (h : f_X7_apply_44s F P S rec_44 v0 v1 v2 D = some r) : xfr Rg D r.2 := by
  unfold f_X7_apply_44s at h
  refine xif_p h (fun c h => ?_) (fun c h => ?_)
  · skip
    refine xlet_e h (fun D1 eD1 h => ?_)
    refine xfr_i r1 eD1 ?_
    refine xbnd_e h (fun q2 e2 h => ?_)
    refine xfr_tr (U_X2_addAll hS hR k1 ((hS.f k0 0 100 rfl).2) r1 e2) ?_
    obtain rfl := Option.some.inj h
    exact xfr_rf
  · skip
    refine xgrd_e h (fun g3 h => ?_)
    refine xbnd_e h (fun q4 e4 h => ?_)
    refine xfr_tr (U_X7_place hS hR k0 r0 e4) ?_
    refine xif_n h (fun c h => ?_) (fun c h => ?_)
    · skip
      refine xlet_e h (fun v2_5 ev2_5 h => ?_)
      exact hrec_44 k0 k1 r0 r1 h
    · skip
      obtain rfl := Option.some.inj h
      exact xfr_rf
theorem u_X7_apply_44 {F P : Nat} {S : xSt} (hS : xWF S) {Rg : Nat → Prop} (hR : xRC S Rg) : ∀ (n : Nat) {v0 : Nat} {v1 : Nat} {v2 : Int32} {D : xDt} {r : Int32 × xDt}, xK S v0 7 → xK S v1 2 → Rg v0 → Rg v1 → f_X7_apply_44 F P S n v0 v1 v2 D = some r → xfr Rg D r.2 := by
  intro n
  induction n with
  | zero => intros; rename_i h; cases h
  | succ n ih =>
    intro v0 v1 v2 D r k0 k1 r0 r1 h
    exact u_X7_apply_44s hS hR (fun k0 k1 r0 r1 h => ih k0 k1 r0 r1 h) k0 k1 r0 r1 h

theorem U_X7_apply {F P : Nat} {S : xSt} (hS : xWF S) {Rg : Nat → Prop} (hR : xRC S Rg) {v0 : Nat} {v1 : Nat} {D : xDt} {r : Int32 × xDt} (k0 : xK S v0 7) (k1 : xK S v1 2) (r0 : Rg v0) (r1 : Rg v1) (h : f_X7_apply F P S v0 v1 D = some r) : xfr Rg D r.2 := by
  unfold f_X7_apply at h
  refine xbnd_e h (fun q1 e1 h => ?_)
  refine xfr_tr (U_X2_hasAny hS hR k1 (by decide) e1) ?_
  refine xif_p h (fun c h => ?_) (fun c h => ?_)
  · skip
    refine xbnd_e h (fun q2 e2 h => ?_)
    refine xfr_tr (U_X2_hasAny hS hR k1 (by decide) e2) ?_
    refine xif_n h (fun c h => ?_) (fun c h => ?_)
    · skip
      refine xlet_e h (fun D3 eD3 h => ?_)
      refine xfr_i r0 eD3 ?_
      refine xlet_e h (fun D4 eD4 h => ?_)
      refine xfr_i r0 eD4 ?_
      refine xlet_e h (fun v2_5 ev2_5 h => ?_)
      exact u_X7_apply_44 hS hR F k0 k1 r0 r1 h
    · skip
      obtain rfl := Option.some.inj h
      exact xfr_rf
  · skip
    obtain rfl := Option.some.inj h
    exact xfr_rf

theorem U_X9_put {F P : Nat} {S : xSt} (hS : xWF S) {Rg : Nat → Prop} (hR : xRC S Rg) {v0 : Nat} {v1 : Int32} {D : xDt} {r : xDt} (k0 : xK S v0 9) (r0 : Rg v0) (h : f_X9_put F P S v0 v1 D = some r) : xfr Rg D r := by
  unfold f_X9_put at h
  refine xif_p h (fun c h => ?_) (fun c h => ?_)
  · skip
    obtain rfl := Option.some.inj h
    exact xfr_rf
  · skip
    refine xlet_e h (fun D1 eD1 h => ?_)
    refine xfr_i r0 eD1 ?_
    refine xgrd_e h (fun g2 h => ?_)
    refine xlet_e h (fun D3 eD3 h => ?_)
    refine xfr_i (hR.1 k0 r0 0 102 rfl) eD3 ?_
    obtain rfl := Option.some.inj h
    exact xfr_rf

theorem u_X9_finish_61 {F P : Nat} {S : xSt} (hS : xWF S) {Rg : Nat → Prop} (hR : xRC S Rg) {v0 : Nat} {v1 : Int32} {v2 : Int32} {s0 : Int32} {s1 : Nat} {D : xDt} {r : xDt} (k0 : xK S v0 9) (ks1 : xK S s1 9) (r0 : Rg v0) (rs1 : Rg s1) (h : f_X9_finish_61 F P S v0 v1 v2 s0 s1 D = some r) : xfr Rg D r := by
  unfold f_X9_finish_61 at h
  refine xbnd_e h (fun q1 e1 h => ?_)
  refine xfr_tr (U_X9_put hS hR ks1 rs1 e1) ?_
  refine xgrd_e h (fun g2 h => ?_)
  refine xlet_e h (fun D3 eD3 h => ?_)
  refine xfr_i (hR.1 k0 r0 2 100 rfl) eD3 ?_
  refine xlet_e h (fun D4 eD4 h => ?_)
  refine xfr_i r0 eD4 ?_
  obtain rfl := Option.some.inj h
  exact xfr_rf

theorem u_X9_finish_95 {F P : Nat} {S : xSt} (hS : xWF S) {Rg : Nat → Prop} (hR : xRC S Rg) {rec_7 : Nat → Int32 → xDt → Option (xDt)} (hrec_7 : ∀ {v0 : Nat} {v1 : Int32} {D : xDt} {r : xDt}, xK S v0 9 → Rg v0 → rec_7 v0 v1 D = some r → xfr Rg D r) {v0 : Nat} {v1 : Int32} {D : xDt} {r : xDt} (k0 : xK S v0 9) (r0 : Rg v0) (h : f_X9_finish_95 F P S rec_7 v0 v1 D = some r) : xfr Rg D r := by
  unfold f_X9_finish_95 at h
  refine xlet_e h (fun v1_1 ev1_1 h => ?_)
  exact hrec_7 k0 r0 h

theorem u_X9_finish_82 {F P : Nat} {S : xSt} (hS : xWF S) {Rg : Nat → Prop} (hR : xRC S Rg) {rec_7 : Nat → Int32 → xDt → Option (xDt)} (hrec_7 : ∀ {v0 : Nat} {v1 : Int32} {D : xDt} {r : xDt}, xK S v0 9 → Rg v0 → rec_7 v0 v1 D = some r → xfr Rg D r) {v0 : Nat} {v1 : Int32} {v2 : Int32} {D : xDt} {r : xDt} (k0 : xK S v0 9) (r0 : Rg v0) (h : f_X9_finish_82 F P S rec_7 v0 v1 v2 D = some r) : xfr Rg D r := by
  unfold f_X9_finish_82 at h
  refine xif_p h (fun c h => ?_) (fun c h => ?_)
  · skip
    exact u_X9_finish_95 hS hR hrec_7 k0 r0 h
  · skip
    refine xbnd_e h (fun q1 e1 h => ?_)
    refine xfr_tr (U_X9_put hS hR k0 r0 e1) ?_
    exact u_X9_finish_95 hS hR hrec_7 k0 r0 h

theorem u_X9_finish_7s {F P : Nat} {S : xSt} (hS : xWF S) {Rg : Nat → Prop} (hR : xRC S Rg) {rec_7 : Nat → Int32 → xDt → Option (xDt)} (hrec_7 : ∀ {v0 : Nat} {v1 : Int32} {D : xDt} {r : xDt}, xK S v0 9 → Rg v0 → rec_7 v0 v1 D = some r → xfr Rg D r) {v0 : Nat} {v1 : Int32} {D : xDt} {r : xDt} (k0 : xK S v0 9) (r0 : Rg v0) (h : f_X9_finish_7s F P S rec_7 v0 v1 D = some r) : xfr Rg D r := by
  unfold f_X9_finish_7s at h
  refine xif_p h (fun c h => ?_) (fun c h => ?_)
  · skip
    refine xlet_e h (fun D1 eD1 h => ?_)
    refine xfr_i r0 eD1 ?_
    obtain rfl := Option.some.inj h
    exact xfr_rf
  · skip
    refine xgrd_e h (fun g2 h => ?_)
    refine xlet_e h (fun v2_3 ev2_3 h => ?_)
    refine xbnd_e h (fun q4 e4 h => ?_)
    refine xfr_tr (U_X11_signOf hS hR e4) ?_
    refine xbnd_e h (fun q5 e5 h => ?_)
    refine xfr_tr (U_X11_hasTwoParts hS hR e5) ?_
    refine xif_p h (fun c h => ?_) (fun c h => ?_)
    · skip
      exact u_X9_finish_82 hS hR hrec_7 k0 r0 h
    · skip
      refine xif_n h (fun c h => ?_) (fun c h => ?_)
      · skip
        exact u_X9_finish_82 hS hR hrec_7 k0 r0 h
      · skip
        refine xif_n h (fun c h => ?_) (fun c h => ?_)
        · skip
          refine xif_n h (fun c h => ?_) (fun c h => ?_)
          · skip
            exact u_X9_finish_61 hS hR k0 k0 r0 r0 h
          · skip
            exact u_X9_finish_61 hS hR k0 k0 r0 r0 h
        · skip
          exact u_X9_finish_61 hS hR k0 k0 r0 r0 h
theorem u_X9_finish_7 {F P : Nat} {S : xSt} (hS : xWF S) {Rg : Nat → Prop} (hR : xRC S Rg) : ∀ (n : Nat) {v0 : Nat} {v1 : Int32} {D : xDt} {r : xDt}, xK S v0 9 → Rg v0 → f_X9_finish_7 F P S n v0 v1 D = some r → xfr Rg D r := by
  intro n
  induction n with
  | zero => intros; rename_i h; cases h
  | succ n ih =>
    intro v0 v1 D r k0 r0 h
    exact u_X9_finish_7s hS hR (fun k0 r0 h => ih k0 r0 h) k0 r0 h

theorem U_X9_finish {F P : Nat} {S : xSt} (hS : xWF S) {Rg : Nat → Prop} (hR : xRC S Rg) {v0 : Nat} {D : xDt} {r : xDt} (k0 : xK S v0 9) (r0 : Rg v0) (h : f_X9_finish F P S v0 D = some r) : xfr Rg D r := by
  unfold f_X9_finish at h
  refine xlet_e h (fun v1_1 ev1_1 h => ?_)
  exact u_X9_finish_7 hS hR F k0 r0 h

theorem u_X9_putAgents_23 {F P : Nat} {S : xSt} (hS : xWF S) {Rg : Nat → Prop} (hR : xRC S Rg) {rec_2 : Nat → Int32 → Int32 → xDt → Option (xDt)} (hrec_2 : ∀ {v0 : Nat} {v1 : Int32} {v2 : Int32} {D : xDt} {r : xDt}, xK S v0 9 → Rg v0 → rec_2 v0 v1 v2 D = some r → xfr Rg D r) {v0 : Nat} {v1 : Int32} {v2 : Int32} {D : xDt} {r : xDt} (k0 : xK S v0 9) (r0 : Rg v0) (h : f_X9_putAgents_23 F P S rec_2 v0 v1 v2 D = some r) : xfr Rg D r := by
  unfold f_X9_putAgents_23 at h
  refine xlet_e h (fun v2_1 ev2_1 h => ?_)
  exact hrec_2 k0 r0 h

theorem u_X9_putAgents_2s {F P : Nat} {S : xSt} (hS : xWF S) {Rg : Nat → Prop} (hR : xRC S Rg) {rec_2 : Nat → Int32 → Int32 → xDt → Option (xDt)} (hrec_2 : ∀ {v0 : Nat} {v1 : Int32} {v2 : Int32} {D : xDt} {r : xDt}, xK S v0 9 → Rg v0 → rec_2 v0 v1 v2 D = some r → xfr Rg D r) {v0 : Nat} {v1 : Int32} {v2 : Int32} {D : xDt} {r : xDt} (k0 : xK S v0 9) (r0 : Rg v0) (h : f_X9_putAgents_2s F P S rec_2 v0 v1 v2 D = some r) : xfr Rg D r := by
  unfold f_X9_putAgents_2s at h
  refine xif_p h (fun c h => ?_) (fun c h => ?_)
  · skip
    obtain rfl := Option.some.inj h
    exact xfr_rf
  · skip
    refine xbnd_e h (fun q1 e1 h => ?_)
    refine xfr_tr (U_X11_hasAgent hS hR e1) ?_
    refine xif_p h (fun c h => ?_) (fun c h => ?_)
    · skip
      exact u_X9_putAgents_23 hS hR hrec_2 k0 r0 h
    · skip
      refine xbnd_e h (fun q2 e2 h => ?_)
      refine xfr_tr (U_X9_put hS hR k0 r0 e2) ?_
      exact u_X9_putAgents_23 hS hR hrec_2 k0 r0 h
theorem u_X9_putAgents_2 {F P : Nat} {S : xSt} (hS : xWF S) {Rg : Nat → Prop} (hR : xRC S Rg) : ∀ (n : Nat) {v0 : Nat} {v1 : Int32} {v2 : Int32} {D : xDt} {r : xDt}, xK S v0 9 → Rg v0 → f_X9_putAgents_2 F P S n v0 v1 v2 D = some r → xfr Rg D r := by
  intro n
  induction n with
  | zero => intros; rename_i h; cases h
  | succ n ih =>
    intro v0 v1 v2 D r k0 r0 h
    exact u_X9_putAgents_2s hS hR (fun k0 r0 h => ih k0 r0 h) k0 r0 h

theorem U_X9_putAgents {F P : Nat} {S : xSt} (hS : xWF S) {Rg : Nat → Prop} (hR : xRC S Rg) {v0 : Nat} {v1 : Int32} {D : xDt} {r : xDt} (k0 : xK S v0 9) (r0 : Rg v0) (h : f_X9_putAgents F P S v0 v1 D = some r) : xfr Rg D r := by
  unfold f_X9_putAgents at h
  exact u_X9_putAgents_2 hS hR F k0 r0 h

theorem u_X9_isWhole_42 {F P : Nat} {S : xSt} (hS : xWF S) {Rg : Nat → Prop} (hR : xRC S Rg) {D : xDt} {r : Int32 × xDt} (h : f_X9_isWhole_42 F P S D = some r) : xfr Rg D r.2 := by
  unfold f_X9_isWhole_42 at h
  obtain rfl := Option.some.inj h
  exact xfr_rf

theorem U_X9_isWhole {F P : Nat} {S : xSt} (hS : xWF S) {Rg : Nat → Prop} (hR : xRC S Rg) {v0 : Nat} {D : xDt} {r : Int32 × xDt} (k0 : xK S v0 9) (h : f_X9_isWhole F P S v0 D = some r) : xfr Rg D r.2 := by
  unfold f_X9_isWhole at h
  refine xif_n h (fun c h => ?_) (fun c h => ?_)
  · skip
    refine xgrd_e h (fun g1 h => ?_)
    refine xlet_e h (fun v1_2 ev1_2 h => ?_)
    refine xbnd_e h (fun q3 e3 h => ?_)
    refine xfr_tr (U_X11_signOf hS hR e3) ?_
    refine xbnd_e h (fun q4 e4 h => ?_)
    refine xfr_tr (U_X11_isSaying hS hR e4) ?_
    refine xif_p h (fun c h => ?_) (fun c h => ?_)
    · skip
      exact u_X9_isWhole_42 hS hR h
    · skip
      refine xif_n h (fun c h => ?_) (fun c h => ?_)
      · skip
        exact u_X9_isWhole_42 hS hR h
      · skip
        obtain rfl := Option.some.inj h
        exact xfr_rf
  · skip
    obtain rfl := Option.some.inj h
    exact xfr_rf

theorem u_X9_start_45 {F P : Nat} {S : xSt} (hS : xWF S) {Rg : Nat → Prop} (hR : xRC S Rg) {v0 : Nat} {v3 : Int32} {D : xDt} {r : xDt} (k0 : xK S v0 9) (r0 : Rg v0) (h : f_X9_start_45 F P S v0 v3 D = some r) : xfr Rg D r := by
  unfold f_X9_start_45 at h
  refine xif_p h (fun c h => ?_) (fun c h => ?_)
  · skip
    obtain rfl := Option.some.inj h
    exact xfr_rf
  · skip
    refine xlet_e h (fun D1 eD1 h => ?_)
    refine xfr_i r0 eD1 ?_
    refine xgrd_e h (fun g2 h => ?_)
    refine xlet_e h (fun D3 eD3 h => ?_)
    refine xfr_i (hR.1 k0 r0 2 100 rfl) eD3 ?_
    obtain rfl := Option.some.inj h
    exact xfr_rf

theorem U_X9_start {F P : Nat} {S : xSt} (hS : xWF S) {Rg : Nat → Prop} (hR : xRC S Rg) {v0 : Nat} {v1 : Int32} {D : xDt} {r : xDt} (k0 : xK S v0 9) (r0 : Rg v0) (h : f_X9_start F P S v0 v1 D = some r) : xfr Rg D r := by
  unfold f_X9_start at h
  refine xbnd_e h (fun q1 e1 h => ?_)
  refine xfr_tr (U_X11_signOf hS hR e1) ?_
  refine xbnd_e h (fun q2 e2 h => ?_)
  refine xfr_tr (U_X11_isJoin hS hR e2) ?_
  refine xif_n h (fun c h => ?_) (fun c h => ?_)
  · skip
    refine xbnd_e h (fun q3 e3 h => ?_)
    refine xfr_tr (U_X9_isWhole hS hR k0 e3) ?_
    refine xif_n h (fun c h => ?_) (fun c h => ?_)
    · skip
      exact u_X9_start_45 hS hR k0 r0 h
    · skip
      refine xbnd_e h (fun q4 e4 h => ?_)
      refine xfr_tr (U_X9_put hS hR k0 r0 e4) ?_
      refine xlet_e h (fun v3_5 ev3_5 h => ?_)
      exact u_X9_start_45 hS hR k0 r0 h
  · skip
    refine xbnd_e h (fun q6 e6 h => ?_)
    refine xfr_tr (U_X9_put hS hR k0 r0 e6) ?_
    refine xbnd_e h (fun q7 e7 h => ?_)
    refine xfr_tr (U_X9_putAgents hS hR k0 r0 e7) ?_
    exact u_X9_start_45 hS hR k0 r0 h

theorem u_X9_write_57 {F P : Nat} {S : xSt} (hS : xWF S) {Rg : Nat → Prop} (hR : xRC S Rg) {rec_12 : Nat → Nat → Int32 → xDt → Option (Int32 × xDt)} (hrec_12 : ∀ {v0 : Nat} {v1 : Nat} {v2 : Int32} {D : xDt} {r : Int32 × xDt}, xK S v0 9 → xK S v1 2 → Rg v0 → rec_12 v0 v1 v2 D = some r → xfr Rg D r.2) {v0 : Nat} {v1 : Nat} {v2 : Int32} {D : xDt} {r : Int32 × xDt} (k0 : xK S v0 9) (k1 : xK S v1 2) (r0 : Rg v0) (h : f_X9_write_57 F P S rec_12 v0 v1 v2 D = some r) : xfr Rg D r.2 := by
  unfold f_X9_write_57 at h
  refine xlet_e h (fun v2_1 ev2_1 h => ?_)
  exact hrec_12 k0 k1 r0 h

theorem u_X9_write_12s {F P : Nat} {S : xSt} (hS : xWF S) {Rg : Nat → Prop} (hR : xRC S Rg) {rec_12 : Nat → Nat → Int32 → xDt → Option (Int32 × xDt)} (hrec_12 : ∀ {v0 : Nat} {v1 : Nat} {v2 : Int32} {D : xDt} {r : Int32 × xDt}, xK S v0 9 → xK S v1 2 → Rg v0 → rec_12 v0 v1 v2 D = some r → xfr Rg D r.2) {v0 : Nat} {v1 : Nat} {v2 : Int32} {D : xDt} {r : Int32 × xDt} (k0 : xK S v0 9) (k1 : xK S v1 2) (r0 : Rg v0) (h : f_X9_write_12s F P S rec_12 v0 v1 v2 D = some r) : xfr Rg D r.2 := by
  unfold f_X9_write_12s at h
  refine xif_p h (fun c h => ?_) (fun c h => ?_)
  · skip
    obtain rfl := Option.some.inj h
    exact xfr_rf
  · skip
    refine xgrd_e h (fun g1 h => ?_)
    refine xlet_e h (fun v3_2 ev3_2 h => ?_)
    refine xbnd_e h (fun q3 e3 h => ?_)
    refine xfr_tr (U_X11_signOf hS hR e3) ?_
    refine xbnd_e h (fun q4 e4 h => ?_)
    refine xfr_tr (U_X11_isLeaf hS hR e4) ?_
    refine xif_p h (fun c h => ?_) (fun c h => ?_)
    · skip
      refine xbnd_e h (fun q5 e5 h => ?_)
      refine xfr_tr (U_X9_start hS hR k0 r0 e5) ?_
      exact u_X9_write_57 hS hR hrec_12 k0 k1 r0 h
    · skip
      refine xbnd_e h (fun q6 e6 h => ?_)
      refine xfr_tr (U_X11_signOf hS hR e6) ?_
      refine xbnd_e h (fun q7 e7 h => ?_)
      refine xfr_tr (U_X9_put hS hR k0 r0 e7) ?_
      refine xbnd_e h (fun q8 e8 h => ?_)
      refine xfr_tr (U_X9_finish hS hR k0 r0 e8) ?_
      exact u_X9_write_57 hS hR hrec_12 k0 k1 r0 h
theorem u_X9_write_12 {F P : Nat} {S : xSt} (hS : xWF S) {Rg : Nat → Prop} (hR : xRC S Rg) : ∀ (n : Nat) {v0 : Nat} {v1 : Nat} {v2 : Int32} {D : xDt} {r : Int32 × xDt}, xK S v0 9 → xK S v1 2 → Rg v0 → f_X9_write_12 F P S n v0 v1 v2 D = some r → xfr Rg D r.2 := by
  intro n
  induction n with
  | zero => intros; rename_i h; cases h
  | succ n ih =>
    intro v0 v1 v2 D r k0 k1 r0 h
    exact u_X9_write_12s hS hR (fun k0 k1 r0 h => ih k0 k1 r0 h) k0 k1 r0 h

theorem U_X9_write {F P : Nat} {S : xSt} (hS : xWF S) {Rg : Nat → Prop} (hR : xRC S Rg) {v0 : Nat} {v1 : Nat} {D : xDt} {r : Int32 × xDt} (k0 : xK S v0 9) (k1 : xK S v1 2) (r0 : Rg v0) (h : f_X9_write F P S v0 v1 D = some r) : xfr Rg D r.2 := by
  unfold f_X9_write at h
  refine xlet_e h (fun D1 eD1 h => ?_)
  refine xfr_i r0 eD1 ?_
  refine xlet_e h (fun D2 eD2 h => ?_)
  refine xfr_i r0 eD2 ?_
  exact u_X9_write_12 hS hR F k0 k1 r0 h

theorem u_X10_has_16 {F P : Nat} {S : xSt} (hS : xWF S) {Rg : Nat → Prop} (hR : xRC S Rg) {D : xDt} {r : Int32 × xDt} (h : f_X10_has_16 F P S D = some r) : xfr Rg D r.2 := by
  unfold f_X10_has_16 at h
  obtain rfl := Option.some.inj h
  exact xfr_rf

theorem U_X10_has {F P : Nat} {S : xSt} (hS : xWF S) {Rg : Nat → Prop} (hR : xRC S Rg) {v0 : Nat} {v1 : Int32} {D : xDt} {r : Int32 × xDt} (k0 : xK S v0 10) (h : f_X10_has F P S v0 v1 D = some r) : xfr Rg D r.2 := by
  unfold f_X10_has at h
  refine xif_p h (fun c h => ?_) (fun c h => ?_)
  · skip
    exact u_X10_has_16 hS hR h
  · skip
    refine xif_p h (fun c h => ?_) (fun c h => ?_)
    · skip
      exact u_X10_has_16 hS hR h
    · skip
      obtain rfl := Option.some.inj h
      exact xfr_rf

theorem u_X10_add_63 {F P : Nat} {S : xSt} (hS : xWF S) {Rg : Nat → Prop} (hR : xRC S Rg) {rec_41 : Nat → Int32 → Int32 → Int32 → xDt → Option (Int32 × xDt)} (hrec_41 : ∀ {v0 : Nat} {v1 : Int32} {v2 : Int32} {v3 : Int32} {D : xDt} {r : Int32 × xDt}, xK S v0 10 → Rg v0 → rec_41 v0 v1 v2 v3 D = some r → xfr Rg D r.2) {v0 : Nat} {v1 : Int32} {v2 : Int32} {v3 : Int32} {s0 : Int32} {s1 : Int32} {s2 : Int32} {s3 : Nat} {D : xDt} {r : Int32 × xDt} (k0 : xK S v0 10) (ks3 : xK S s3 10) (r0 : Rg v0) (rs3 : Rg s3) (h : f_X10_add_63 F P S rec_41 v0 v1 v2 v3 s0 s1 s2 s3 D = some r) : xfr Rg D r.2 := by
  unfold f_X10_add_63 at h
  refine xbnd_e h (fun q1 e1 h => ?_)
  refine xfr_tr (U_X10_setAtom hS hR ks3 rs3 e1) ?_
  refine xlet_e h (fun v3_2 ev3_2 h => ?_)
  exact hrec_41 k0 r0 h

theorem u_X10_add_41s {F P : Nat} {S : xSt} (hS : xWF S) {Rg : Nat → Prop} (hR : xRC S Rg) {rec_41 : Nat → Int32 → Int32 → Int32 → xDt → Option (Int32 × xDt)} (hrec_41 : ∀ {v0 : Nat} {v1 : Int32} {v2 : Int32} {v3 : Int32} {D : xDt} {r : Int32 × xDt}, xK S v0 10 → Rg v0 → rec_41 v0 v1 v2 v3 D = some r → xfr Rg D r.2) {v0 : Nat} {v1 : Int32} {v2 : Int32} {v3 : Int32} {D : xDt} {r : Int32 × xDt} (k0 : xK S v0 10) (r0 : Rg v0) (h : f_X10_add_41s F P S rec_41 v0 v1 v2 v3 D = some r) : xfr Rg D r.2 := by
  unfold f_X10_add_41s at h
  refine xif_p h (fun c h => ?_) (fun c h => ?_)
  · skip
    obtain rfl := Option.some.inj h
    exact xfr_rf
  · skip
    refine xif_p h (fun c h => ?_) (fun c h => ?_)
    · skip
      exact u_X10_add_63 hS hR hrec_41 k0 k0 r0 r0 h
    · skip
      exact u_X10_add_63 hS hR hrec_41 k0 k0 r0 r0 h
theorem u_X10_add_41 {F P : Nat} {S : xSt} (hS : xWF S) {Rg : Nat → Prop} (hR : xRC S Rg) : ∀ (n : Nat) {v0 : Nat} {v1 : Int32} {v2 : Int32} {v3 : Int32} {D : xDt} {r : Int32 × xDt}, xK S v0 10 → Rg v0 → f_X10_add_41 F P S n v0 v1 v2 v3 D = some r → xfr Rg D r.2 := by
  intro n
  induction n with
  | zero => intros; rename_i h; cases h
  | succ n ih =>
    intro v0 v1 v2 v3 D r k0 r0 h
    exact u_X10_add_41s hS hR (fun k0 r0 h => ih k0 r0 h) k0 r0 h

theorem u_X10_add_14s {F P : Nat} {S : xSt} (hS : xWF S) {Rg : Nat → Prop} (hR : xRC S Rg) {rec_14 : Nat → Int32 → Int32 → Int32 → xDt → Option (Int32 × xDt)} (hrec_14 : ∀ {v0 : Nat} {v1 : Int32} {v2 : Int32} {v3 : Int32} {D : xDt} {r : Int32 × xDt}, xK S v0 10 → Rg v0 → rec_14 v0 v1 v2 v3 D = some r → xfr Rg D r.2) {v0 : Nat} {v1 : Int32} {v2 : Int32} {v3 : Int32} {D : xDt} {r : Int32 × xDt} (k0 : xK S v0 10) (r0 : Rg v0) (h : f_X10_add_14s F P S rec_14 v0 v1 v2 v3 D = some r) : xfr Rg D r.2 := by
  unfold f_X10_add_14s at h
  refine xif_p h (fun c h => ?_) (fun c h => ?_)
  · skip
    exact u_X10_add_41 hS hR F k0 r0 h
  · skip
    refine xgrd_e h (fun g1 h => ?_)
    refine xlet_e h (fun D2 eD2 h => ?_)
    refine xfr_l (hR.1 k0 r0 2 101 rfl) eD2 ?_
    refine xlet_e h (fun v3_3 ev3_3 h => ?_)
    exact hrec_14 k0 r0 h
theorem u_X10_add_14 {F P : Nat} {S : xSt} (hS : xWF S) {Rg : Nat → Prop} (hR : xRC S Rg) : ∀ (n : Nat) {v0 : Nat} {v1 : Int32} {v2 : Int32} {v3 : Int32} {D : xDt} {r : Int32 × xDt}, xK S v0 10 → Rg v0 → f_X10_add_14 F P S n v0 v1 v2 v3 D = some r → xfr Rg D r.2 := by
  intro n
  induction n with
  | zero => intros; rename_i h; cases h
  | succ n ih =>
    intro v0 v1 v2 v3 D r k0 r0 h
    exact u_X10_add_14s hS hR (fun k0 r0 h => ih k0 r0 h) k0 r0 h

theorem U_X10_add {F P : Nat} {S : xSt} (hS : xWF S) {Rg : Nat → Prop} (hR : xRC S Rg) {v0 : Nat} {v1 : Int32} {D : xDt} {r : Int32 × xDt} (k0 : xK S v0 10) (r0 : Rg v0) (h : f_X10_add F P S v0 v1 D = some r) : xfr Rg D r.2 := by
  unfold f_X10_add at h
  refine xlet_e h (fun D1 eD1 h => ?_)
  refine xfr_i r0 eD1 ?_
  refine xlet_e h (fun v2_2 ev2_2 h => ?_)
  exact u_X10_add_14 hS hR F k0 r0 h

theorem u_X10_setCells_37 {F P : Nat} {S : xSt} (hS : xWF S) {Rg : Nat → Prop} (hR : xRC S Rg) {rec_3 : Nat → Int32 → Int64 → Int64 → Int32 → xDt → Option (xDt)} (hrec_3 : ∀ {v0 : Nat} {v1 : Int32} {v2 : Int64} {v4 : Int64} {v6 : Int32} {D : xDt} {r : xDt}, xK S v0 10 → Rg v0 → rec_3 v0 v1 v2 v4 v6 D = some r → xfr Rg D r) {v0 : Nat} {v1 : Int32} {v2 : Int64} {v4 : Int64} {v6 : Int32} {D : xDt} {r : xDt} (k0 : xK S v0 10) (r0 : Rg v0) (h : f_X10_setCells_37 F P S rec_3 v0 v1 v2 v4 v6 D = some r) : xfr Rg D r := by
  unfold f_X10_setCells_37 at h
  refine xlet_e h (fun v6_1 ev6_1 h => ?_)
  exact hrec_3 k0 r0 h

theorem u_X10_setCells_3s {F P : Nat} {S : xSt} (hS : xWF S) {Rg : Nat → Prop} (hR : xRC S Rg) {rec_3 : Nat → Int32 → Int64 → Int64 → Int32 → xDt → Option (xDt)} (hrec_3 : ∀ {v0 : Nat} {v1 : Int32} {v2 : Int64} {v4 : Int64} {v6 : Int32} {D : xDt} {r : xDt}, xK S v0 10 → Rg v0 → rec_3 v0 v1 v2 v4 v6 D = some r → xfr Rg D r) {v0 : Nat} {v1 : Int32} {v2 : Int64} {v4 : Int64} {v6 : Int32} {D : xDt} {r : xDt} (k0 : xK S v0 10) (r0 : Rg v0) (h : f_X10_setCells_3s F P S rec_3 v0 v1 v2 v4 v6 D = some r) : xfr Rg D r := by
  unfold f_X10_setCells_3s at h
  refine xif_p h (fun c h => ?_) (fun c h => ?_)
  · skip
    obtain rfl := Option.some.inj h
    exact xfr_rf
  · skip
    refine xif_p h (fun c h => ?_) (fun c h => ?_)
    · skip
      exact u_X10_setCells_37 hS hR hrec_3 k0 r0 h
    · skip
      refine xgrd_e h (fun g1 h => ?_)
      refine xlet_e h (fun D2 eD2 h => ?_)
      refine xfr_l (hR.1 k0 r0 2 101 rfl) eD2 ?_
      exact u_X10_setCells_37 hS hR hrec_3 k0 r0 h
theorem u_X10_setCells_3 {F P : Nat} {S : xSt} (hS : xWF S) {Rg : Nat → Prop} (hR : xRC S Rg) : ∀ (n : Nat) {v0 : Nat} {v1 : Int32} {v2 : Int64} {v4 : Int64} {v6 : Int32} {D : xDt} {r : xDt}, xK S v0 10 → Rg v0 → f_X10_setCells_3 F P S n v0 v1 v2 v4 v6 D = some r → xfr Rg D r := by
  intro n
  induction n with
  | zero => intros; rename_i h; cases h
  | succ n ih =>
    intro v0 v1 v2 v4 v6 D r k0 r0 h
    exact u_X10_setCells_3s hS hR (fun k0 r0 h => ih k0 r0 h) k0 r0 h

theorem U_X10_setCells {F P : Nat} {S : xSt} (hS : xWF S) {Rg : Nat → Prop} (hR : xRC S Rg) {v0 : Nat} {v1 : Int32} {v2 : Int64} {v4 : Int64} {D : xDt} {r : xDt} (k0 : xK S v0 10) (r0 : Rg v0) (h : f_X10_setCells F P S v0 v1 v2 v4 D = some r) : xfr Rg D r := by
  unfold f_X10_setCells at h
  exact u_X10_setCells_3 hS hR F k0 r0 h

theorem U_X10_merge {F P : Nat} {S : xSt} (hS : xWF S) {Rg : Nat → Prop} (hR : xRC S Rg) {v0 : Nat} {v1 : Int32} {v2 : Int32} {v3 : Int32} {D : xDt} {r : Int32 × xDt} (k0 : xK S v0 10) (r0 : Rg v0) (h : f_X10_merge F P S v0 v1 v2 v3 D = some r) : xfr Rg D r.2 := by
  unfold f_X10_merge at h
  refine xbnd_e h (fun q1 e1 h => ?_)
  refine xfr_tr (U_X10_cell hS hR k0 e1) ?_
  refine xbnd_e h (fun q2 e2 h => ?_)
  refine xfr_tr (U_X10_cell hS hR k0 e2) ?_
  refine xlet_e h (fun v4_3 ev4_3 h => ?_)
  refine xbnd_e h (fun q4 e4 h => ?_)
  refine xfr_tr (U_X10_setCells hS hR k0 r0 e4) ?_
  refine xbnd_e h (fun q5 e5 h => ?_)
  refine xfr_tr (U_J13_bitCount_95d88 hS hR e5) ?_
  obtain rfl := Option.some.inj h
  exact xfr_rf

theorem U_X10_part {F P : Nat} {S : xSt} (hS : xWF S) {Rg : Nat → Prop} (hR : xRC S Rg) {v0 : Nat} {v1 : Int32} {v2 : Int32} {D : xDt} {r : Int32 × xDt} (k0 : xK S v0 10) (r0 : Rg v0) (h : f_X10_part F P S v0 v1 v2 D = some r) : xfr Rg D r.2 := by
  unfold f_X10_part at h
  refine xbnd_e h (fun q1 e1 h => ?_)
  refine xfr_tr (U_X10_cell hS hR k0 e1) ?_
  refine xlet_e h (fun v3_2 ev3_2 h => ?_)
  refine xbnd_e h (fun q3 e3 h => ?_)
  refine xfr_tr (U_X10_setCells hS hR k0 r0 e3) ?_
  refine xbnd_e h (fun q4 e4 h => ?_)
  refine xfr_tr (U_X10_setCells hS hR k0 r0 e4) ?_
  refine xbnd_e h (fun q5 e5 h => ?_)
  refine xfr_tr (U_J13_bitCount_95d88 hS hR e5) ?_
  obtain rfl := Option.some.inj h
  exact xfr_rf

theorem u_X10_drawn_6s {F P : Nat} {S : xSt} (hS : xWF S) {Rg : Nat → Prop} (hR : xRC S Rg) {rec_6 : Nat → Int64 → Nat → Int64 → Int32 → xDt → Option (Int64 × xDt)} (hrec_6 : ∀ {v0 : Nat} {v1 : Int64} {v3 : Nat} {v4 : Int64} {v6 : Int32} {D : xDt} {r : Int64 × xDt}, xK S v0 10 → xK S v3 100 → rec_6 v0 v1 v3 v4 v6 D = some r → xfr Rg D r.2) {v0 : Nat} {v1 : Int64} {v3 : Nat} {v4 : Int64} {v6 : Int32} {D : xDt} {r : Int64 × xDt} (k0 : xK S v0 10) (k3 : xK S v3 100) (h : f_X10_drawn_6s F P S rec_6 v0 v1 v3 v4 v6 D = some r) : xfr Rg D r.2 := by
  unfold f_X10_drawn_6s at h
  refine xif_p h (fun c h => ?_) (fun c h => ?_)
  · skip
    obtain rfl := Option.some.inj h
    exact xfr_rf
  · skip
    refine xgrd_e h (fun g1 h => ?_)
    refine xlet_e h (fun v4_2 ev4_2 h => ?_)
    refine xlet_e h (fun v6_3 ev6_3 h => ?_)
    exact hrec_6 k0 k3 h
theorem u_X10_drawn_6 {F P : Nat} {S : xSt} (hS : xWF S) {Rg : Nat → Prop} (hR : xRC S Rg) : ∀ (n : Nat) {v0 : Nat} {v1 : Int64} {v3 : Nat} {v4 : Int64} {v6 : Int32} {D : xDt} {r : Int64 × xDt}, xK S v0 10 → xK S v3 100 → f_X10_drawn_6 F P S n v0 v1 v3 v4 v6 D = some r → xfr Rg D r.2 := by
  intro n
  induction n with
  | zero => intros; rename_i h; cases h
  | succ n ih =>
    intro v0 v1 v3 v4 v6 D r k0 k3 h
    exact u_X10_drawn_6s hS hR (fun k0 k3 h => ih k0 k3 h) k0 k3 h

theorem U_X10_drawn {F P : Nat} {S : xSt} (hS : xWF S) {Rg : Nat → Prop} (hR : xRC S Rg) {v0 : Nat} {v1 : Int64} {v3 : Nat} {D : xDt} {r : Int64 × xDt} (k0 : xK S v0 10) (k3 : xK S v3 100) (h : f_X10_drawn F P S v0 v1 v3 D = some r) : xfr Rg D r.2 := by
  unfold f_X10_drawn at h
  exact u_X10_drawn_6 hS hR F k0 k3 h

theorem u_X10_take_65s {F P : Nat} {S : xSt} (hS : xWF S) {Rg : Nat → Prop} (hR : xRC S Rg) {rec_49 : Nat → Nat → Nat → Int32 → xDt → Option (xDt)} (hrec_49 : ∀ {v0 : Nat} {v2 : Nat} {v3 : Nat} {v5 : Int32} {D : xDt} {r : xDt}, xK S v0 10 → xK S v2 101 → xK S v3 100 → Rg v0 → rec_49 v0 v2 v3 v5 D = some r → xfr Rg D r) {rec_65 : Nat → Nat → Nat → Int32 → Int32 → Int32 → xDt → Option (xDt)} (hrec_65 : ∀ {v0 : Nat} {v2 : Nat} {v3 : Nat} {v5 : Int32} {v6 : Int32} {v7 : Int32} {D : xDt} {r : xDt}, xK S v0 10 → xK S v2 101 → xK S v3 100 → Rg v0 → rec_65 v0 v2 v3 v5 v6 v7 D = some r → xfr Rg D r) {v0 : Nat} {v2 : Nat} {v3 : Nat} {v5 : Int32} {v6 : Int32} {v7 : Int32} {D : xDt} {r : xDt} (k0 : xK S v0 10) (k2 : xK S v2 101) (k3 : xK S v3 100) (r0 : Rg v0) (h : f_X10_take_65s F P S rec_49 rec_65 v0 v2 v3 v5 v6 v7 D = some r) : xfr Rg D r := by
  unfold f_X10_take_65s at h
  refine xif_p h (fun c h => ?_) (fun c h => ?_)
  · skip
    refine xlet_e h (fun v5_1 ev5_1 h => ?_)
    exact hrec_49 k0 k2 k3 r0 h
  · skip
    refine xgrd_e h (fun g2 h => ?_)
    refine xgrd_e h (fun g3 h => ?_)
    refine xbnd_e h (fun q4 e4 h => ?_)
    refine xfr_tr (U_X10_drawn hS hR k0 k3 e4) ?_
    refine xgrd_e h (fun g5 h => ?_)
    refine xlet_e h (fun D6 eD6 h => ?_)
    refine xfr_l (hR.1 k0 r0 2 101 rfl) eD6 ?_
    refine xlet_e h (fun v7_7 ev7_7 h => ?_)
    exact hrec_65 k0 k2 k3 r0 h
theorem u_X10_take_65 {F P : Nat} {S : xSt} (hS : xWF S) {Rg : Nat → Prop} (hR : xRC S Rg) {rec_49 : Nat → Nat → Nat → Int32 → xDt → Option (xDt)} (hrec_49 : ∀ {v0 : Nat} {v2 : Nat} {v3 : Nat} {v5 : Int32} {D : xDt} {r : xDt}, xK S v0 10 → xK S v2 101 → xK S v3 100 → Rg v0 → rec_49 v0 v2 v3 v5 D = some r → xfr Rg D r) : ∀ (n : Nat) {v0 : Nat} {v2 : Nat} {v3 : Nat} {v5 : Int32} {v6 : Int32} {v7 : Int32} {D : xDt} {r : xDt}, xK S v0 10 → xK S v2 101 → xK S v3 100 → Rg v0 → f_X10_take_65 F P S rec_49 n v0 v2 v3 v5 v6 v7 D = some r → xfr Rg D r := by
  intro n
  induction n with
  | zero => intros; rename_i h; cases h
  | succ n ih =>
    intro v0 v2 v3 v5 v6 v7 D r k0 k2 k3 r0 h
    exact u_X10_take_65s hS hR hrec_49 (fun k0 k2 k3 r0 h => ih k0 k2 k3 r0 h) k0 k2 k3 r0 h

theorem u_X10_take_49s {F P : Nat} {S : xSt} (hS : xWF S) {Rg : Nat → Prop} (hR : xRC S Rg) {rec_49 : Nat → Nat → Nat → Int32 → xDt → Option (xDt)} (hrec_49 : ∀ {v0 : Nat} {v2 : Nat} {v3 : Nat} {v5 : Int32} {D : xDt} {r : xDt}, xK S v0 10 → xK S v2 101 → xK S v3 100 → Rg v0 → rec_49 v0 v2 v3 v5 D = some r → xfr Rg D r) {v0 : Nat} {v2 : Nat} {v3 : Nat} {v5 : Int32} {D : xDt} {r : xDt} (k0 : xK S v0 10) (k2 : xK S v2 101) (k3 : xK S v3 100) (r0 : Rg v0) (h : f_X10_take_49s F P S rec_49 v0 v2 v3 v5 D = some r) : xfr Rg D r := by
  unfold f_X10_take_49s at h
  refine xif_p h (fun c h => ?_) (fun c h => ?_)
  · skip
    obtain rfl := Option.some.inj h
    exact xfr_rf
  · skip
    refine xlet_e h (fun v6_1 ev6_1 h => ?_)
    exact u_X10_take_65 hS hR hrec_49 F k0 k2 k3 r0 h
theorem u_X10_take_49 {F P : Nat} {S : xSt} (hS : xWF S) {Rg : Nat → Prop} (hR : xRC S Rg) : ∀ (n : Nat) {v0 : Nat} {v2 : Nat} {v3 : Nat} {v5 : Int32} {D : xDt} {r : xDt}, xK S v0 10 → xK S v2 101 → xK S v3 100 → Rg v0 → f_X10_take_49 F P S n v0 v2 v3 v5 D = some r → xfr Rg D r := by
  intro n
  induction n with
  | zero => intros; rename_i h; cases h
  | succ n ih =>
    intro v0 v2 v3 v5 D r k0 k2 k3 r0 h
    exact u_X10_take_49s hS hR (fun k0 k2 k3 r0 h => ih k0 k2 k3 r0 h) k0 k2 k3 r0 h

theorem u_X10_take_14s {F P : Nat} {S : xSt} (hS : xWF S) {Rg : Nat → Prop} (hR : xRC S Rg) {rec_14 : Nat → Nat → Nat → Nat → Int32 → xDt → Option (xDt)} (hrec_14 : ∀ {v0 : Nat} {v1 : Nat} {v2 : Nat} {v3 : Nat} {v5 : Int32} {D : xDt} {r : xDt}, xK S v0 10 → xK S v1 10 → xK S v2 101 → xK S v3 100 → Rg v0 → rec_14 v0 v1 v2 v3 v5 D = some r → xfr Rg D r) {v0 : Nat} {v1 : Nat} {v2 : Nat} {v3 : Nat} {v5 : Int32} {D : xDt} {r : xDt} (k0 : xK S v0 10) (k1 : xK S v1 10) (k2 : xK S v2 101) (k3 : xK S v3 100) (r0 : Rg v0) (h : f_X10_take_14s F P S rec_14 v0 v1 v2 v3 v5 D = some r) : xfr Rg D r := by
  unfold f_X10_take_14s at h
  refine xif_p h (fun c h => ?_) (fun c h => ?_)
  · skip
    exact u_X10_take_49 hS hR F k0 k2 k3 r0 h
  · skip
    refine xgrd_e h (fun g1 h => ?_)
    refine xbnd_e h (fun q2 e2 h => ?_)
    refine xfr_tr (U_X10_drawn hS hR k0 k3 e2) ?_
    refine xgrd_e h (fun g3 h => ?_)
    refine xlet_e h (fun D4 eD4 h => ?_)
    refine xfr_l (hR.1 k0 r0 1 101 rfl) eD4 ?_
    refine xlet_e h (fun v5_5 ev5_5 h => ?_)
    exact hrec_14 k0 k1 k2 k3 r0 h
theorem u_X10_take_14 {F P : Nat} {S : xSt} (hS : xWF S) {Rg : Nat → Prop} (hR : xRC S Rg) : ∀ (n : Nat) {v0 : Nat} {v1 : Nat} {v2 : Nat} {v3 : Nat} {v5 : Int32} {D : xDt} {r : xDt}, xK S v0 10 → xK S v1 10 → xK S v2 101 → xK S v3 100 → Rg v0 → f_X10_take_14 F P S n v0 v1 v2 v3 v5 D = some r → xfr Rg D r := by
  intro n
  induction n with
  | zero => intros; rename_i h; cases h
  | succ n ih =>
    intro v0 v1 v2 v3 v5 D r k0 k1 k2 k3 r0 h
    exact u_X10_take_14s hS hR (fun k0 k1 k2 k3 r0 h => ih k0 k1 k2 k3 r0 h) k0 k1 k2 k3 r0 h

theorem U_X10_take {F P : Nat} {S : xSt} (hS : xWF S) {Rg : Nat → Prop} (hR : xRC S Rg) {v0 : Nat} {v1 : Nat} {v2 : Nat} {v3 : Nat} {v4 : Int32} {D : xDt} {r : xDt} (k0 : xK S v0 10) (k1 : xK S v1 10) (k2 : xK S v2 101) (k3 : xK S v3 100) (r0 : Rg v0) (h : f_X10_take F P S v0 v1 v2 v3 v4 D = some r) : xfr Rg D r := by
  unfold f_X10_take at h
  refine xlet_e h (fun D1 eD1 h => ?_)
  refine xfr_i r0 eD1 ?_
  exact u_X10_take_14 hS hR F k0 k1 k2 k3 r0 h

theorem U_X11_worldsEdited {F P : Nat} {S : xSt} (hS : xWF S) {Rg : Nat → Prop} (hR : xRC S Rg) {v0 : Nat} {D : xDt} {r : xDt} (k0 : xK S v0 11) (r0 : Rg v0) (h : f_X11_worldsEdited F P S v0 D = some r) : xfr Rg D r := by
  unfold f_X11_worldsEdited at h
  refine xlet_e h (fun D1 eD1 h => ?_)
  refine xfr_i (hR.1 k0 r0 1 5 rfl) eD1 ?_
  refine xlet_e h (fun D2 eD2 h => ?_)
  refine xfr_i r0 eD2 ?_
  obtain rfl := Option.some.inj h
  exact xfr_rf

theorem U_X11_world {F P : Nat} {S : xSt} (hS : xWF S) {Rg : Nat → Prop} (hR : xRC S Rg) {v0 : Nat} {v1 : Int32} {D : xDt} {r : Int32 × xDt} (k0 : xK S v0 11) (r0 : Rg v0) (h : f_X11_world F P S v0 v1 D = some r) : xfr Rg D r.2 := by
  unfold f_X11_world at h
  refine xif_p h (fun c h => ?_) (fun c h => ?_)
  · skip
    obtain rfl := Option.some.inj h
    exact xfr_rf
  · skip
    refine xif_p h (fun c h => ?_) (fun c h => ?_)
    · skip
      obtain rfl := Option.some.inj h
      exact xfr_rf
    · skip
      refine xif_p h (fun c h => ?_) (fun c h => ?_)
      · skip
        refine xbnd_e h (fun q1 e1 h => ?_)
        refine xfr_tr (U_X11_worldsEdited hS hR k0 r0 e1) ?_
        refine xbnd_e h (fun q2 e2 h => ?_)
        refine xfr_tr (U_X10_add hS hR ((hS.f k0 0 10 rfl).2) (hR.1 k0 r0 0 10 rfl) e2) ?_
        obtain rfl := Option.some.inj h
        exact xfr_rf
      · skip
        obtain rfl := Option.some.inj h
        exact xfr_rf

theorem u_X11_isAgent_14 {F P : Nat} {S : xSt} (hS : xWF S) {Rg : Nat → Prop} (hR : xRC S Rg) {D : xDt} {r : Int32 × xDt} (h : f_X11_isAgent_14 F P S D = some r) : xfr Rg D r.2 := by
  unfold f_X11_isAgent_14 at h
  obtain rfl := Option.some.inj h
  exact xfr_rf

theorem U_X11_isAgent {F P : Nat} {S : xSt} (hS : xWF S) {Rg : Nat → Prop} (hR : xRC S Rg) {v0 : Int32} {D : xDt} {r : Int32 × xDt} (h : f_X11_isAgent F P S v0 D = some r) : xfr Rg D r.2 := by
  unfold f_X11_isAgent at h
  refine xif_p h (fun c h => ?_) (fun c h => ?_)
  · skip
    exact u_X11_isAgent_14 hS hR h
  · skip
    refine xif_p h (fun c h => ?_) (fun c h => ?_)
    · skip
      exact u_X11_isAgent_14 hS hR h
    · skip
      obtain rfl := Option.some.inj h
      exact xfr_rf

theorem U_X11_tie {F P : Nat} {S : xSt} (hS : xWF S) {Rg : Nat → Prop} (hR : xRC S Rg) {v0 : Nat} {v1 : Int32} {v2 : Int32} {v3 : Int32} {D : xDt} {r : Int32 × xDt} (k0 : xK S v0 11) (r0 : Rg v0) (h : f_X11_tie F P S v0 v1 v2 v3 D = some r) : xfr Rg D r.2 := by
  unfold f_X11_tie at h
  refine xbnd_e h (fun q1 e1 h => ?_)
  refine xfr_tr (U_X11_isAgent hS hR e1) ?_
  refine xif_p h (fun c h => ?_) (fun c h => ?_)
  · skip
    obtain rfl := Option.some.inj h
    exact xfr_rf
  · skip
    refine xbnd_e h (fun q2 e2 h => ?_)
    refine xfr_tr (U_X10_has hS hR ((hS.f k0 0 10 rfl).2) e2) ?_
    refine xif_p h (fun c h => ?_) (fun c h => ?_)
    · skip
      obtain rfl := Option.some.inj h
      exact xfr_rf
    · skip
      refine xbnd_e h (fun q3 e3 h => ?_)
      refine xfr_tr (U_X10_has hS hR ((hS.f k0 0 10 rfl).2) e3) ?_
      refine xif_n h (fun c h => ?_) (fun c h => ?_)
      · skip
        refine xbnd_e h (fun q4 e4 h => ?_)
        refine xfr_tr (U_X11_worldsEdited hS hR k0 r0 e4) ?_
        refine xbnd_e h (fun q5 e5 h => ?_)
        refine xfr_tr (U_X10_merge hS hR ((hS.f k0 0 10 rfl).2) (hR.1 k0 r0 0 10 rfl) e5) ?_
        obtain rfl := Option.some.inj h
        exact xfr_rf
      · skip
        obtain rfl := Option.some.inj h
        exact xfr_rf

theorem U_X11_alone {F P : Nat} {S : xSt} (hS : xWF S) {Rg : Nat → Prop} (hR : xRC S Rg) {v0 : Nat} {v1 : Int32} {v2 : Int32} {D : xDt} {r : Int32 × xDt} (k0 : xK S v0 11) (r0 : Rg v0) (h : f_X11_alone F P S v0 v1 v2 D = some r) : xfr Rg D r.2 := by
  unfold f_X11_alone at h
  refine xbnd_e h (fun q1 e1 h => ?_)
  refine xfr_tr (U_X11_isAgent hS hR e1) ?_
  refine xif_p h (fun c h => ?_) (fun c h => ?_)
  · skip
    obtain rfl := Option.some.inj h
    exact xfr_rf
  · skip
    refine xbnd_e h (fun q2 e2 h => ?_)
    refine xfr_tr (U_X10_has hS hR ((hS.f k0 0 10 rfl).2) e2) ?_
    refine xif_n h (fun c h => ?_) (fun c h => ?_)
    · skip
      refine xbnd_e h (fun q3 e3 h => ?_)
      refine xfr_tr (U_X11_worldsEdited hS hR k0 r0 e3) ?_
      refine xbnd_e h (fun q4 e4 h => ?_)
      refine xfr_tr (U_X10_part hS hR ((hS.f k0 0 10 rfl).2) (hR.1 k0 r0 0 10 rfl) e4) ?_
      obtain rfl := Option.some.inj h
      exact xfr_rf
    · skip
      obtain rfl := Option.some.inj h
      exact xfr_rf

theorem u_X11_isAtom_14 {F P : Nat} {S : xSt} (hS : xWF S) {Rg : Nat → Prop} (hR : xRC S Rg) {D : xDt} {r : Int32 × xDt} (h : f_X11_isAtom_14 F P S D = some r) : xfr Rg D r.2 := by
  unfold f_X11_isAtom_14 at h
  obtain rfl := Option.some.inj h
  exact xfr_rf

theorem U_X11_isAtom {F P : Nat} {S : xSt} (hS : xWF S) {Rg : Nat → Prop} (hR : xRC S Rg) {v0 : Int32} {D : xDt} {r : Int32 × xDt} (h : f_X11_isAtom F P S v0 D = some r) : xfr Rg D r.2 := by
  unfold f_X11_isAtom at h
  refine xif_p h (fun c h => ?_) (fun c h => ?_)
  · skip
    exact u_X11_isAtom_14 hS hR h
  · skip
    refine xif_p h (fun c h => ?_) (fun c h => ?_)
    · skip
      exact u_X11_isAtom_14 hS hR h
    · skip
      obtain rfl := Option.some.inj h
      exact xfr_rf

theorem U_X11_atom {F P : Nat} {S : xSt} (hS : xWF S) {Rg : Nat → Prop} (hR : xRC S Rg) {v0 : Nat} {v1 : Int32} {v2 : Int32} {v3 : Int32} {D : xDt} {r : Int32 × xDt} (k0 : xK S v0 11) (r0 : Rg v0) (h : f_X11_atom F P S v0 v1 v2 v3 D = some r) : xfr Rg D r.2 := by
  unfold f_X11_atom at h
  refine xbnd_e h (fun q1 e1 h => ?_)
  refine xfr_tr (U_X10_has hS hR ((hS.f k0 0 10 rfl).2) e1) ?_
  refine xif_p h (fun c h => ?_) (fun c h => ?_)
  · skip
    obtain rfl := Option.some.inj h
    exact xfr_rf
  · skip
    refine xbnd_e h (fun q2 e2 h => ?_)
    refine xfr_tr (U_X11_isAtom hS hR e2) ?_
    refine xif_n h (fun c h => ?_) (fun c h => ?_)
    · skip
      refine xbnd_e h (fun q3 e3 h => ?_)
      refine xfr_tr (U_X11_worldsEdited hS hR k0 r0 e3) ?_
      refine xgrd_e h (fun g4 h => ?_)
      refine xlet_e h (fun v4_5 ev4_5 h => ?_)
      refine xbnd_e h (fun q6 e6 h => ?_)
      refine xfr_tr (U_X10_setAtom hS hR ((hS.f k0 0 10 rfl).2) (hR.1 k0 r0 0 10 rfl) e6) ?_
      obtain rfl := Option.some.inj h
      exact xfr_rf
    · skip
      obtain rfl := Option.some.inj h
      exact xfr_rf

theorem U_X11_told {F P : Nat} {S : xSt} (hS : xWF S) {Rg : Nat → Prop} (hR : xRC S Rg) {v0 : Nat} {v1 : Int32} {v2 : Int32} {D : xDt} {r : Int32 × xDt} (k0 : xK S v0 11) (h : f_X11_told F P S v0 v1 v2 D = some r) : xfr Rg D r.2 := by
  unfold f_X11_told at h
  refine xbnd_e h (fun q1 e1 h => ?_)
  refine xfr_tr (U_X10_has hS hR ((hS.f k0 0 10 rfl).2) e1) ?_
  refine xif_p h (fun c h => ?_) (fun c h => ?_)
  · skip
    obtain rfl := Option.some.inj h
    exact xfr_rf
  · skip
    refine xif_p h (fun c h => ?_) (fun c h => ?_)
    · skip
      obtain rfl := Option.some.inj h
      exact xfr_rf
    · skip
      refine xif_p h (fun c h => ?_) (fun c h => ?_)
      · skip
        refine xif_n h (fun c h => ?_) (fun c h => ?_)
        · skip
          refine xbnd_e h (fun q2 e2 h => ?_)
          refine xfr_tr (U_X10_cell hS hR ((hS.f k0 0 10 rfl).2) e2) ?_
          refine xbnd_e h (fun q3 e3 h => ?_)
          refine xfr_tr (U_X11_lowest hS hR e3) ?_
          obtain rfl := Option.some.inj h
          exact xfr_rf
        · skip
          refine xbnd_e h (fun q4 e4 h => ?_)
          refine xfr_tr (U_X10_atomsOf hS hR ((hS.f k0 0 10 rfl).2) e4) ?_
          obtain rfl := Option.some.inj h
          exact xfr_rf
      · skip
        obtain rfl := Option.some.inj h
        exact xfr_rf

theorem U_X11_type {F P : Nat} {S : xSt} (hS : xWF S) {Rg : Nat → Prop} (hR : xRC S Rg) {v0 : Nat} {v1 : Int32} {D : xDt} {r : Int32 × xDt} (k0 : xK S v0 11) (r0 : Rg v0) (h : f_X11_type F P S v0 v1 D = some r) : xfr Rg D r.2 := by
  unfold f_X11_type at h
  refine xbnd_e h (fun q1 e1 h => ?_)
  refine xfr_tr (U_X6_collect hS hR ((hS.f k0 3 6 rfl).2) (hR.1 k0 r0 3 6 rfl) e1) ?_
  obtain rfl := Option.some.inj h
  exact xfr_rf

theorem U_X11_four {F P : Nat} {S : xSt} (hS : xWF S) {Rg : Nat → Prop} (hR : xRC S Rg) {v0 : Nat} {v1 : Int32} {D : xDt} {r : Int32 × xDt} (k0 : xK S v0 11) (r0 : Rg v0) (h : f_X11_four F P S v0 v1 D = some r) : xfr Rg D r.2 := by
  unfold f_X11_four at h
  refine xbnd_e h (fun q1 e1 h => ?_)
  refine xfr_tr (U_X6_collectFour hS hR ((hS.f k0 3 6 rfl).2) (hR.1 k0 r0 3 6 rfl) e1) ?_
  obtain rfl := Option.some.inj h
  exact xfr_rf

theorem U_X11_handChanged {F P : Nat} {S : xSt} (hS : xWF S) {Rg : Nat → Prop} (hR : xRC S Rg) {v0 : Nat} {D : xDt} {r : xDt} (k0 : xK S v0 11) (r0 : Rg v0) (h : f_X11_handChanged F P S v0 D = some r) : xfr Rg D r := by
  unfold f_X11_handChanged at h
  refine xlet_e h (fun D1 eD1 h => ?_)
  refine xfr_i r0 eD1 ?_
  refine xlet_e h (fun D2 eD2 h => ?_)
  refine xfr_i r0 eD2 ?_
  obtain rfl := Option.some.inj h
  exact xfr_rf

theorem U_X11_formula {F P : Nat} {S : xSt} (hS : xWF S) {Rg : Nat → Prop} (hR : xRC S Rg) {v0 : Nat} {D : xDt} {r : Int32 × xDt} (k0 : xK S v0 11) (r0 : Rg v0) (h : f_X11_formula F P S v0 D = some r) : xfr Rg D r.2 := by
  unfold f_X11_formula at h
  refine xbnd_e h (fun q1 e1 h => ?_)
  refine xfr_tr (U_X6_read hS hR ((hS.f k0 3 6 rfl).2) ((hS.f k0 4 2 rfl).2) (hR.1 k0 r0 3 6 rfl) (hR.1 k0 r0 4 2 rfl) e1) ?_
  refine xif_p h (fun c h => ?_) (fun c h => ?_)
  · skip
    obtain rfl := Option.some.inj h
    exact xfr_rf
  · skip
    refine xbnd_e h (fun q2 e2 h => ?_)
    refine xfr_tr (U_X11_handChanged hS hR k0 r0 e2) ?_
    obtain rfl := Option.some.inj h
    exact xfr_rf

theorem U_X11_truths {F P : Nat} {S : xSt} (hS : xWF S) {Rg : Nat → Prop} (hR : xRC S Rg) {v0 : Nat} {D : xDt} {r : Int64 × xDt} (k0 : xK S v0 11) (r0 : Rg v0) (h : f_X11_truths F P S v0 D = some r) : xfr Rg D r.2 := by
  unfold f_X11_truths at h
  refine xif_n h (fun c h => ?_) (fun c h => ?_)
  · skip
    obtain rfl := Option.some.inj h
    exact xfr_rf
  · skip
    refine xbnd_e h (fun q1 e1 h => ?_)
    refine xfr_tr (U_X3_where hS hR ((hS.f k0 6 3 rfl).2) ((hS.f k0 4 2 rfl).2) ((hS.f k0 0 10 rfl).2) (hR.1 k0 r0 6 3 rfl) e1) ?_
    refine xlet_e h (fun D2 eD2 h => ?_)
    refine xfr_l r0 eD2 ?_
    refine xlet_e h (fun D3 eD3 h => ?_)
    refine xfr_i r0 eD3 ?_
    obtain rfl := Option.some.inj h
    exact xfr_rf

theorem U_X11_holds {F P : Nat} {S : xSt} (hS : xWF S) {Rg : Nat → Prop} (hR : xRC S Rg) {v0 : Nat} {v1 : Int32} {D : xDt} {r : Int32 × xDt} (k0 : xK S v0 11) (r0 : Rg v0) (h : f_X11_holds F P S v0 v1 D = some r) : xfr Rg D r.2 := by
  unfold f_X11_holds at h
  refine xbnd_e h (fun q1 e1 h => ?_)
  refine xfr_tr (U_X10_has hS hR ((hS.f k0 0 10 rfl).2) e1) ?_
  refine xif_n h (fun c h => ?_) (fun c h => ?_)
  · skip
    refine xbnd_e h (fun q2 e2 h => ?_)
    refine xfr_tr (U_X11_truths hS hR k0 r0 e2) ?_
    obtain rfl := Option.some.inj h
    exact xfr_rf
  · skip
    obtain rfl := Option.some.inj h
    exact xfr_rf

theorem U_X11_worlds {F P : Nat} {S : xSt} (hS : xWF S) {Rg : Nat → Prop} (hR : xRC S Rg) {v0 : Nat} {D : xDt} {r : Int32 × xDt} (k0 : xK S v0 11) (r0 : Rg v0) (h : f_X11_worlds F P S v0 D = some r) : xfr Rg D r.2 := by
  unfold f_X11_worlds at h
  refine xbnd_e h (fun q1 e1 h => ?_)
  refine xfr_tr (U_X11_truths hS hR k0 r0 e1) ?_
  refine xbnd_e h (fun q2 e2 h => ?_)
  refine xfr_tr (U_J13_bitCount_95d88 hS hR e2) ?_
  obtain rfl := Option.some.inj h
  exact xfr_rf

theorem U_X11_tell {F P : Nat} {S : xSt} (hS : xWF S) {Rg : Nat → Prop} (hR : xRC S Rg) {v0 : Nat} {D : xDt} {r : Int32 × xDt} (k0 : xK S v0 11) (r0 : Rg v0) (h : f_X11_tell F P S v0 D = some r) : xfr Rg D r.2 := by
  unfold f_X11_tell at h
  refine xbnd_e h (fun q1 e1 h => ?_)
  refine xfr_tr (U_X9_write hS hR ((hS.f k0 5 9 rfl).2) ((hS.f k0 4 2 rfl).2) (hR.1 k0 r0 5 9 rfl) e1) ?_
  obtain rfl := Option.some.inj h
  exact xfr_rf

theorem U_X11_letter {F P : Nat} {S : xSt} (hS : xWF S) {Rg : Nat → Prop} (hR : xRC S Rg) {v0 : Nat} {v1 : Int32} {D : xDt} {r : Int32 × xDt} (k0 : xK S v0 11) (h : f_X11_letter F P S v0 v1 D = some r) : xfr Rg D r.2 := by
  unfold f_X11_letter at h
  refine xif_p h (fun c h => ?_) (fun c h => ?_)
  · skip
    obtain rfl := Option.some.inj h
    exact xfr_rf
  · skip
    refine xif_p h (fun c h => ?_) (fun c h => ?_)
    · skip
      refine xgrd_e h (fun g1 h => ?_)
      obtain rfl := Option.some.inj h
      exact xfr_rf
    · skip
      obtain rfl := Option.some.inj h
      exact xfr_rf

theorem u_X11_choose_34 {F P : Nat} {S : xSt} (hS : xWF S) {Rg : Nat → Prop} (hR : xRC S Rg) {rec_5 : Nat → Int64 → Int32 → Int32 → xDt → Option (Int32 × xDt)} (hrec_5 : ∀ {v0 : Nat} {v1 : Int64} {v3 : Int32} {v4 : Int32} {D : xDt} {r : Int32 × xDt}, xK S v0 11 → Rg v0 → rec_5 v0 v1 v3 v4 D = some r → xfr Rg D r.2) {v0 : Nat} {v1 : Int64} {v3 : Int32} {v4 : Int32} {D : xDt} {r : Int32 × xDt} (k0 : xK S v0 11) (r0 : Rg v0) (h : f_X11_choose_34 F P S rec_5 v0 v1 v3 v4 D = some r) : xfr Rg D r.2 := by
  unfold f_X11_choose_34 at h
  refine xlet_e h (fun v4_1 ev4_1 h => ?_)
  exact hrec_5 k0 r0 h

theorem u_X11_choose_5s {F P : Nat} {S : xSt} (hS : xWF S) {Rg : Nat → Prop} (hR : xRC S Rg) {rec_5 : Nat → Int64 → Int32 → Int32 → xDt → Option (Int32 × xDt)} (hrec_5 : ∀ {v0 : Nat} {v1 : Int64} {v3 : Int32} {v4 : Int32} {D : xDt} {r : Int32 × xDt}, xK S v0 11 → Rg v0 → rec_5 v0 v1 v3 v4 D = some r → xfr Rg D r.2) {v0 : Nat} {v1 : Int64} {v3 : Int32} {v4 : Int32} {D : xDt} {r : Int32 × xDt} (k0 : xK S v0 11) (r0 : Rg v0) (h : f_X11_choose_5s F P S rec_5 v0 v1 v3 v4 D = some r) : xfr Rg D r.2 := by
  unfold f_X11_choose_5s at h
  refine xif_p h (fun c h => ?_) (fun c h => ?_)
  · skip
    obtain rfl := Option.some.inj h
    exact xfr_rf
  · skip
    refine xif_p h (fun c h => ?_) (fun c h => ?_)
    · skip
      exact u_X11_choose_34 hS hR hrec_5 k0 r0 h
    · skip
      refine xlet_e h (fun v3_1 ev3_1 h => ?_)
      refine xgrd_e h (fun g2 h => ?_)
      refine xlet_e h (fun D3 eD3 h => ?_)
      refine xfr_i (hR.1 k0 r0 10 100 rfl) eD3 ?_
      exact u_X11_choose_34 hS hR hrec_5 k0 r0 h
theorem u_X11_choose_5 {F P : Nat} {S : xSt} (hS : xWF S) {Rg : Nat → Prop} (hR : xRC S Rg) : ∀ (n : Nat) {v0 : Nat} {v1 : Int64} {v3 : Int32} {v4 : Int32} {D : xDt} {r : Int32 × xDt}, xK S v0 11 → Rg v0 → f_X11_choose_5 F P S n v0 v1 v3 v4 D = some r → xfr Rg D r.2 := by
  intro n
  induction n with
  | zero => intros; rename_i h; cases h
  | succ n ih =>
    intro v0 v1 v3 v4 D r k0 r0 h
    exact u_X11_choose_5s hS hR (fun k0 r0 h => ih k0 r0 h) k0 r0 h

theorem U_X11_choose {F P : Nat} {S : xSt} (hS : xWF S) {Rg : Nat → Prop} (hR : xRC S Rg) {v0 : Nat} {v1 : Int64} {D : xDt} {r : Int32 × xDt} (k0 : xK S v0 11) (r0 : Rg v0) (h : f_X11_choose F P S v0 v1 D = some r) : xfr Rg D r.2 := by
  unfold f_X11_choose at h
  exact u_X11_choose_5 hS hR F k0 r0 h

theorem U_X11_keptWorlds {F P : Nat} {S : xSt} (hS : xWF S) {Rg : Nat → Prop} (hR : xRC S Rg) {v0 : Nat} {D : xDt} {r : Nat × xDt} (k0 : xK S v0 11) (r0 : Rg v0) (h : f_X11_keptWorlds F P S v0 D = some r) : xfr Rg D r.2 ∧ Rg r.1 := by
  unfold f_X11_keptWorlds at h
  refine xlet_e h (fun D1 e1 h => ?_)
  refine xbnd_e h (fun q2 e2 h => ?_)
  refine xgrd_e h (fun g h => ?_)
  obtain rfl := Option.some.inj h
  have u := U_X5_keep hS hR (hS.f k0 1 5 rfl).2 (hS.f k0 0 10 rfl).2 (hR.1 k0 r0 1 5 rfl) e2
  exact ⟨xfr_i r0 e1 u.1, u.2⟩

theorem U_X11_say {F P : Nat} {S : xSt} (hS : xWF S) {Rg : Nat → Prop} (hR : xRC S Rg) {v0 : Nat} {D : xDt} {r : Int32 × xDt} (k0 : xK S v0 11) (r0 : Rg v0) (h : f_X11_say F P S v0 D = some r) : xfr Rg D r.2 := by
  unfold f_X11_say at h
  refine xbnd_e h (fun q1 e1 h => ?_)
  refine xfr_tr (U_X11_truths hS hR k0 r0 e1) ?_
  refine xbnd_e h (fun q2 e2 h => ?_)
  refine xfr_tr (U_X11_choose hS hR k0 r0 e2) ?_
  refine xif_p h (fun c h => ?_) (fun c h => ?_)
  · skip
    obtain rfl := Option.some.inj h
    exact xfr_rf
  · skip
    refine xif_p h (fun c h => ?_) (fun c h => ?_)
    · skip
      obtain rfl := Option.some.inj h
      exact xfr_rf
    · skip
      refine xbnd_e h (fun q3 e3 h => ?_)
      obtain ⟨uq3, rq3⟩ := U_X11_keptWorlds hS hR k0 r0 e3
      refine xfr_tr uq3 ?_
      refine xgrd_e h (fun g4 h => ?_)
      refine xbnd_e h (fun q5 e5 h => ?_)
      refine xfr_tr (U_X10_take hS hR ((hS.f k0 0 10 rfl).2) (xkb_K g4) ((hS.f (xkb_K g4) 2 101 rfl).2) ((hS.f k0 10 100 rfl).2) (hR.1 k0 r0 0 10 rfl) e5) ?_
      obtain rfl := Option.some.inj h
      exact xfr_rf

theorem U_X11_event {F P : Nat} {S : xSt} (hS : xWF S) {Rg : Nat → Prop} (hR : xRC S Rg) {v0 : Nat} {D : xDt} {r : Int32 × xDt} (k0 : xK S v0 11) (r0 : Rg v0) (h : f_X11_event F P S v0 D = some r) : xfr Rg D r.2 := by
  unfold f_X11_event at h
  refine xbnd_e h (fun q1 e1 h => ?_)
  refine xfr_tr (U_X1_add hS hR ((hS.f k0 2 1 rfl).2) ((hS.f k0 4 2 rfl).2) (hR.1 k0 r0 2 1 rfl) e1) ?_
  obtain rfl := Option.some.inj h
  exact xfr_rf

theorem U_X11_tieEvents {F P : Nat} {S : xSt} (hS : xWF S) {Rg : Nat → Prop} (hR : xRC S Rg) {v0 : Nat} {v1 : Int32} {v2 : Int32} {v3 : Int32} {D : xDt} {r : Int32 × xDt} (k0 : xK S v0 11) (r0 : Rg v0) (h : f_X11_tieEvents F P S v0 v1 v2 v3 D = some r) : xfr Rg D r.2 := by
  unfold f_X11_tieEvents at h
  refine xbnd_e h (fun q1 e1 h => ?_)
  refine xfr_tr (U_X11_isAgent hS hR e1) ?_
  refine xif_p h (fun c h => ?_) (fun c h => ?_)
  · skip
    obtain rfl := Option.some.inj h
    exact xfr_rf
  · skip
    refine xbnd_e h (fun q2 e2 h => ?_)
    refine xfr_tr (U_X1_has hS hR ((hS.f k0 2 1 rfl).2) e2) ?_
    refine xif_p h (fun c h => ?_) (fun c h => ?_)
    · skip
      obtain rfl := Option.some.inj h
      exact xfr_rf
    · skip
      refine xbnd_e h (fun q3 e3 h => ?_)
      refine xfr_tr (U_X1_has hS hR ((hS.f k0 2 1 rfl).2) e3) ?_
      refine xif_n h (fun c h => ?_) (fun c h => ?_)
      · skip
        refine xbnd_e h (fun q4 e4 h => ?_)
        refine xfr_tr (U_X1_merge hS hR ((hS.f k0 2 1 rfl).2) (hR.1 k0 r0 2 1 rfl) e4) ?_
        obtain rfl := Option.some.inj h
        exact xfr_rf
      · skip
        obtain rfl := Option.some.inj h
        exact xfr_rf

theorem U_X11_change {F P : Nat} {S : xSt} (hS : xWF S) {Rg : Nat → Prop} (hR : xRC S Rg) {v0 : Nat} {v1 : Int32} {v2 : Int32} {D : xDt} {r : Int32 × xDt} (k0 : xK S v0 11) (r0 : Rg v0) (h : f_X11_change F P S v0 v1 v2 D = some r) : xfr Rg D r.2 := by
  unfold f_X11_change at h
  refine xbnd_e h (fun q1 e1 h => ?_)
  refine xfr_tr (U_X1_has hS hR ((hS.f k0 2 1 rfl).2) e1) ?_
  refine xif_p h (fun c h => ?_) (fun c h => ?_)
  · skip
    obtain rfl := Option.some.inj h
    exact xfr_rf
  · skip
    refine xbnd_e h (fun q2 e2 h => ?_)
    refine xfr_tr (U_X11_isAtom hS hR e2) ?_
    refine xif_p h (fun c h => ?_) (fun c h => ?_)
    · skip
      obtain rfl := Option.some.inj h
      exact xfr_rf
    · skip
      refine xif_p h (fun c h => ?_) (fun c h => ?_)
      · skip
        refine xbnd_e h (fun q3 e3 h => ?_)
        refine xfr_tr (U_X1_setChange hS hR ((hS.f k0 2 1 rfl).2) ((hS.f k0 4 2 rfl).2) (hR.1 k0 r0 2 1 rfl) e3) ?_
        obtain rfl := Option.some.inj h
        exact xfr_rf
      · skip
        obtain rfl := Option.some.inj h
        exact xfr_rf

theorem U_X11_noEvents {F P : Nat} {S : xSt} (hS : xWF S) {Rg : Nat → Prop} (hR : xRC S Rg) {v0 : Nat} {D : xDt} {r : Int32 × xDt} (k0 : xK S v0 11) (r0 : Rg v0) (h : f_X11_noEvents F P S v0 D = some r) : xfr Rg D r.2 := by
  unfold f_X11_noEvents at h
  refine xlet_e h (fun v1_1 ev1_1 h => ?_)
  refine xlet_e h (fun D2 eD2 h => ?_)
  refine xfr_i (hR.1 k0 r0 2 1 rfl) eD2 ?_
  obtain rfl := Option.some.inj h
  exact xfr_rf

theorem U_X11_happen {F P : Nat} {S : xSt} (hS : xWF S) {Rg : Nat → Prop} (hR : xRC S Rg) {v0 : Nat} {D : xDt} {r : Int32 × xDt} (k0 : xK S v0 11) (r0 : Rg v0) (h : f_X11_happen F P S v0 D = some r) : xfr Rg D r.2 := by
  unfold f_X11_happen at h
  refine xbnd_e h (fun q1 e1 h => ?_)
  refine xfr_tr (U_X1_pair hS hR ((hS.f k0 2 1 rfl).2) ((hS.f k0 0 10 rfl).2) ((hS.f k0 6 3 rfl).2) (hR.1 k0 r0 2 1 rfl) (hR.1 k0 r0 6 3 rfl) e1) ?_
  refine xif_p h (fun c h => ?_) (fun c h => ?_)
  · skip
    refine xif_p h (fun c h => ?_) (fun c h => ?_)
    · skip
      obtain rfl := Option.some.inj h
      exact xfr_rf
    · skip
      refine xbnd_e h (fun q2 e2 h => ?_)
      obtain ⟨uq2, rq2⟩ := U_X11_keptWorlds hS hR k0 r0 e2
      refine xfr_tr uq2 ?_
      refine xgrd_e h (fun g3 h => ?_)
      refine xbnd_e h (fun q4 e4 h => ?_)
      refine xfr_tr (U_X10_take hS hR ((hS.f k0 0 10 rfl).2) (xkb_K g3) ((hS.f (xkb_K g3) 2 101 rfl).2) ((hS.f ((hS.f k0 2 1 rfl).2) 4 100 rfl).2) (hR.1 k0 r0 0 10 rfl) e4) ?_
      refine xbnd_e h (fun q5 e5 h => ?_)
      refine xfr_tr (U_X1_narrowCells hS hR ((hS.f k0 2 1 rfl).2) ((hS.f k0 0 10 rfl).2) (hR.1 k0 r0 0 10 rfl) e5) ?_
      refine xbnd_e h (fun q6 e6 h => ?_)
      refine xfr_tr (U_X1_changeAtoms hS hR ((hS.f k0 2 1 rfl).2) ((hS.f k0 0 10 rfl).2) (xkb_K g3) ((hS.f k0 6 3 rfl).2) (hR.1 k0 r0 0 10 rfl) (hR.1 k0 r0 6 3 rfl) e6) ?_
      obtain rfl := Option.some.inj h
      exact xfr_rf
  · skip
    obtain rfl := Option.some.inj h
    exact xfr_rf

theorem U_X11_back {F P : Nat} {S : xSt} (hS : xWF S) {Rg : Nat → Prop} (hR : xRC S Rg) {v0 : Nat} {D : xDt} {r : Int32 × xDt} (k0 : xK S v0 11) (r0 : Rg v0) (h : f_X11_back F P S v0 D = some r) : xfr Rg D r.2 := by
  unfold f_X11_back at h
  refine xif_n h (fun c h => ?_) (fun c h => ?_)
  · skip
    refine xbnd_e h (fun q1 e1 h => ?_)
    refine xfr_tr (U_X5_restore hS hR ((hS.f k0 1 5 rfl).2) ((hS.f k0 0 10 rfl).2) (hR.1 k0 r0 1 5 rfl) (hR.1 k0 r0 0 10 rfl) e1) ?_
    refine xlet_e h (fun D2 eD2 h => ?_)
    refine xfr_i r0 eD2 ?_
    obtain rfl := Option.some.inj h
    exact xfr_rf
  · skip
    obtain rfl := Option.some.inj h
    exact xfr_rf

theorem U_X11_contract {F P : Nat} {S : xSt} (hS : xWF S) {Rg : Nat → Prop} (hR : xRC S Rg) {v0 : Nat} {D : xDt} {r : Int32 × xDt} (k0 : xK S v0 11) (r0 : Rg v0) (h : f_X11_contract F P S v0 D = some r) : xfr Rg D r.2 := by
  unfold f_X11_contract at h
  refine xbnd_e h (fun q1 e1 h => ?_)
  refine xfr_tr (U_X4_settle hS hR ((hS.f k0 7 4 rfl).2) ((hS.f k0 0 10 rfl).2) (hR.1 k0 r0 7 4 rfl) e1) ?_
  refine xbnd_e h (fun q2 e2 h => ?_)
  refine xfr_tr (U_X4_firsts hS hR ((hS.f k0 7 4 rfl).2) ((hS.f k0 0 10 rfl).2) e2) ?_
  refine xbnd_e h (fun q3 e3 h => ?_)
  refine xfr_tr (U_X11_choose hS hR k0 r0 e3) ?_
  refine xif_p h (fun c h => ?_) (fun c h => ?_)
  · skip
    obtain rfl := Option.some.inj h
    exact xfr_rf
  · skip
    refine xbnd_e h (fun q4 e4 h => ?_)
    obtain ⟨uq4, rq4⟩ := U_X11_keptWorlds hS hR k0 r0 e4
    refine xfr_tr uq4 ?_
    refine xgrd_e h (fun g5 h => ?_)
    refine xbnd_e h (fun q6 e6 h => ?_)
    refine xfr_tr (U_X10_take hS hR ((hS.f k0 0 10 rfl).2) (xkb_K g5) ((hS.f ((hS.f k0 7 4 rfl).2) 1 101 rfl).2) ((hS.f k0 10 100 rfl).2) (hR.1 k0 r0 0 10 rfl) e6) ?_
    obtain rfl := Option.some.inj h
    exact xfr_rf

theorem U_X11_differ {F P : Nat} {S : xSt} (hS : xWF S) {Rg : Nat → Prop} (hR : xRC S Rg) {v0 : Nat} {v1 : Int32} {v2 : Int32} {D : xDt} {r : Int32 × xDt} (k0 : xK S v0 11) (r0 : Rg v0) (h : f_X11_differ F P S v0 v1 v2 D = some r) : xfr Rg D r.2 := by
  unfold f_X11_differ at h
  refine xbnd_e h (fun q1 e1 h => ?_)
  refine xfr_tr (U_X10_has hS hR ((hS.f k0 0 10 rfl).2) e1) ?_
  refine xif_p h (fun c h => ?_) (fun c h => ?_)
  · skip
    obtain rfl := Option.some.inj h
    exact xfr_rf
  · skip
    refine xbnd_e h (fun q2 e2 h => ?_)
    refine xfr_tr (U_X10_has hS hR ((hS.f k0 0 10 rfl).2) e2) ?_
    refine xif_n h (fun c h => ?_) (fun c h => ?_)
    · skip
      refine xbnd_e h (fun q3 e3 h => ?_)
      refine xfr_tr (U_X4_difference hS hR ((hS.f k0 7 4 rfl).2) ((hS.f k0 0 10 rfl).2) (hR.1 k0 r0 7 4 rfl) e3) ?_
      obtain rfl := Option.some.inj h
      exact xfr_rf
    · skip
      obtain rfl := Option.some.inj h
      exact xfr_rf

theorem U_X11_reduce {F P : Nat} {S : xSt} (hS : xWF S) {Rg : Nat → Prop} (hR : xRC S Rg) {v0 : Nat} {D : xDt} {r : Int32 × xDt} (k0 : xK S v0 11) (r0 : Rg v0) (h : f_X11_reduce F P S v0 D = some r) : xfr Rg D r.2 := by
  unfold f_X11_reduce at h
  refine xbnd_e h (fun q1 e1 h => ?_)
  refine xfr_tr (U_X7_apply hS hR ((hS.f k0 8 7 rfl).2) ((hS.f k0 4 2 rfl).2) (hR.1 k0 r0 8 7 rfl) (hR.1 k0 r0 4 2 rfl) e1) ?_
  refine xif_p h (fun c h => ?_) (fun c h => ?_)
  · skip
    obtain rfl := Option.some.inj h
    exact xfr_rf
  · skip
    refine xbnd_e h (fun q2 e2 h => ?_)
    refine xfr_tr (U_X11_handChanged hS hR k0 r0 e2) ?_
    obtain rfl := Option.some.inj h
    exact xfr_rf

theorem u_X11_decide_35 {F P : Nat} {S : xSt} (hS : xWF S) {Rg : Nat → Prop} (hR : xRC S Rg) {v0 : Nat} {v1 : Int32} {D : xDt} {r : Int32 × xDt} (k0 : xK S v0 11) (h : f_X11_decide_35 F P S v0 v1 D = some r) : xfr Rg D r.2 := by
  unfold f_X11_decide_35 at h
  refine xgrd_e h (fun g1 h => ?_)
  obtain rfl := Option.some.inj h
  exact xfr_rf

theorem U_X11_decide {F P : Nat} {S : xSt} (hS : xWF S) {Rg : Nat → Prop} (hR : xRC S Rg) {v0 : Nat} {v1 : Int32} {D : xDt} {r : Int32 × xDt} (k0 : xK S v0 11) (r0 : Rg v0) (h : f_X11_decide F P S v0 v1 D = some r) : xfr Rg D r.2 := by
  unfold f_X11_decide at h
  refine xif_p h (fun c h => ?_) (fun c h => ?_)
  · skip
    obtain rfl := Option.some.inj h
    exact xfr_rf
  · skip
    refine xif_p h (fun c h => ?_) (fun c h => ?_)
    · skip
      refine xif_n h (fun c h => ?_) (fun c h => ?_)
      · skip
        exact u_X11_decide_35 hS hR k0 h
      · skip
        refine xbnd_e h (fun q1 e1 h => ?_)
        refine xfr_tr (U_X0_work hS hR ((hS.f k0 9 0 rfl).2) ((hS.f k0 4 2 rfl).2) (hR.1 k0 r0 9 0 rfl) e1) ?_
        refine xlet_e h (fun D2 eD2 h => ?_)
        refine xfr_i r0 eD2 ?_
        exact u_X11_decide_35 hS hR k0 h
    · skip
      obtain rfl := Option.some.inj h
      exact xfr_rf

theorem U_X11_count {F P : Nat} {S : xSt} (hS : xWF S) {Rg : Nat → Prop} (hR : xRC S Rg) {v0 : Nat} {v1 : Int32} {D : xDt} {r : Int32 × xDt} (k0 : xK S v0 11) (r0 : Rg v0) (h : f_X11_count F P S v0 v1 D = some r) : xfr Rg D r.2 := by
  unfold f_X11_count at h
  by_cases c0 : v1 = 0
  · rw [if_pos c0] at h
    obtain rfl := Option.some.inj h
    exact xfr_rf
  · rw [if_neg c0] at h
    by_cases c1 : v1 = 1
    · rw [if_pos c1] at h
      obtain rfl := Option.some.inj h
      exact xfr_rf
    · rw [if_neg c1] at h
      by_cases c2 : v1 = 2
      · rw [if_pos c2] at h
        obtain rfl := Option.some.inj h
        exact xfr_rf
      · rw [if_neg c2] at h
        by_cases c3 : v1 = 3
        · rw [if_pos c3] at h
          obtain rfl := Option.some.inj h
          exact xfr_rf
        · rw [if_neg c3] at h
          by_cases c4 : v1 = 4
          · rw [if_pos c4] at h
            obtain rfl := Option.some.inj h
            exact xfr_rf
          · rw [if_neg c4] at h
            by_cases c5 : v1 = 5
            · rw [if_pos c5] at h
              refine xbnd_e h (fun q1 e1 h => ?_)
              refine xfr_tr (U_X2_depth hS hR ((hS.f k0 4 2 rfl).2) ((hS.f k0 11 100 rfl).2) (hR.1 k0 r0 11 100 rfl) e1) ?_
              obtain rfl := Option.some.inj h
              exact xfr_rf
            · rw [if_neg c5] at h
              obtain rfl := Option.some.inj h
              exact xfr_rf

theorem u_X12_in_14 {F P : Nat} {S : xSt} (hS : xWF S) {Rg : Nat → Prop} (hR : xRC S Rg) {D : xDt} {r : Int32 × xDt} (h : f_X12_in_14 F P S D = some r) : xfr Rg D r.2 := by
  unfold f_X12_in_14 at h
  obtain rfl := Option.some.inj h
  exact xfr_rf

theorem U_X12_in {F P : Nat} {S : xSt} (hS : xWF S) {Rg : Nat → Prop} (hR : xRC S Rg) {v0 : Int32} {v1 : Int32} {v2 : Int32} {D : xDt} {r : Int32 × xDt} (h : f_X12_in F P S v0 v1 v2 D = some r) : xfr Rg D r.2 := by
  unfold f_X12_in at h
  refine xif_p h (fun c h => ?_) (fun c h => ?_)
  · skip
    exact u_X12_in_14 hS hR h
  · skip
    refine xif_p h (fun c h => ?_) (fun c h => ?_)
    · skip
      exact u_X12_in_14 hS hR h
    · skip
      obtain rfl := Option.some.inj h
      exact xfr_rf

theorem U_X12_isWorld {F P : Nat} {S : xSt} (hS : xWF S) {Rg : Nat → Prop} (hR : xRC S Rg) {v0 : Nat} {v1 : Int32} {D : xDt} {r : Int32 × xDt} (k0 : xK S v0 12) (h : f_X12_isWorld F P S v0 v1 D = some r) : xfr Rg D r.2 := by
  unfold f_X12_isWorld at h
  refine xbnd_e h (fun q1 e1 h => ?_)
  refine xfr_tr (U_X12_in hS hR e1) ?_
  refine xgrd_e h (fun g2 h => ?_)
  obtain rfl := Option.some.inj h
  exact xfr_rf

theorem U_X12_isAgent {F P : Nat} {S : xSt} (hS : xWF S) {Rg : Nat → Prop} (hR : xRC S Rg) {v0 : Int32} {D : xDt} {r : Int32 × xDt} (h : f_X12_isAgent F P S v0 D = some r) : xfr Rg D r.2 := by
  unfold f_X12_isAgent at h
  refine xbnd_e h (fun q1 e1 h => ?_)
  refine xfr_tr (U_X12_in hS hR e1) ?_
  refine xgrd_e h (fun g2 h => ?_)
  obtain rfl := Option.some.inj h
  exact xfr_rf

theorem U_X12_cell {F P : Nat} {S : xSt} (hS : xWF S) {Rg : Nat → Prop} (hR : xRC S Rg) {v0 : Nat} {v1 : Int32} {v2 : Int32} {D : xDt} {r : Int32 × xDt} (k0 : xK S v0 12) (h : f_X12_cell F P S v0 v1 v2 D = some r) : xfr Rg D r.2 := by
  unfold f_X12_cell at h
  refine xgrd_e h (fun g1 h => ?_)
  obtain rfl := Option.some.inj h
  exact xfr_rf

theorem u_X12_cellOf_39 {F P : Nat} {S : xSt} (hS : xWF S) {Rg : Nat → Prop} (hR : xRC S Rg) {rec_5 : Nat → Int32 → Int32 → Int64 → Int32 → xDt → Option (Int64 × xDt)} (hrec_5 : ∀ {v0 : Nat} {v1 : Int32} {v2 : Int32} {v3 : Int64} {v5 : Int32} {D : xDt} {r : Int64 × xDt}, xK S v0 12 → rec_5 v0 v1 v2 v3 v5 D = some r → xfr Rg D r.2) {v0 : Nat} {v1 : Int32} {v2 : Int32} {v5 : Int32} {s0 : Int64} {s1 : Int64} {D : xDt} {r : Int64 × xDt} (k0 : xK S v0 12) (h : f_X12_cellOf_39 F P S rec_5 v0 v1 v2 v5 s0 s1 D = some r) : xfr Rg D r.2 := by
  unfold f_X12_cellOf_39 at h
  refine xlet_e h (fun v3_1 ev3_1 h => ?_)
  refine xlet_e h (fun v5_2 ev5_2 h => ?_)
  exact hrec_5 k0 h

theorem u_X12_cellOf_5s {F P : Nat} {S : xSt} (hS : xWF S) {Rg : Nat → Prop} (hR : xRC S Rg) {rec_5 : Nat → Int32 → Int32 → Int64 → Int32 → xDt → Option (Int64 × xDt)} (hrec_5 : ∀ {v0 : Nat} {v1 : Int32} {v2 : Int32} {v3 : Int64} {v5 : Int32} {D : xDt} {r : Int64 × xDt}, xK S v0 12 → rec_5 v0 v1 v2 v3 v5 D = some r → xfr Rg D r.2) {v0 : Nat} {v1 : Int32} {v2 : Int32} {v3 : Int64} {v5 : Int32} {D : xDt} {r : Int64 × xDt} (k0 : xK S v0 12) (h : f_X12_cellOf_5s F P S rec_5 v0 v1 v2 v3 v5 D = some r) : xfr Rg D r.2 := by
  unfold f_X12_cellOf_5s at h
  refine xif_p h (fun c h => ?_) (fun c h => ?_)
  · skip
    obtain rfl := Option.some.inj h
    exact xfr_rf
  · skip
    refine xbnd_e h (fun q1 e1 h => ?_)
    refine xfr_tr (U_X12_cell hS hR k0 e1) ?_
    refine xbnd_e h (fun q2 e2 h => ?_)
    refine xfr_tr (U_X12_cell hS hR k0 e2) ?_
    refine xif_n h (fun c h => ?_) (fun c h => ?_)
    · skip
      exact u_X12_cellOf_39 hS hR hrec_5 k0 h
    · skip
      exact u_X12_cellOf_39 hS hR hrec_5 k0 h
theorem u_X12_cellOf_5 {F P : Nat} {S : xSt} (hS : xWF S) {Rg : Nat → Prop} (hR : xRC S Rg) : ∀ (n : Nat) {v0 : Nat} {v1 : Int32} {v2 : Int32} {v3 : Int64} {v5 : Int32} {D : xDt} {r : Int64 × xDt}, xK S v0 12 → f_X12_cellOf_5 F P S n v0 v1 v2 v3 v5 D = some r → xfr Rg D r.2 := by
  intro n
  induction n with
  | zero => intros; rename_i h; cases h
  | succ n ih =>
    intro v0 v1 v2 v3 v5 D r k0 h
    exact u_X12_cellOf_5s hS hR (fun k0 h => ih k0 h) k0 h

theorem U_X12_cellOf {F P : Nat} {S : xSt} (hS : xWF S) {Rg : Nat → Prop} (hR : xRC S Rg) {v0 : Nat} {v1 : Int32} {v2 : Int32} {D : xDt} {r : Int64 × xDt} (k0 : xK S v0 12) (h : f_X12_cellOf F P S v0 v1 v2 D = some r) : xfr Rg D r.2 := by
  unfold f_X12_cellOf at h
  exact u_X12_cellOf_5 hS hR F k0 h

theorem u_X12_least_2s {F P : Nat} {S : xSt} (hS : xWF S) {Rg : Nat → Prop} (hR : xRC S Rg) {rec_2 : Int64 → Int32 → xDt → Option (Int32 × xDt)} (hrec_2 : ∀ {v0 : Int64} {v2 : Int32} {D : xDt} {r : Int32 × xDt}, rec_2 v0 v2 D = some r → xfr Rg D r.2) {v0 : Int64} {v2 : Int32} {D : xDt} {r : Int32 × xDt} (h : f_X12_least_2s F P S rec_2 v0 v2 D = some r) : xfr Rg D r.2 := by
  unfold f_X12_least_2s at h
  refine xif_p h (fun c h => ?_) (fun c h => ?_)
  · skip
    obtain rfl := Option.some.inj h
    exact xfr_rf
  · skip
    refine xif_n h (fun c h => ?_) (fun c h => ?_)
    · skip
      obtain rfl := Option.some.inj h
      exact xfr_rf
    · skip
      refine xlet_e h (fun v2_1 ev2_1 h => ?_)
      exact hrec_2 h
theorem u_X12_least_2 {F P : Nat} {S : xSt} (hS : xWF S) {Rg : Nat → Prop} (hR : xRC S Rg) : ∀ (n : Nat) {v0 : Int64} {v2 : Int32} {D : xDt} {r : Int32 × xDt}, f_X12_least_2 F P S n v0 v2 D = some r → xfr Rg D r.2 := by
  intro n
  induction n with
  | zero => intros; rename_i h; cases h
  | succ n ih =>
    intro v0 v2 D r  h
    exact u_X12_least_2s hS hR (fun  h => ih  h)  h

theorem U_X12_least {F P : Nat} {S : xSt} (hS : xWF S) {Rg : Nat → Prop} (hR : xRC S Rg) {v0 : Int64} {D : xDt} {r : Int32 × xDt} (h : f_X12_least F P S v0 D = some r) : xfr Rg D r.2 := by
  unfold f_X12_least at h
  exact u_X12_least_2 hS hR F h

theorem u_X12_size_4s {F P : Nat} {S : xSt} (hS : xWF S) {Rg : Nat → Prop} (hR : xRC S Rg) {rec_4 : Int64 → Int32 → Int32 → xDt → Option (Int32 × xDt)} (hrec_4 : ∀ {v0 : Int64} {v2 : Int32} {v3 : Int32} {D : xDt} {r : Int32 × xDt}, rec_4 v0 v2 v3 D = some r → xfr Rg D r.2) {v0 : Int64} {v2 : Int32} {v3 : Int32} {D : xDt} {r : Int32 × xDt} (h : f_X12_size_4s F P S rec_4 v0 v2 v3 D = some r) : xfr Rg D r.2 := by
  unfold f_X12_size_4s at h
  refine xif_p h (fun c h => ?_) (fun c h => ?_)
  · skip
    obtain rfl := Option.some.inj h
    exact xfr_rf
  · skip
    refine xlet_e h (fun v2_1 ev2_1 h => ?_)
    refine xlet_e h (fun v3_2 ev3_2 h => ?_)
    exact hrec_4 h
theorem u_X12_size_4 {F P : Nat} {S : xSt} (hS : xWF S) {Rg : Nat → Prop} (hR : xRC S Rg) : ∀ (n : Nat) {v0 : Int64} {v2 : Int32} {v3 : Int32} {D : xDt} {r : Int32 × xDt}, f_X12_size_4 F P S n v0 v2 v3 D = some r → xfr Rg D r.2 := by
  intro n
  induction n with
  | zero => intros; rename_i h; cases h
  | succ n ih =>
    intro v0 v2 v3 D r  h
    exact u_X12_size_4s hS hR (fun  h => ih  h)  h

theorem U_X12_size {F P : Nat} {S : xSt} (hS : xWF S) {Rg : Nat → Prop} (hR : xRC S Rg) {v0 : Int64} {D : xDt} {r : Int32 × xDt} (h : f_X12_size F P S v0 D = some r) : xfr Rg D r.2 := by
  unfold f_X12_size at h
  exact u_X12_size_4 hS hR F h

theorem u_X12_gather_45 {F P : Nat} {S : xSt} (hS : xWF S) {Rg : Nat → Prop} (hR : xRC S Rg) {rec_9 : Nat → Int32 → Int64 → Int32 → Int32 → xDt → Option (xDt)} (hrec_9 : ∀ {v0 : Nat} {v1 : Int32} {v2 : Int64} {v4 : Int32} {v5 : Int32} {D : xDt} {r : xDt}, xK S v0 12 → Rg v0 → rec_9 v0 v1 v2 v4 v5 D = some r → xfr Rg D r) {v0 : Nat} {v1 : Int32} {v2 : Int64} {v4 : Int32} {v5 : Int32} {D : xDt} {r : xDt} (k0 : xK S v0 12) (r0 : Rg v0) (h : f_X12_gather_45 F P S rec_9 v0 v1 v2 v4 v5 D = some r) : xfr Rg D r := by
  unfold f_X12_gather_45 at h
  refine xlet_e h (fun v5_1 ev5_1 h => ?_)
  exact hrec_9 k0 r0 h

theorem u_X12_gather_9s {F P : Nat} {S : xSt} (hS : xWF S) {Rg : Nat → Prop} (hR : xRC S Rg) {rec_9 : Nat → Int32 → Int64 → Int32 → Int32 → xDt → Option (xDt)} (hrec_9 : ∀ {v0 : Nat} {v1 : Int32} {v2 : Int64} {v4 : Int32} {v5 : Int32} {D : xDt} {r : xDt}, xK S v0 12 → Rg v0 → rec_9 v0 v1 v2 v4 v5 D = some r → xfr Rg D r) {v0 : Nat} {v1 : Int32} {v2 : Int64} {v4 : Int32} {v5 : Int32} {D : xDt} {r : xDt} (k0 : xK S v0 12) (r0 : Rg v0) (h : f_X12_gather_9s F P S rec_9 v0 v1 v2 v4 v5 D = some r) : xfr Rg D r := by
  unfold f_X12_gather_9s at h
  refine xif_p h (fun c h => ?_) (fun c h => ?_)
  · skip
    obtain rfl := Option.some.inj h
    exact xfr_rf
  · skip
    refine xif_n h (fun c h => ?_) (fun c h => ?_)
    · skip
      exact u_X12_gather_45 hS hR hrec_9 k0 r0 h
    · skip
      refine xgrd_e h (fun g1 h => ?_)
      refine xlet_e h (fun D2 eD2 h => ?_)
      refine xfr_i (hR.1 k0 r0 3 100 rfl) eD2 ?_
      exact u_X12_gather_45 hS hR hrec_9 k0 r0 h
theorem u_X12_gather_9 {F P : Nat} {S : xSt} (hS : xWF S) {Rg : Nat → Prop} (hR : xRC S Rg) : ∀ (n : Nat) {v0 : Nat} {v1 : Int32} {v2 : Int64} {v4 : Int32} {v5 : Int32} {D : xDt} {r : xDt}, xK S v0 12 → Rg v0 → f_X12_gather_9 F P S n v0 v1 v2 v4 v5 D = some r → xfr Rg D r := by
  intro n
  induction n with
  | zero => intros; rename_i h; cases h
  | succ n ih =>
    intro v0 v1 v2 v4 v5 D r k0 r0 h
    exact u_X12_gather_9s hS hR (fun k0 r0 h => ih k0 r0 h) k0 r0 h

theorem U_X12_gather {F P : Nat} {S : xSt} (hS : xWF S) {Rg : Nat → Prop} (hR : xRC S Rg) {v0 : Nat} {v1 : Int32} {v2 : Int64} {D : xDt} {r : xDt} (k0 : xK S v0 12) (r0 : Rg v0) (h : f_X12_gather F P S v0 v1 v2 D = some r) : xfr Rg D r := by
  unfold f_X12_gather at h
  refine xbnd_e h (fun q1 e1 h => ?_)
  refine xfr_tr (U_X12_least hS hR e1) ?_
  exact u_X12_gather_9 hS hR F k0 r0 h

theorem U_X12_all {F P : Nat} {S : xSt} (hS : xWF S) {Rg : Nat → Prop} (hR : xRC S Rg) {v0 : Nat} {D : xDt} {r : Int64 × xDt} (k0 : xK S v0 12) (h : f_X12_all F P S v0 D = some r) : xfr Rg D r.2 := by
  unfold f_X12_all at h
  refine xif_n h (fun c h => ?_) (fun c h => ?_)
  · skip
    obtain rfl := Option.some.inj h
    exact xfr_rf
  · skip
    obtain rfl := Option.some.inj h
    exact xfr_rf

theorem u_X12_world_39s {F P : Nat} {S : xSt} (hS : xWF S) {Rg : Nat → Prop} (hR : xRC S Rg) {rec_39 : Nat → Int32 → xDt → Option (Int32 × xDt)} (hrec_39 : ∀ {v0 : Nat} {v2 : Int32} {D : xDt} {r : Int32 × xDt}, xK S v0 12 → Rg v0 → rec_39 v0 v2 D = some r → xfr Rg D r.2) {v0 : Nat} {v2 : Int32} {D : xDt} {r : Int32 × xDt} (k0 : xK S v0 12) (r0 : Rg v0) (h : f_X12_world_39s F P S rec_39 v0 v2 D = some r) : xfr Rg D r.2 := by
  unfold f_X12_world_39s at h
  refine xif_p h (fun c h => ?_) (fun c h => ?_)
  · skip
    refine xlet_e h (fun D1 eD1 h => ?_)
    refine xfr_i r0 eD1 ?_
    obtain rfl := Option.some.inj h
    exact xfr_rf
  · skip
    refine xgrd_e h (fun g2 h => ?_)
    refine xlet_e h (fun D3 eD3 h => ?_)
    refine xfr_i (hR.1 k0 r0 3 100 rfl) eD3 ?_
    refine xlet_e h (fun v2_4 ev2_4 h => ?_)
    exact hrec_39 k0 r0 h
theorem u_X12_world_39 {F P : Nat} {S : xSt} (hS : xWF S) {Rg : Nat → Prop} (hR : xRC S Rg) : ∀ (n : Nat) {v0 : Nat} {v2 : Int32} {D : xDt} {r : Int32 × xDt}, xK S v0 12 → Rg v0 → f_X12_world_39 F P S n v0 v2 D = some r → xfr Rg D r.2 := by
  intro n
  induction n with
  | zero => intros; rename_i h; cases h
  | succ n ih =>
    intro v0 v2 D r k0 r0 h
    exact u_X12_world_39s hS hR (fun k0 r0 h => ih k0 r0 h) k0 r0 h

theorem U_X12_world {F P : Nat} {S : xSt} (hS : xWF S) {Rg : Nat → Prop} (hR : xRC S Rg) {v0 : Nat} {v1 : Int32} {D : xDt} {r : Int32 × xDt} (k0 : xK S v0 12) (r0 : Rg v0) (h : f_X12_world F P S v0 v1 D = some r) : xfr Rg D r.2 := by
  unfold f_X12_world at h
  refine xbnd_e h (fun q1 e1 h => ?_)
  refine xfr_tr (U_X12_in hS hR e1) ?_
  refine xif_p h (fun c h => ?_) (fun c h => ?_)
  · skip
    obtain rfl := Option.some.inj h
    exact xfr_rf
  · skip
    refine xif_n h (fun c h => ?_) (fun c h => ?_)
    · skip
      refine xlet_e h (fun D2 eD2 h => ?_)
      refine xfr_i r0 eD2 ?_
      refine xgrd_e h (fun g3 h => ?_)
      refine xlet_e h (fun D4 eD4 h => ?_)
      refine xfr_i (hR.1 k0 r0 2 100 rfl) eD4 ?_
      exact u_X12_world_39 hS hR F k0 r0 h
    · skip
      obtain rfl := Option.some.inj h
      exact xfr_rf

theorem U_X12_tie {F P : Nat} {S : xSt} (hS : xWF S) {Rg : Nat → Prop} (hR : xRC S Rg) {v0 : Nat} {v1 : Int32} {v2 : Int32} {v3 : Int32} {D : xDt} {r : Int32 × xDt} (k0 : xK S v0 12) (r0 : Rg v0) (h : f_X12_tie F P S v0 v1 v2 v3 D = some r) : xfr Rg D r.2 := by
  unfold f_X12_tie at h
  refine xbnd_e h (fun q1 e1 h => ?_)
  refine xfr_tr (U_X12_isAgent hS hR e1) ?_
  refine xif_p h (fun c h => ?_) (fun c h => ?_)
  · skip
    obtain rfl := Option.some.inj h
    exact xfr_rf
  · skip
    refine xbnd_e h (fun q2 e2 h => ?_)
    refine xfr_tr (U_X12_isWorld hS hR k0 e2) ?_
    refine xif_p h (fun c h => ?_) (fun c h => ?_)
    · skip
      obtain rfl := Option.some.inj h
      exact xfr_rf
    · skip
      refine xbnd_e h (fun q3 e3 h => ?_)
      refine xfr_tr (U_X12_isWorld hS hR k0 e3) ?_
      refine xif_n h (fun c h => ?_) (fun c h => ?_)
      · skip
        refine xlet_e h (fun D4 eD4 h => ?_)
        refine xfr_i r0 eD4 ?_
        refine xbnd_e h (fun q5 e5 h => ?_)
        refine xfr_tr (U_X12_cellOf hS hR k0 e5) ?_
        refine xbnd_e h (fun q6 e6 h => ?_)
        refine xfr_tr (U_X12_cellOf hS hR k0 e6) ?_
        refine xlet_e h (fun v4_7 ev4_7 h => ?_)
        refine xbnd_e h (fun q8 e8 h => ?_)
        refine xfr_tr (U_X12_gather hS hR k0 r0 e8) ?_
        refine xbnd_e h (fun q9 e9 h => ?_)
        refine xfr_tr (U_X12_size hS hR e9) ?_
        obtain rfl := Option.some.inj h
        exact xfr_rf
      · skip
        obtain rfl := Option.some.inj h
        exact xfr_rf

theorem u_X12_alone_57 {F P : Nat} {S : xSt} (hS : xWF S) {Rg : Nat → Prop} (hR : xRC S Rg) {v3 : Int64} {D : xDt} {r : Int32 × xDt} (h : f_X12_alone_57 F P S v3 D = some r) : xfr Rg D r.2 := by
  unfold f_X12_alone_57 at h
  refine xbnd_e h (fun q1 e1 h => ?_)
  refine xfr_tr (U_X12_size hS hR e1) ?_
  obtain rfl := Option.some.inj h
  exact xfr_rf

theorem U_X12_alone {F P : Nat} {S : xSt} (hS : xWF S) {Rg : Nat → Prop} (hR : xRC S Rg) {v0 : Nat} {v1 : Int32} {v2 : Int32} {D : xDt} {r : Int32 × xDt} (k0 : xK S v0 12) (r0 : Rg v0) (h : f_X12_alone F P S v0 v1 v2 D = some r) : xfr Rg D r.2 := by
  unfold f_X12_alone at h
  refine xbnd_e h (fun q1 e1 h => ?_)
  refine xfr_tr (U_X12_isAgent hS hR e1) ?_
  refine xif_p h (fun c h => ?_) (fun c h => ?_)
  · skip
    obtain rfl := Option.some.inj h
    exact xfr_rf
  · skip
    refine xbnd_e h (fun q2 e2 h => ?_)
    refine xfr_tr (U_X12_isWorld hS hR k0 e2) ?_
    refine xif_n h (fun c h => ?_) (fun c h => ?_)
    · skip
      refine xlet_e h (fun D3 eD3 h => ?_)
      refine xfr_i r0 eD3 ?_
      refine xbnd_e h (fun q4 e4 h => ?_)
      refine xfr_tr (U_X12_cellOf hS hR k0 e4) ?_
      refine xlet_e h (fun v3_5 ev3_5 h => ?_)
      refine xbnd_e h (fun q6 e6 h => ?_)
      refine xfr_tr (U_X12_gather hS hR k0 r0 e6) ?_
      refine xif_p h (fun c h => ?_) (fun c h => ?_)
      · skip
        exact u_X12_alone_57 hS hR h
      · skip
        refine xbnd_e h (fun q7 e7 h => ?_)
        refine xfr_tr (U_X12_gather hS hR k0 r0 e7) ?_
        exact u_X12_alone_57 hS hR h
    · skip
      obtain rfl := Option.some.inj h
      exact xfr_rf

theorem U_X12_atom {F P : Nat} {S : xSt} (hS : xWF S) {Rg : Nat → Prop} (hR : xRC S Rg) {v0 : Nat} {v1 : Int32} {v2 : Int32} {v3 : Int32} {D : xDt} {r : Int32 × xDt} (k0 : xK S v0 12) (r0 : Rg v0) (h : f_X12_atom F P S v0 v1 v2 v3 D = some r) : xfr Rg D r.2 := by
  unfold f_X12_atom at h
  refine xbnd_e h (fun q1 e1 h => ?_)
  refine xfr_tr (U_X12_isWorld hS hR k0 e1) ?_
  refine xif_p h (fun c h => ?_) (fun c h => ?_)
  · skip
    obtain rfl := Option.some.inj h
    exact xfr_rf
  · skip
    refine xbnd_e h (fun q2 e2 h => ?_)
    refine xfr_tr (U_X12_in hS hR e2) ?_
    refine xif_n h (fun c h => ?_) (fun c h => ?_)
    · skip
      refine xlet_e h (fun D3 eD3 h => ?_)
      refine xfr_i r0 eD3 ?_
      refine xgrd_e h (fun g4 h => ?_)
      refine xlet_e h (fun v4_5 ev4_5 h => ?_)
      refine xgrd_e h (fun g6 h => ?_)
      refine xif_p h (fun c h => ?_) (fun c h => ?_)
      · skip
        refine xgrd_e h (fun g7 h => ?_)
        refine xlet_e h (fun D8 eD8 h => ?_)
        refine xfr_i (hR.1 k0 r0 2 100 rfl) eD8 ?_
        obtain rfl := Option.some.inj h
        exact xfr_rf
      · skip
        refine xgrd_e h (fun g9 h => ?_)
        refine xlet_e h (fun D10 eD10 h => ?_)
        refine xfr_i (hR.1 k0 r0 2 100 rfl) eD10 ?_
        obtain rfl := Option.some.inj h
        exact xfr_rf
    · skip
      obtain rfl := Option.some.inj h
      exact xfr_rf

theorem u_X12_told_17 {F P : Nat} {S : xSt} (hS : xWF S) {Rg : Nat → Prop} (hR : xRC S Rg) {D : xDt} {r : Int32 × xDt} (h : f_X12_told_17 F P S D = some r) : xfr Rg D r.2 := by
  unfold f_X12_told_17 at h
  obtain rfl := Option.some.inj h
  exact xfr_rf

theorem U_X12_told {F P : Nat} {S : xSt} (hS : xWF S) {Rg : Nat → Prop} (hR : xRC S Rg) {v0 : Nat} {v1 : Int32} {v2 : Int32} {D : xDt} {r : Int32 × xDt} (k0 : xK S v0 12) (h : f_X12_told F P S v0 v1 v2 D = some r) : xfr Rg D r.2 := by
  unfold f_X12_told at h
  refine xbnd_e h (fun q1 e1 h => ?_)
  refine xfr_tr (U_X12_isWorld hS hR k0 e1) ?_
  refine xif_p h (fun c h => ?_) (fun c h => ?_)
  · skip
    exact u_X12_told_17 hS hR h
  · skip
    refine xbnd_e h (fun q2 e2 h => ?_)
    refine xfr_tr (U_X12_in hS hR e2) ?_
    refine xif_n h (fun c h => ?_) (fun c h => ?_)
    · skip
      refine xif_n h (fun c h => ?_) (fun c h => ?_)
      · skip
        refine xbnd_e h (fun q3 e3 h => ?_)
        refine xfr_tr (U_X12_cell hS hR k0 e3) ?_
        obtain rfl := Option.some.inj h
        exact xfr_rf
      · skip
        refine xgrd_e h (fun g4 h => ?_)
        obtain rfl := Option.some.inj h
        exact xfr_rf
    · skip
      exact u_X12_told_17 hS hR h

theorem u_X12_moveKept_50s {F P : Nat} {S : xSt} (hS : xWF S) {Rg : Nat → Prop} (hR : xRC S Rg) {rec_50 : Nat → Int32 → Int32 → Int32 → xDt → Option (xDt)} (hrec_50 : ∀ {v0 : Nat} {v1 : Int32} {v2 : Int32} {v3 : Int32} {D : xDt} {r : xDt}, xK S v0 12 → Rg v0 → rec_50 v0 v1 v2 v3 D = some r → xfr Rg D r) {v0 : Nat} {v1 : Int32} {v2 : Int32} {v3 : Int32} {D : xDt} {r : xDt} (k0 : xK S v0 12) (r0 : Rg v0) (h : f_X12_moveKept_50s F P S rec_50 v0 v1 v2 v3 D = some r) : xfr Rg D r := by
  unfold f_X12_moveKept_50s at h
  refine xif_p h (fun c h => ?_) (fun c h => ?_)
  · skip
    obtain rfl := Option.some.inj h
    exact xfr_rf
  · skip
    refine xgrd_e h (fun g1 h => ?_)
    refine xgrd_e h (fun g2 h => ?_)
    refine xlet_e h (fun D3 eD3 h => ?_)
    refine xfr_i (hR.1 k0 r0 6 100 rfl) eD3 ?_
    refine xlet_e h (fun v3_4 ev3_4 h => ?_)
    exact hrec_50 k0 r0 h
theorem u_X12_moveKept_50 {F P : Nat} {S : xSt} (hS : xWF S) {Rg : Nat → Prop} (hR : xRC S Rg) : ∀ (n : Nat) {v0 : Nat} {v1 : Int32} {v2 : Int32} {v3 : Int32} {D : xDt} {r : xDt}, xK S v0 12 → Rg v0 → f_X12_moveKept_50 F P S n v0 v1 v2 v3 D = some r → xfr Rg D r := by
  intro n
  induction n with
  | zero => intros; rename_i h; cases h
  | succ n ih =>
    intro v0 v1 v2 v3 D r k0 r0 h
    exact u_X12_moveKept_50s hS hR (fun k0 r0 h => ih k0 r0 h) k0 r0 h

theorem u_X12_moveKept_14s {F P : Nat} {S : xSt} (hS : xWF S) {Rg : Nat → Prop} (hR : xRC S Rg) {rec_14 : Nat → Int32 → Int32 → Int32 → xDt → Option (xDt)} (hrec_14 : ∀ {v0 : Nat} {v1 : Int32} {v2 : Int32} {v3 : Int32} {D : xDt} {r : xDt}, xK S v0 12 → Rg v0 → rec_14 v0 v1 v2 v3 D = some r → xfr Rg D r) {v0 : Nat} {v1 : Int32} {v2 : Int32} {v3 : Int32} {D : xDt} {r : xDt} (k0 : xK S v0 12) (r0 : Rg v0) (h : f_X12_moveKept_14s F P S rec_14 v0 v1 v2 v3 D = some r) : xfr Rg D r := by
  unfold f_X12_moveKept_14s at h
  refine xif_p h (fun c h => ?_) (fun c h => ?_)
  · skip
    exact u_X12_moveKept_50 hS hR F k0 r0 h
  · skip
    refine xgrd_e h (fun g1 h => ?_)
    refine xgrd_e h (fun g2 h => ?_)
    refine xlet_e h (fun D3 eD3 h => ?_)
    refine xfr_i (hR.1 k0 r0 5 100 rfl) eD3 ?_
    refine xlet_e h (fun v3_4 ev3_4 h => ?_)
    exact hrec_14 k0 r0 h
theorem u_X12_moveKept_14 {F P : Nat} {S : xSt} (hS : xWF S) {Rg : Nat → Prop} (hR : xRC S Rg) : ∀ (n : Nat) {v0 : Nat} {v1 : Int32} {v2 : Int32} {v3 : Int32} {D : xDt} {r : xDt}, xK S v0 12 → Rg v0 → f_X12_moveKept_14 F P S n v0 v1 v2 v3 D = some r → xfr Rg D r := by
  intro n
  induction n with
  | zero => intros; rename_i h; cases h
  | succ n ih =>
    intro v0 v1 v2 v3 D r k0 r0 h
    exact u_X12_moveKept_14s hS hR (fun k0 r0 h => ih k0 r0 h) k0 r0 h

theorem U_X12_moveKept {F P : Nat} {S : xSt} (hS : xWF S) {Rg : Nat → Prop} (hR : xRC S Rg) {v0 : Nat} {v1 : Int32} {v2 : Int32} {D : xDt} {r : xDt} (k0 : xK S v0 12) (r0 : Rg v0) (h : f_X12_moveKept F P S v0 v1 v2 D = some r) : xfr Rg D r := by
  unfold f_X12_moveKept at h
  refine xgrd_e h (fun g1 h => ?_)
  refine xgrd_e h (fun g2 h => ?_)
  refine xlet_e h (fun D3 eD3 h => ?_)
  refine xfr_i (hR.1 k0 r0 4 100 rfl) eD3 ?_
  exact u_X12_moveKept_14 hS hR F k0 r0 h

theorem u_X12_keep_92s {F P : Nat} {S : xSt} (hS : xWF S) {Rg : Nat → Prop} (hR : xRC S Rg) {rec_92 : Nat → Int32 → xDt → Option (xDt)} (hrec_92 : ∀ {v0 : Nat} {v1 : Int32} {D : xDt} {r : xDt}, xK S v0 12 → Rg v0 → rec_92 v0 v1 D = some r → xfr Rg D r) {v0 : Nat} {v1 : Int32} {D : xDt} {r : xDt} (k0 : xK S v0 12) (r0 : Rg v0) (h : f_X12_keep_92s F P S rec_92 v0 v1 D = some r) : xfr Rg D r := by
  unfold f_X12_keep_92s at h
  refine xif_p h (fun c h => ?_) (fun c h => ?_)
  · skip
    refine xlet_e h (fun D1 eD1 h => ?_)
    refine xfr_i r0 eD1 ?_
    obtain rfl := Option.some.inj h
    exact xfr_rf
  · skip
    refine xgrd_e h (fun g2 h => ?_)
    refine xgrd_e h (fun g3 h => ?_)
    refine xlet_e h (fun D4 eD4 h => ?_)
    refine xfr_i (hR.1 k0 r0 6 100 rfl) eD4 ?_
    refine xlet_e h (fun v1_5 ev1_5 h => ?_)
    exact hrec_92 k0 r0 h
theorem u_X12_keep_92 {F P : Nat} {S : xSt} (hS : xWF S) {Rg : Nat → Prop} (hR : xRC S Rg) : ∀ (n : Nat) {v0 : Nat} {v1 : Int32} {D : xDt} {r : xDt}, xK S v0 12 → Rg v0 → f_X12_keep_92 F P S n v0 v1 D = some r → xfr Rg D r := by
  intro n
  induction n with
  | zero => intros; rename_i h; cases h
  | succ n ih =>
    intro v0 v1 D r k0 r0 h
    exact u_X12_keep_92s hS hR (fun k0 r0 h => ih k0 r0 h) k0 r0 h

theorem u_X12_keep_58s {F P : Nat} {S : xSt} (hS : xWF S) {Rg : Nat → Prop} (hR : xRC S Rg) {rec_58 : Nat → Int32 → xDt → Option (xDt)} (hrec_58 : ∀ {v0 : Nat} {v1 : Int32} {D : xDt} {r : xDt}, xK S v0 12 → Rg v0 → rec_58 v0 v1 D = some r → xfr Rg D r) {v0 : Nat} {v1 : Int32} {D : xDt} {r : xDt} (k0 : xK S v0 12) (r0 : Rg v0) (h : f_X12_keep_58s F P S rec_58 v0 v1 D = some r) : xfr Rg D r := by
  unfold f_X12_keep_58s at h
  refine xif_p h (fun c h => ?_) (fun c h => ?_)
  · skip
    exact u_X12_keep_92 hS hR F k0 r0 h
  · skip
    refine xgrd_e h (fun g1 h => ?_)
    refine xgrd_e h (fun g2 h => ?_)
    refine xlet_e h (fun D3 eD3 h => ?_)
    refine xfr_i (hR.1 k0 r0 5 100 rfl) eD3 ?_
    refine xlet_e h (fun v1_4 ev1_4 h => ?_)
    exact hrec_58 k0 r0 h
theorem u_X12_keep_58 {F P : Nat} {S : xSt} (hS : xWF S) {Rg : Nat → Prop} (hR : xRC S Rg) : ∀ (n : Nat) {v0 : Nat} {v1 : Int32} {D : xDt} {r : xDt}, xK S v0 12 → Rg v0 → f_X12_keep_58 F P S n v0 v1 D = some r → xfr Rg D r := by
  intro n
  induction n with
  | zero => intros; rename_i h; cases h
  | succ n ih =>
    intro v0 v1 D r k0 r0 h
    exact u_X12_keep_58s hS hR (fun k0 r0 h => ih k0 r0 h) k0 r0 h

theorem u_X12_keep_43 {F P : Nat} {S : xSt} (hS : xWF S) {Rg : Nat → Prop} (hR : xRC S Rg) {v0 : Nat} {D : xDt} {r : xDt} (k0 : xK S v0 12) (r0 : Rg v0) (h : f_X12_keep_43 F P S v0 D = some r) : xfr Rg D r := by
  unfold f_X12_keep_43 at h
  refine xgrd_e h (fun g1 h => ?_)
  refine xlet_e h (fun D2 eD2 h => ?_)
  refine xfr_i (hR.1 k0 r0 4 100 rfl) eD2 ?_
  exact u_X12_keep_58 hS hR F k0 r0 h

theorem u_X12_keep_11s {F P : Nat} {S : xSt} (hS : xWF S) {Rg : Nat → Prop} (hR : xRC S Rg) {rec_11 : Nat → Int32 → xDt → Option (xDt)} (hrec_11 : ∀ {v0 : Nat} {v1 : Int32} {D : xDt} {r : xDt}, xK S v0 12 → Rg v0 → rec_11 v0 v1 D = some r → xfr Rg D r) {v0 : Nat} {v1 : Int32} {D : xDt} {r : xDt} (k0 : xK S v0 12) (r0 : Rg v0) (h : f_X12_keep_11s F P S rec_11 v0 v1 D = some r) : xfr Rg D r := by
  unfold f_X12_keep_11s at h
  refine xif_p h (fun c h => ?_) (fun c h => ?_)
  · skip
    refine xlet_e h (fun D1 eD1 h => ?_)
    refine xfr_i r0 eD1 ?_
    exact u_X12_keep_43 hS hR k0 r0 h
  · skip
    refine xbnd_e h (fun q2 e2 h => ?_)
    refine xfr_tr (U_X12_moveKept hS hR k0 r0 e2) ?_
    refine xlet_e h (fun v1_3 ev1_3 h => ?_)
    exact hrec_11 k0 r0 h
theorem u_X12_keep_11 {F P : Nat} {S : xSt} (hS : xWF S) {Rg : Nat → Prop} (hR : xRC S Rg) : ∀ (n : Nat) {v0 : Nat} {v1 : Int32} {D : xDt} {r : xDt}, xK S v0 12 → Rg v0 → f_X12_keep_11 F P S n v0 v1 D = some r → xfr Rg D r := by
  intro n
  induction n with
  | zero => intros; rename_i h; cases h
  | succ n ih =>
    intro v0 v1 D r k0 r0 h
    exact u_X12_keep_11s hS hR (fun k0 r0 h => ih k0 r0 h) k0 r0 h

theorem U_X12_keep {F P : Nat} {S : xSt} (hS : xWF S) {Rg : Nat → Prop} (hR : xRC S Rg) {v0 : Nat} {D : xDt} {r : xDt} (k0 : xK S v0 12) (r0 : Rg v0) (h : f_X12_keep F P S v0 D = some r) : xfr Rg D r := by
  unfold f_X12_keep at h
  refine xif_n h (fun c h => ?_) (fun c h => ?_)
  · skip
    exact u_X12_keep_43 hS hR k0 r0 h
  · skip
    exact u_X12_keep_11 hS hR F k0 r0 h

theorem u_X12_back_68s {F P : Nat} {S : xSt} (hS : xWF S) {Rg : Nat → Prop} (hR : xRC S Rg) {rec_68 : Nat → Int32 → xDt → Option (Int32 × xDt)} (hrec_68 : ∀ {v0 : Nat} {v1 : Int32} {D : xDt} {r : Int32 × xDt}, xK S v0 12 → Rg v0 → rec_68 v0 v1 D = some r → xfr Rg D r.2) {v0 : Nat} {v1 : Int32} {D : xDt} {r : Int32 × xDt} (k0 : xK S v0 12) (r0 : Rg v0) (h : f_X12_back_68s F P S rec_68 v0 v1 D = some r) : xfr Rg D r.2 := by
  unfold f_X12_back_68s at h
  refine xif_p h (fun c h => ?_) (fun c h => ?_)
  · skip
    obtain rfl := Option.some.inj h
    exact xfr_rf
  · skip
    refine xgrd_e h (fun g1 h => ?_)
    refine xgrd_e h (fun g2 h => ?_)
    refine xlet_e h (fun D3 eD3 h => ?_)
    refine xfr_i (hR.1 k0 r0 3 100 rfl) eD3 ?_
    refine xlet_e h (fun v1_4 ev1_4 h => ?_)
    exact hrec_68 k0 r0 h
theorem u_X12_back_68 {F P : Nat} {S : xSt} (hS : xWF S) {Rg : Nat → Prop} (hR : xRC S Rg) : ∀ (n : Nat) {v0 : Nat} {v1 : Int32} {D : xDt} {r : Int32 × xDt}, xK S v0 12 → Rg v0 → f_X12_back_68 F P S n v0 v1 D = some r → xfr Rg D r.2 := by
  intro n
  induction n with
  | zero => intros; rename_i h; cases h
  | succ n ih =>
    intro v0 v1 D r k0 r0 h
    exact u_X12_back_68s hS hR (fun k0 r0 h => ih k0 r0 h) k0 r0 h

theorem u_X12_back_34s {F P : Nat} {S : xSt} (hS : xWF S) {Rg : Nat → Prop} (hR : xRC S Rg) {rec_34 : Nat → Int32 → xDt → Option (Int32 × xDt)} (hrec_34 : ∀ {v0 : Nat} {v1 : Int32} {D : xDt} {r : Int32 × xDt}, xK S v0 12 → Rg v0 → rec_34 v0 v1 D = some r → xfr Rg D r.2) {v0 : Nat} {v1 : Int32} {D : xDt} {r : Int32 × xDt} (k0 : xK S v0 12) (r0 : Rg v0) (h : f_X12_back_34s F P S rec_34 v0 v1 D = some r) : xfr Rg D r.2 := by
  unfold f_X12_back_34s at h
  refine xif_p h (fun c h => ?_) (fun c h => ?_)
  · skip
    exact u_X12_back_68 hS hR F k0 r0 h
  · skip
    refine xgrd_e h (fun g1 h => ?_)
    refine xgrd_e h (fun g2 h => ?_)
    refine xlet_e h (fun D3 eD3 h => ?_)
    refine xfr_i (hR.1 k0 r0 2 100 rfl) eD3 ?_
    refine xlet_e h (fun v1_4 ev1_4 h => ?_)
    exact hrec_34 k0 r0 h
theorem u_X12_back_34 {F P : Nat} {S : xSt} (hS : xWF S) {Rg : Nat → Prop} (hR : xRC S Rg) : ∀ (n : Nat) {v0 : Nat} {v1 : Int32} {D : xDt} {r : Int32 × xDt}, xK S v0 12 → Rg v0 → f_X12_back_34 F P S n v0 v1 D = some r → xfr Rg D r.2 := by
  intro n
  induction n with
  | zero => intros; rename_i h; cases h
  | succ n ih =>
    intro v0 v1 D r k0 r0 h
    exact u_X12_back_34s hS hR (fun k0 r0 h => ih k0 r0 h) k0 r0 h

theorem U_X12_back {F P : Nat} {S : xSt} (hS : xWF S) {Rg : Nat → Prop} (hR : xRC S Rg) {v0 : Nat} {D : xDt} {r : Int32 × xDt} (k0 : xK S v0 12) (r0 : Rg v0) (h : f_X12_back F P S v0 D = some r) : xfr Rg D r.2 := by
  unfold f_X12_back at h
  refine xif_n h (fun c h => ?_) (fun c h => ?_)
  · skip
    refine xlet_e h (fun D1 eD1 h => ?_)
    refine xfr_i r0 eD1 ?_
    refine xgrd_e h (fun g2 h => ?_)
    refine xlet_e h (fun D3 eD3 h => ?_)
    refine xfr_i r0 eD3 ?_
    exact u_X12_back_34 hS hR F k0 r0 h
  · skip
    obtain rfl := Option.some.inj h
    exact xfr_rf

theorem u_X12_node_96 {F P : Nat} {S : xSt} (hS : xWF S) {Rg : Nat → Prop} (hR : xRC S Rg) {v0 : Nat} {s0 : Int32} {s1 : Int32} {s2 : Nat} {D : xDt} {r : Int32 × xDt} (k0 : xK S v0 12) (ks2 : xK S s2 100) (r0 : Rg v0) (rs2 : Rg s2) (h : f_X12_node_96 F P S v0 s0 s1 s2 D = some r) : xfr Rg D r.2 := by
  unfold f_X12_node_96 at h
  refine xgrd_e h (fun g1 h => ?_)
  refine xlet_e h (fun D2 eD2 h => ?_)
  refine xfr_i rs2 eD2 ?_
  refine xlet_e h (fun D3 eD3 h => ?_)
  refine xfr_i r0 eD3 ?_
  obtain rfl := Option.some.inj h
  exact xfr_rf

theorem u_X12_node_71 {F P : Nat} {S : xSt} (hS : xWF S) {Rg : Nat → Prop} (hR : xRC S Rg) {v0 : Nat} {s0 : Int32} {s1 : Int32} {D : xDt} {r : Int32 × xDt} (k0 : xK S v0 12) (r0 : Rg v0) (h : f_X12_node_71 F P S v0 s0 s1 D = some r) : xfr Rg D r.2 := by
  unfold f_X12_node_71 at h
  refine xlet_e h (fun v5_1 ev5_1 h => ?_)
  refine xif_p h (fun c h => ?_) (fun c h => ?_)
  · skip
    exact u_X12_node_96 hS hR k0 ((hS.f k0 12 100 rfl).2) r0 (hR.1 k0 r0 12 100 rfl) h
  · skip
    exact u_X12_node_96 hS hR k0 ((hS.f k0 12 100 rfl).2) r0 (hR.1 k0 r0 12 100 rfl) h

theorem u_X12_node_56 {F P : Nat} {S : xSt} (hS : xWF S) {Rg : Nat → Prop} (hR : xRC S Rg) {v0 : Nat} {v3 : Int32} {s0 : Int32} {s1 : Int32} {D : xDt} {r : Int32 × xDt} (k0 : xK S v0 12) (r0 : Rg v0) (h : f_X12_node_56 F P S v0 v3 s0 s1 D = some r) : xfr Rg D r.2 := by
  unfold f_X12_node_56 at h
  refine xif_p h (fun c h => ?_) (fun c h => ?_)
  · skip
    refine xgrd_e h (fun g1 h => ?_)
    exact u_X12_node_71 hS hR k0 r0 h
  · skip
    exact u_X12_node_71 hS hR k0 r0 h

theorem U_X12_node {F P : Nat} {S : xSt} (hS : xWF S) {Rg : Nat → Prop} (hR : xRC S Rg) {v0 : Nat} {v1 : Int32} {v2 : Int32} {v3 : Int32} {v4 : Int32} {D : xDt} {r : Int32 × xDt} (k0 : xK S v0 12) (r0 : Rg v0) (h : f_X12_node F P S v0 v1 v2 v3 v4 D = some r) : xfr Rg D r.2 := by
  unfold f_X12_node at h
  refine xgrd_e h (fun g1 h => ?_)
  refine xlet_e h (fun D2 eD2 h => ?_)
  refine xfr_i (hR.1 k0 r0 8 100 rfl) eD2 ?_
  refine xgrd_e h (fun g3 h => ?_)
  refine xlet_e h (fun D4 eD4 h => ?_)
  refine xfr_i (hR.1 k0 r0 9 100 rfl) eD4 ?_
  refine xgrd_e h (fun g5 h => ?_)
  refine xlet_e h (fun D6 eD6 h => ?_)
  refine xfr_i (hR.1 k0 r0 10 100 rfl) eD6 ?_
  refine xgrd_e h (fun g7 h => ?_)
  refine xlet_e h (fun D8 eD8 h => ?_)
  refine xfr_i (hR.1 k0 r0 11 100 rfl) eD8 ?_
  refine xif_p h (fun c h => ?_) (fun c h => ?_)
  · skip
    refine xgrd_e h (fun g9 h => ?_)
    exact u_X12_node_56 hS hR k0 r0 h
  · skip
    exact u_X12_node_56 hS hR k0 r0 h

theorem u_X12_copied_49 {F P : Nat} {S : xSt} (hS : xWF S) {Rg : Nat → Prop} (hR : xRC S Rg) {self_X12_copied : Nat → Int32 → xDt → Option (Int32 × xDt)} (hself_X12_copied : ∀ {v0 : Nat} {v1 : Int32} {D : xDt} {r : Int32 × xDt}, xK S v0 12 → Rg v0 → self_X12_copied v0 v1 D = some r → xfr Rg D r.2) {v0 : Nat} {v1 : Int32} {v2 : Int32} {s0 : Int32} {D : xDt} {r : Int32 × xDt} (k0 : xK S v0 12) (r0 : Rg v0) (h : f_X12_copied_49 F P S self_X12_copied v0 v1 v2 s0 D = some r) : xfr Rg D r.2 := by
  unfold f_X12_copied_49 at h
  refine xgrd_e h (fun g1 h => ?_)
  refine xgrd_e h (fun g2 h => ?_)
  refine xbnd_e h (fun q3 e3 h => ?_)
  refine xfr_tr (U_X12_node hS hR k0 r0 e3) ?_
  obtain rfl := Option.some.inj h
  exact xfr_rf

theorem u_X12_copied_24 {F P : Nat} {S : xSt} (hS : xWF S) {Rg : Nat → Prop} (hR : xRC S Rg) {self_X12_copied : Nat → Int32 → xDt → Option (Int32 × xDt)} (hself_X12_copied : ∀ {v0 : Nat} {v1 : Int32} {D : xDt} {r : Int32 × xDt}, xK S v0 12 → Rg v0 → self_X12_copied v0 v1 D = some r → xfr Rg D r.2) {v0 : Nat} {v1 : Int32} {s0 : Int32} {D : xDt} {r : Int32 × xDt} (k0 : xK S v0 12) (r0 : Rg v0) (h : f_X12_copied_24 F P S self_X12_copied v0 v1 s0 D = some r) : xfr Rg D r.2 := by
  unfold f_X12_copied_24 at h
  refine xgrd_e h (fun g1 h => ?_)
  refine xif_p h (fun c h => ?_) (fun c h => ?_)
  · skip
    refine xgrd_e h (fun g2 h => ?_)
    refine xbnd_e h (fun q3 e3 h => ?_)
    refine xfr_tr (hself_X12_copied k0 r0 e3) ?_
    exact u_X12_copied_49 hS hR hself_X12_copied k0 r0 h
  · skip
    exact u_X12_copied_49 hS hR hself_X12_copied k0 r0 h

theorem U_X12_copied_o {F P : Nat} {S : xSt} (hS : xWF S) {Rg : Nat → Prop} (hR : xRC S Rg) {self_X12_copied : Nat → Int32 → xDt → Option (Int32 × xDt)} (hself_X12_copied : ∀ {v0 : Nat} {v1 : Int32} {D : xDt} {r : Int32 × xDt}, xK S v0 12 → Rg v0 → self_X12_copied v0 v1 D = some r → xfr Rg D r.2) {v0 : Nat} {v1 : Int32} {D : xDt} {r : Int32 × xDt} (k0 : xK S v0 12) (r0 : Rg v0) (h : f_X12_copied_o F P S self_X12_copied v0 v1 D = some r) : xfr Rg D r.2 := by
  unfold f_X12_copied_o at h
  refine xgrd_e h (fun g1 h => ?_)
  refine xif_p h (fun c h => ?_) (fun c h => ?_)
  · skip
    refine xgrd_e h (fun g2 h => ?_)
    refine xbnd_e h (fun q3 e3 h => ?_)
    refine xfr_tr (hself_X12_copied k0 r0 e3) ?_
    exact u_X12_copied_24 hS hR hself_X12_copied k0 r0 h
  · skip
    exact u_X12_copied_24 hS hR hself_X12_copied k0 r0 h

theorem U_X12_copied {F P : Nat} {S : xSt} (hS : xWF S) {Rg : Nat → Prop} (hR : xRC S Rg) : ∀ (n : Nat), ∀ {v0 : Nat} {v1 : Int32} {D : xDt} {r : Int32 × xDt}, xK S v0 12 → Rg v0 → f_X12_copied F P S n v0 v1 D = some r → xfr Rg D r.2 := by
  intro n
  induction n with
  | zero => intros; rename_i h; cases h
  | succ n ih =>
    intro v0 v1 D r k0 r0 h
    exact U_X12_copied_o hS hR (fun k0 r0 h => ih k0 r0 h) k0 r0 h

theorem u_X12_laid_142 {F P : Nat} {S : xSt} (hS : xWF S) {Rg : Nat → Prop} (hR : xRC S Rg) {rec_26 : Nat → Int32 → Int32 → Int32 → Int32 → xDt → Option (Int32 × xDt)} (hrec_26 : ∀ {v0 : Nat} {v2 : Int32} {v3 : Int32} {v4 : Int32} {v5 : Int32} {D : xDt} {r : Int32 × xDt}, xK S v0 12 → Rg v0 → rec_26 v0 v2 v3 v4 v5 D = some r → xfr Rg D r.2) {v0 : Nat} {v2 : Int32} {v3 : Int32} {v4 : Int32} {v5 : Int32} {s0 : Int32} {s1 : Int32} {s2 : Nat} {D : xDt} {r : Int32 × xDt} (k0 : xK S v0 12) (ks2 : xK S s2 100) (r0 : Rg v0) (rs2 : Rg s2) (h : f_X12_laid_142 F P S rec_26 v0 v2 v3 v4 v5 s0 s1 s2 D = some r) : xfr Rg D r.2 := by
  unfold f_X12_laid_142 at h
  refine xgrd_e h (fun g1 h => ?_)
  refine xlet_e h (fun D2 eD2 h => ?_)
  refine xfr_i rs2 eD2 ?_
  refine xgrd_e h (fun g3 h => ?_)
  refine xgrd_e h (fun g4 h => ?_)
  refine xlet_e h (fun D5 eD5 h => ?_)
  refine xfr_i (hR.1 k0 r0 11 100 rfl) eD5 ?_
  refine xgrd_e h (fun g6 h => ?_)
  refine xgrd_e h (fun g7 h => ?_)
  refine xlet_e h (fun D8 eD8 h => ?_)
  refine xfr_i (hR.1 k0 r0 12 100 rfl) eD8 ?_
  refine xlet_e h (fun v5_9 ev5_9 h => ?_)
  exact hrec_26 k0 r0 h

theorem u_X12_laid_97 {F P : Nat} {S : xSt} (hS : xWF S) {Rg : Nat → Prop} (hR : xRC S Rg) {rec_26 : Nat → Int32 → Int32 → Int32 → Int32 → xDt → Option (Int32 × xDt)} (hrec_26 : ∀ {v0 : Nat} {v2 : Int32} {v3 : Int32} {v4 : Int32} {v5 : Int32} {D : xDt} {r : Int32 × xDt}, xK S v0 12 → Rg v0 → rec_26 v0 v2 v3 v4 v5 D = some r → xfr Rg D r.2) {v0 : Nat} {v2 : Int32} {v3 : Int32} {v4 : Int32} {v5 : Int32} {s0 : Int32} {s1 : Int32} {s2 : Nat} {D : xDt} {r : Int32 × xDt} (k0 : xK S v0 12) (ks2 : xK S s2 100) (r0 : Rg v0) (rs2 : Rg s2) (h : f_X12_laid_97 F P S rec_26 v0 v2 v3 v4 v5 s0 s1 s2 D = some r) : xfr Rg D r.2 := by
  unfold f_X12_laid_97 at h
  refine xgrd_e h (fun g1 h => ?_)
  refine xlet_e h (fun D2 eD2 h => ?_)
  refine xfr_i rs2 eD2 ?_
  refine xgrd_e h (fun g3 h => ?_)
  refine xif_p h (fun c h => ?_) (fun c h => ?_)
  · skip
    refine xgrd_e h (fun g4 h => ?_)
    exact u_X12_laid_142 hS hR hrec_26 k0 ((hS.f k0 10 100 rfl).2) r0 (hR.1 k0 r0 10 100 rfl) h
  · skip
    exact u_X12_laid_142 hS hR hrec_26 k0 ((hS.f k0 10 100 rfl).2) r0 (hR.1 k0 r0 10 100 rfl) h

theorem u_X12_laid_26s {F P : Nat} {S : xSt} (hS : xWF S) {Rg : Nat → Prop} (hR : xRC S Rg) {rec_26 : Nat → Int32 → Int32 → Int32 → Int32 → xDt → Option (Int32 × xDt)} (hrec_26 : ∀ {v0 : Nat} {v2 : Int32} {v3 : Int32} {v4 : Int32} {v5 : Int32} {D : xDt} {r : Int32 × xDt}, xK S v0 12 → Rg v0 → rec_26 v0 v2 v3 v4 v5 D = some r → xfr Rg D r.2) {v0 : Nat} {v2 : Int32} {v3 : Int32} {v4 : Int32} {v5 : Int32} {D : xDt} {r : Int32 × xDt} (k0 : xK S v0 12) (r0 : Rg v0) (h : f_X12_laid_26s F P S rec_26 v0 v2 v3 v4 v5 D = some r) : xfr Rg D r.2 := by
  unfold f_X12_laid_26s at h
  refine xif_p h (fun c h => ?_) (fun c h => ?_)
  · skip
    obtain rfl := Option.some.inj h
    exact xfr_rf
  · skip
    refine xgrd_e h (fun g1 h => ?_)
    refine xgrd_e h (fun g2 h => ?_)
    refine xlet_e h (fun D3 eD3 h => ?_)
    refine xfr_i (hR.1 k0 r0 8 100 rfl) eD3 ?_
    refine xgrd_e h (fun g4 h => ?_)
    refine xif_p h (fun c h => ?_) (fun c h => ?_)
    · skip
      refine xgrd_e h (fun g5 h => ?_)
      exact u_X12_laid_97 hS hR hrec_26 k0 ((hS.f k0 9 100 rfl).2) r0 (hR.1 k0 r0 9 100 rfl) h
    · skip
      exact u_X12_laid_97 hS hR hrec_26 k0 ((hS.f k0 9 100 rfl).2) r0 (hR.1 k0 r0 9 100 rfl) h
theorem u_X12_laid_26 {F P : Nat} {S : xSt} (hS : xWF S) {Rg : Nat → Prop} (hR : xRC S Rg) : ∀ (n : Nat) {v0 : Nat} {v2 : Int32} {v3 : Int32} {v4 : Int32} {v5 : Int32} {D : xDt} {r : Int32 × xDt}, xK S v0 12 → Rg v0 → f_X12_laid_26 F P S n v0 v2 v3 v4 v5 D = some r → xfr Rg D r.2 := by
  intro n
  induction n with
  | zero => intros; rename_i h; cases h
  | succ n ih =>
    intro v0 v2 v3 v4 v5 D r k0 r0 h
    exact u_X12_laid_26s hS hR (fun k0 r0 h => ih k0 r0 h) k0 r0 h

theorem U_X12_laid {F P : Nat} {S : xSt} (hS : xWF S) {Rg : Nat → Prop} (hR : xRC S Rg) {v0 : Nat} {v1 : Int32} {v2 : Int32} {D : xDt} {r : Int32 × xDt} (k0 : xK S v0 12) (r0 : Rg v0) (h : f_X12_laid F P S v0 v1 v2 D = some r) : xfr Rg D r.2 := by
  unfold f_X12_laid at h
  refine xlet_e h (fun D1 eD1 h => ?_)
  refine xfr_i r0 eD1 ?_
  refine xbnd_e h (fun q2 e2 h => ?_)
  refine xfr_tr (U_X12_copied hS hR P k0 r0 e2) ?_
  refine xlet_e h (fun v4_3 ev4_3 h => ?_)
  exact u_X12_laid_26 hS hR F k0 r0 h

theorem U_X12_type {F P : Nat} {S : xSt} (hS : xWF S) {Rg : Nat → Prop} (hR : xRC S Rg) {v0 : Nat} {v1 : Int32} {D : xDt} {r : Int32 × xDt} (k0 : xK S v0 12) (r0 : Rg v0) (h : f_X12_type F P S v0 v1 D = some r) : xfr Rg D r.2 := by
  unfold f_X12_type at h
  refine xbnd_e h (fun q1 e1 h => ?_)
  refine xfr_tr (U_X12_in hS hR e1) ?_
  refine xif_p h (fun c h => ?_) (fun c h => ?_)
  · skip
    obtain rfl := Option.some.inj h
    exact xfr_rf
  · skip
    refine xif_n h (fun c h => ?_) (fun c h => ?_)
    · skip
      refine xgrd_e h (fun g2 h => ?_)
      refine xlet_e h (fun D3 eD3 h => ?_)
      refine xfr_i (hR.1 k0 r0 15 103 rfl) eD3 ?_
      refine xlet_e h (fun D4 eD4 h => ?_)
      refine xfr_i r0 eD4 ?_
      obtain rfl := Option.some.inj h
      exact xfr_rf
    · skip
      obtain rfl := Option.some.inj h
      exact xfr_rf

theorem u_X12_four_48 {F P : Nat} {S : xSt} (hS : xWF S) {Rg : Nat → Prop} (hR : xRC S Rg) {rec_5 : Nat → Int32 → Int32 → Int32 → xDt → Option (Int32 × xDt)} (hrec_5 : ∀ {v0 : Nat} {v1 : Int32} {v2 : Int32} {v3 : Int32} {D : xDt} {r : Int32 × xDt}, xK S v0 12 → Rg v0 → rec_5 v0 v1 v2 v3 D = some r → xfr Rg D r.2) {v0 : Nat} {v1 : Int32} {v3 : Int32} {s0 : Int32} {s1 : Int32} {D : xDt} {r : Int32 × xDt} (k0 : xK S v0 12) (r0 : Rg v0) (h : f_X12_four_48 F P S rec_5 v0 v1 v3 s0 s1 D = some r) : xfr Rg D r.2 := by
  unfold f_X12_four_48 at h
  refine xlet_e h (fun v2_1 ev2_1 h => ?_)
  refine xlet_e h (fun v3_2 ev3_2 h => ?_)
  exact hrec_5 k0 r0 h

theorem u_X12_four_37 {F P : Nat} {S : xSt} (hS : xWF S) {Rg : Nat → Prop} (hR : xRC S Rg) {rec_5 : Nat → Int32 → Int32 → Int32 → xDt → Option (Int32 × xDt)} (hrec_5 : ∀ {v0 : Nat} {v1 : Int32} {v2 : Int32} {v3 : Int32} {D : xDt} {r : Int32 × xDt}, xK S v0 12 → Rg v0 → rec_5 v0 v1 v2 v3 D = some r → xfr Rg D r.2) {v0 : Nat} {v1 : Int32} {v2 : Int32} {v3 : Int32} {v4 : Int32} {D : xDt} {r : Int32 × xDt} (k0 : xK S v0 12) (r0 : Rg v0) (h : f_X12_four_37 F P S rec_5 v0 v1 v2 v3 v4 D = some r) : xfr Rg D r.2 := by
  unfold f_X12_four_37 at h
  refine xif_p h (fun c h => ?_) (fun c h => ?_)
  · skip
    exact u_X12_four_48 hS hR hrec_5 k0 r0 h
  · skip
    exact u_X12_four_48 hS hR hrec_5 k0 r0 h

theorem u_X12_four_110 {F P : Nat} {S : xSt} (hS : xWF S) {Rg : Nat → Prop} (hR : xRC S Rg) {rec_73 : Nat → Int32 → Int32 → xDt → Option (Int32 × xDt)} (hrec_73 : ∀ {v0 : Nat} {v1 : Int32} {v3 : Int32} {D : xDt} {r : Int32 × xDt}, xK S v0 12 → Rg v0 → rec_73 v0 v1 v3 D = some r → xfr Rg D r.2) {v0 : Nat} {v1 : Int32} {v3 : Int32} {D : xDt} {r : Int32 × xDt} (k0 : xK S v0 12) (r0 : Rg v0) (h : f_X12_four_110 F P S rec_73 v0 v1 v3 D = some r) : xfr Rg D r.2 := by
  unfold f_X12_four_110 at h
  refine xlet_e h (fun v3_1 ev3_1 h => ?_)
  exact hrec_73 k0 r0 h

theorem u_X12_four_73s {F P : Nat} {S : xSt} (hS : xWF S) {Rg : Nat → Prop} (hR : xRC S Rg) {rec_73 : Nat → Int32 → Int32 → xDt → Option (Int32 × xDt)} (hrec_73 : ∀ {v0 : Nat} {v1 : Int32} {v3 : Int32} {D : xDt} {r : Int32 × xDt}, xK S v0 12 → Rg v0 → rec_73 v0 v1 v3 D = some r → xfr Rg D r.2) {v0 : Nat} {v1 : Int32} {v3 : Int32} {D : xDt} {r : Int32 × xDt} (k0 : xK S v0 12) (r0 : Rg v0) (h : f_X12_four_73s F P S rec_73 v0 v1 v3 D = some r) : xfr Rg D r.2 := by
  unfold f_X12_four_73s at h
  refine xif_p h (fun c h => ?_) (fun c h => ?_)
  · skip
    obtain rfl := Option.some.inj h
    exact xfr_rf
  · skip
    refine xif_p h (fun c h => ?_) (fun c h => ?_)
    · skip
      exact u_X12_four_110 hS hR hrec_73 k0 r0 h
    · skip
      refine xgrd_e h (fun g1 h => ?_)
      refine xlet_e h (fun D2 eD2 h => ?_)
      refine xfr_i (hR.1 k0 r0 15 103 rfl) eD2 ?_
      refine xlet_e h (fun D3 eD3 h => ?_)
      refine xfr_i r0 eD3 ?_
      exact u_X12_four_110 hS hR hrec_73 k0 r0 h
theorem u_X12_four_73 {F P : Nat} {S : xSt} (hS : xWF S) {Rg : Nat → Prop} (hR : xRC S Rg) : ∀ (n : Nat) {v0 : Nat} {v1 : Int32} {v3 : Int32} {D : xDt} {r : Int32 × xDt}, xK S v0 12 → Rg v0 → f_X12_four_73 F P S n v0 v1 v3 D = some r → xfr Rg D r.2 := by
  intro n
  induction n with
  | zero => intros; rename_i h; cases h
  | succ n ih =>
    intro v0 v1 v3 D r k0 r0 h
    exact u_X12_four_73s hS hR (fun k0 r0 h => ih k0 r0 h) k0 r0 h

theorem u_X12_four_5s {F P : Nat} {S : xSt} (hS : xWF S) {Rg : Nat → Prop} (hR : xRC S Rg) {rec_5 : Nat → Int32 → Int32 → Int32 → xDt → Option (Int32 × xDt)} (hrec_5 : ∀ {v0 : Nat} {v1 : Int32} {v2 : Int32} {v3 : Int32} {D : xDt} {r : Int32 × xDt}, xK S v0 12 → Rg v0 → rec_5 v0 v1 v2 v3 D = some r → xfr Rg D r.2) {v0 : Nat} {v1 : Int32} {v2 : Int32} {v3 : Int32} {D : xDt} {r : Int32 × xDt} (k0 : xK S v0 12) (r0 : Rg v0) (h : f_X12_four_5s F P S rec_5 v0 v1 v2 v3 D = some r) : xfr Rg D r.2 := by
  unfold f_X12_four_5s at h
  refine xif_p h (fun c h => ?_) (fun c h => ?_)
  · skip
    refine xif_p h (fun c h => ?_) (fun c h => ?_)
    · skip
      exact u_X12_four_73 hS hR F k0 r0 h
    · skip
      obtain rfl := Option.some.inj h
      exact xfr_rf
  · skip
    refine xlet_e h (fun v4_1 ev4_1 h => ?_)
    refine xif_p h (fun c h => ?_) (fun c h => ?_)
    · skip
      exact u_X12_four_37 hS hR hrec_5 k0 r0 h
    · skip
      refine xbnd_e h (fun q2 e2 h => ?_)
      refine xfr_tr (U_X12_in hS hR e2) ?_
      refine xif_n h (fun c h => ?_) (fun c h => ?_)
      · skip
        exact u_X12_four_37 hS hR hrec_5 k0 r0 h
      · skip
        obtain rfl := Option.some.inj h
        exact xfr_rf
theorem u_X12_four_5 {F P : Nat} {S : xSt} (hS : xWF S) {Rg : Nat → Prop} (hR : xRC S Rg) : ∀ (n : Nat) {v0 : Nat} {v1 : Int32} {v2 : Int32} {v3 : Int32} {D : xDt} {r : Int32 × xDt}, xK S v0 12 → Rg v0 → f_X12_four_5 F P S n v0 v1 v2 v3 D = some r → xfr Rg D r.2 := by
  intro n
  induction n with
  | zero => intros; rename_i h; cases h
  | succ n ih =>
    intro v0 v1 v2 v3 D r k0 r0 h
    exact u_X12_four_5s hS hR (fun k0 r0 h => ih k0 r0 h) k0 r0 h

theorem U_X12_four {F P : Nat} {S : xSt} (hS : xWF S) {Rg : Nat → Prop} (hR : xRC S Rg) {v0 : Nat} {v1 : Int32} {D : xDt} {r : Int32 × xDt} (k0 : xK S v0 12) (r0 : Rg v0) (h : f_X12_four F P S v0 v1 D = some r) : xfr Rg D r.2 := by
  unfold f_X12_four at h
  exact u_X12_four_5 hS hR F k0 r0 h

theorem u_X12_look_38 {F P : Nat} {S : xSt} (hS : xWF S) {Rg : Nat → Prop} (hR : xRC S Rg) {v0 : Nat} {D : xDt} {r : Int32 × xDt} (k0 : xK S v0 12) (h : f_X12_look_38 F P S v0 D = some r) : xfr Rg D r.2 := by
  unfold f_X12_look_38 at h
  refine xif_p h (fun c h => ?_) (fun c h => ?_)
  · skip
    obtain rfl := Option.some.inj h
    exact xfr_rf
  · skip
    refine xgrd_e h (fun g1 h => ?_)
    obtain rfl := Option.some.inj h
    exact xfr_rf

theorem u_X12_look_0s {F P : Nat} {S : xSt} (hS : xWF S) {Rg : Nat → Prop} (hR : xRC S Rg) {rec_0 : Nat → xDt → Option (Int32 × xDt)} (hrec_0 : ∀ {v0 : Nat} {D : xDt} {r : Int32 × xDt}, xK S v0 12 → Rg v0 → rec_0 v0 D = some r → xfr Rg D r.2) {v0 : Nat} {D : xDt} {r : Int32 × xDt} (k0 : xK S v0 12) (r0 : Rg v0) (h : f_X12_look_0s F P S rec_0 v0 D = some r) : xfr Rg D r.2 := by
  unfold f_X12_look_0s at h
  refine xif_p h (fun c h => ?_) (fun c h => ?_)
  · skip
    exact u_X12_look_38 hS hR k0 h
  · skip
    refine xgrd_e h (fun g1 h => ?_)
    refine xif_n h (fun c h => ?_) (fun c h => ?_)
    · skip
      exact u_X12_look_38 hS hR k0 h
    · skip
      refine xlet_e h (fun D2 eD2 h => ?_)
      refine xfr_i r0 eD2 ?_
      exact hrec_0 k0 r0 h
theorem u_X12_look_0 {F P : Nat} {S : xSt} (hS : xWF S) {Rg : Nat → Prop} (hR : xRC S Rg) : ∀ (n : Nat) {v0 : Nat} {D : xDt} {r : Int32 × xDt}, xK S v0 12 → Rg v0 → f_X12_look_0 F P S n v0 D = some r → xfr Rg D r.2 := by
  intro n
  induction n with
  | zero => intros; rename_i h; cases h
  | succ n ih =>
    intro v0 D r k0 r0 h
    exact u_X12_look_0s hS hR (fun k0 r0 h => ih k0 r0 h) k0 r0 h

theorem U_X12_look {F P : Nat} {S : xSt} (hS : xWF S) {Rg : Nat → Prop} (hR : xRC S Rg) {v0 : Nat} {D : xDt} {r : Int32 × xDt} (k0 : xK S v0 12) (r0 : Rg v0) (h : f_X12_look F P S v0 D = some r) : xfr Rg D r.2 := by
  unfold f_X12_look at h
  exact u_X12_look_0 hS hR F k0 r0 h

theorem U_X12_bad {F P : Nat} {S : xSt} (hS : xWF S) {Rg : Nat → Prop} (hR : xRC S Rg) {v0 : Nat} {D : xDt} {r : Int32 × xDt} (k0 : xK S v0 12) (r0 : Rg v0) (h : f_X12_bad F P S v0 D = some r) : xfr Rg D r.2 := by
  unfold f_X12_bad at h
  refine xif_p h (fun c h => ?_) (fun c h => ?_)
  · skip
    refine xlet_e h (fun D1 eD1 h => ?_)
    refine xfr_i r0 eD1 ?_
    obtain rfl := Option.some.inj h
    exact xfr_rf
  · skip
    refine xlet_e h (fun D2 eD2 h => ?_)
    refine xfr_i r0 eD2 ?_
    obtain rfl := Option.some.inj h
    exact xfr_rf

theorem u_X12_counts_22 {F P : Nat} {S : xSt} (hS : xWF S) {Rg : Nat → Prop} (hR : xRC S Rg) {v0 : Nat} {D : xDt} {r : xDt} (k0 : xK S v0 12) (r0 : Rg v0) (h : f_X12_counts_22 F P S v0 D = some r) : xfr Rg D r := by
  unfold f_X12_counts_22 at h
  refine xlet_e h (fun D1 eD1 h => ?_)
  refine xfr_i r0 eD1 ?_
  obtain rfl := Option.some.inj h
  exact xfr_rf

theorem U_X12_counts {F P : Nat} {S : xSt} (hS : xWF S) {Rg : Nat → Prop} (hR : xRC S Rg) {v0 : Nat} {D : xDt} {r : xDt} (k0 : xK S v0 12) (r0 : Rg v0) (h : f_X12_counts F P S v0 D = some r) : xfr Rg D r := by
  unfold f_X12_counts at h
  refine xif_p h (fun c h => ?_) (fun c h => ?_)
  · skip
    exact u_X12_counts_22 hS hR k0 r0 h
  · skip
    refine xif_n h (fun c h => ?_) (fun c h => ?_)
    · skip
      exact u_X12_counts_22 hS hR k0 r0 h
    · skip
      refine xbnd_e h (fun q1 e1 h => ?_)
      refine xfr_tr (U_X12_bad hS hR k0 r0 e1) ?_
      exact u_X12_counts_22 hS hR k0 r0 h

theorem u_X12_must_20 {F P : Nat} {S : xSt} (hS : xWF S) {Rg : Nat → Prop} (hR : xRC S Rg) {v0 : Nat} {D : xDt} {r : xDt} (k0 : xK S v0 12) (r0 : Rg v0) (h : f_X12_must_20 F P S v0 D = some r) : xfr Rg D r := by
  unfold f_X12_must_20 at h
  refine xif_p h (fun c h => ?_) (fun c h => ?_)
  · skip
    refine xlet_e h (fun D1 eD1 h => ?_)
    refine xfr_i r0 eD1 ?_
    obtain rfl := Option.some.inj h
    exact xfr_rf
  · skip
    refine xlet_e h (fun D2 eD2 h => ?_)
    refine xfr_i r0 eD2 ?_
    obtain rfl := Option.some.inj h
    exact xfr_rf

theorem U_X12_must {F P : Nat} {S : xSt} (hS : xWF S) {Rg : Nat → Prop} (hR : xRC S Rg) {v0 : Nat} {v1 : Int32} {D : xDt} {r : xDt} (k0 : xK S v0 12) (r0 : Rg v0) (h : f_X12_must F P S v0 v1 D = some r) : xfr Rg D r := by
  unfold f_X12_must at h
  refine xif_p h (fun c h => ?_) (fun c h => ?_)
  · skip
    exact u_X12_must_20 hS hR k0 r0 h
  · skip
    refine xbnd_e h (fun q1 e1 h => ?_)
    refine xfr_tr (U_X12_look hS hR k0 r0 e1) ?_
    refine xif_p h (fun c h => ?_) (fun c h => ?_)
    · skip
      exact u_X12_must_20 hS hR k0 r0 h
    · skip
      refine xbnd_e h (fun q2 e2 h => ?_)
      refine xfr_tr (U_X12_bad hS hR k0 r0 e2) ?_
      exact u_X12_must_20 hS hR k0 r0 h

theorem u_X12_group_49 {F P : Nat} {S : xSt} (hS : xWF S) {Rg : Nat → Prop} (hR : xRC S Rg) {rec_27 : Nat → Int32 → Int32 → Int32 → Int32 → xDt → Option (Int32 × xDt)} (hrec_27 : ∀ {v0 : Nat} {v1 : Int32} {v2 : Int32} {v3 : Int32} {v4 : Int32} {D : xDt} {r : Int32 × xDt}, xK S v0 12 → Rg v0 → rec_27 v0 v1 v2 v3 v4 D = some r → xfr Rg D r.2) {v0 : Nat} {v1 : Int32} {v2 : Int32} {v4 : Int32} {D : xDt} {r : Int32 × xDt} (k0 : xK S v0 12) (r0 : Rg v0) (h : f_X12_group_49 F P S rec_27 v0 v1 v2 v4 D = some r) : xfr Rg D r.2 := by
  unfold f_X12_group_49 at h
  refine xlet_e h (fun v3_1 ev3_1 h => ?_)
  refine xlet_e h (fun v2_2 ev2_2 h => ?_)
  refine xlet_e h (fun D3 eD3 h => ?_)
  refine xfr_i r0 eD3 ?_
  refine xbnd_e h (fun q4 e4 h => ?_)
  refine xfr_tr (U_X12_look hS hR k0 r0 e4) ?_
  exact hrec_27 k0 r0 h

theorem u_X12_group_27s {F P : Nat} {S : xSt} (hS : xWF S) {Rg : Nat → Prop} (hR : xRC S Rg) {rec_27 : Nat → Int32 → Int32 → Int32 → Int32 → xDt → Option (Int32 × xDt)} (hrec_27 : ∀ {v0 : Nat} {v1 : Int32} {v2 : Int32} {v3 : Int32} {v4 : Int32} {D : xDt} {r : Int32 × xDt}, xK S v0 12 → Rg v0 → rec_27 v0 v1 v2 v3 v4 D = some r → xfr Rg D r.2) {v0 : Nat} {v1 : Int32} {v2 : Int32} {v3 : Int32} {v4 : Int32} {D : xDt} {r : Int32 × xDt} (k0 : xK S v0 12) (r0 : Rg v0) (h : f_X12_group_27s F P S rec_27 v0 v1 v2 v3 v4 D = some r) : xfr Rg D r.2 := by
  unfold f_X12_group_27s at h
  refine xbnd_e h (fun q1 e1 h => ?_)
  refine xfr_tr (U_X12_in hS hR e1) ?_
  refine xif_p h (fun c h => ?_) (fun c h => ?_)
  · skip
    obtain rfl := Option.some.inj h
    exact xfr_rf
  · skip
    refine xif_p h (fun c h => ?_) (fun c h => ?_)
    · skip
      exact u_X12_group_49 hS hR hrec_27 k0 r0 h
    · skip
      refine xif_n h (fun c h => ?_) (fun c h => ?_)
      · skip
        obtain rfl := Option.some.inj h
        exact xfr_rf
      · skip
        exact u_X12_group_49 hS hR hrec_27 k0 r0 h
theorem u_X12_group_27 {F P : Nat} {S : xSt} (hS : xWF S) {Rg : Nat → Prop} (hR : xRC S Rg) : ∀ (n : Nat) {v0 : Nat} {v1 : Int32} {v2 : Int32} {v3 : Int32} {v4 : Int32} {D : xDt} {r : Int32 × xDt}, xK S v0 12 → Rg v0 → f_X12_group_27 F P S n v0 v1 v2 v3 v4 D = some r → xfr Rg D r.2 := by
  intro n
  induction n with
  | zero => intros; rename_i h; cases h
  | succ n ih =>
    intro v0 v1 v2 v3 v4 D r k0 r0 h
    exact u_X12_group_27s hS hR (fun k0 r0 h => ih k0 r0 h) k0 r0 h

theorem U_X12_group {F P : Nat} {S : xSt} (hS : xWF S) {Rg : Nat → Prop} (hR : xRC S Rg) {v0 : Nat} {v1 : Int32} {D : xDt} {r : Int32 × xDt} (k0 : xK S v0 12) (r0 : Rg v0) (h : f_X12_group F P S v0 v1 D = some r) : xfr Rg D r.2 := by
  unfold f_X12_group at h
  refine xbnd_e h (fun q1 e1 h => ?_)
  refine xfr_tr (U_X12_look hS hR k0 r0 e1) ?_
  refine xbnd_e h (fun q2 e2 h => ?_)
  refine xfr_tr (U_X12_in hS hR e2) ?_
  refine xif_n h (fun c h => ?_) (fun c h => ?_)
  · skip
    exact u_X12_group_27 hS hR F k0 r0 h
  · skip
    refine xbnd_e h (fun q3 e3 h => ?_)
    refine xfr_tr (U_X12_bad hS hR k0 r0 e3) ?_
    obtain rfl := Option.some.inj h
    exact xfr_rf

theorem u_X12_formulaAt_84 {F P : Nat} {S : xSt} (hS : xWF S) {Rg : Nat → Prop} (hR : xRC S Rg) {self_X12_implied : Nat → Int32 → xDt → Option (Int32 × xDt)} (hself_X12_implied : ∀ {v0 : Nat} {v1 : Int32} {D : xDt} {r : Int32 × xDt}, xK S v0 12 → Rg v0 → self_X12_implied v0 v1 D = some r → xfr Rg D r.2) {s0 : Int32} {D : xDt} {r : Int32 × xDt} (h : f_X12_formulaAt_84 F P S self_X12_implied s0 D = some r) : xfr Rg D r.2 := by
  unfold f_X12_formulaAt_84 at h
  obtain rfl := Option.some.inj h
  exact xfr_rf

theorem u_X12_formulaAt_61 {F P : Nat} {S : xSt} (hS : xWF S) {Rg : Nat → Prop} (hR : xRC S Rg) {self_X12_implied : Nat → Int32 → xDt → Option (Int32 × xDt)} (hself_X12_implied : ∀ {v0 : Nat} {v1 : Int32} {D : xDt} {r : Int32 × xDt}, xK S v0 12 → Rg v0 → self_X12_implied v0 v1 D = some r → xfr Rg D r.2) {v0 : Nat} {v3 : Int32} {s0 : Int32} {D : xDt} {r : Int32 × xDt} (k0 : xK S v0 12) (r0 : Rg v0) (h : f_X12_formulaAt_61 F P S self_X12_implied v0 v3 s0 D = some r) : xfr Rg D r.2 := by
  unfold f_X12_formulaAt_61 at h
  refine xif_p h (fun c h => ?_) (fun c h => ?_)
  · skip
    exact u_X12_formulaAt_84 hS hR hself_X12_implied h
  · skip
    refine xbnd_e h (fun q1 e1 h => ?_)
    refine xfr_tr (U_X12_node hS hR k0 r0 e1) ?_
    exact u_X12_formulaAt_84 hS hR hself_X12_implied h

theorem U_X12_formulaAt_o {F P : Nat} {S : xSt} (hS : xWF S) {Rg : Nat → Prop} (hR : xRC S Rg) {self_X12_implied : Nat → Int32 → xDt → Option (Int32 × xDt)} (hself_X12_implied : ∀ {v0 : Nat} {v1 : Int32} {D : xDt} {r : Int32 × xDt}, xK S v0 12 → Rg v0 → self_X12_implied v0 v1 D = some r → xfr Rg D r.2) {v0 : Nat} {v1 : Int32} {v2 : Int32} {D : xDt} {r : Int32 × xDt} (k0 : xK S v0 12) (r0 : Rg v0) (h : f_X12_formulaAt_o F P S self_X12_implied v0 v1 v2 D = some r) : xfr Rg D r.2 := by
  unfold f_X12_formulaAt_o at h
  refine xif_p h (fun c h => ?_) (fun c h => ?_)
  · skip
    refine xbnd_e h (fun q1 e1 h => ?_)
    refine xfr_tr (hself_X12_implied k0 r0 e1) ?_
    refine xif_p h (fun c h => ?_) (fun c h => ?_)
    · skip
      obtain rfl := Option.some.inj h
      exact xfr_rf
    · skip
      refine xbnd_e h (fun q2 e2 h => ?_)
      refine xfr_tr (U_X12_look hS hR k0 r0 e2) ?_
      refine xif_n h (fun c h => ?_) (fun c h => ?_)
      · skip
        obtain rfl := Option.some.inj h
        exact xfr_rf
      · skip
        refine xbnd_e h (fun q3 e3 h => ?_)
        refine xfr_tr (U_X12_counts hS hR k0 r0 e3) ?_
        refine xbnd_e h (fun q4 e4 h => ?_)
        refine xfr_tr (U_X12_must hS hR k0 r0 e4) ?_
        refine xif_p h (fun c h => ?_) (fun c h => ?_)
        · skip
          exact u_X12_formulaAt_61 hS hR hself_X12_implied k0 r0 h
        · skip
          refine xbnd_e h (fun q5 e5 h => ?_)
          refine xfr_tr (hself_X12_implied k0 r0 e5) ?_
          exact u_X12_formulaAt_61 hS hR hself_X12_implied k0 r0 h
  · skip
    refine xlet_e h (fun D6 eD6 h => ?_)
    refine xfr_i r0 eD6 ?_
    obtain rfl := Option.some.inj h
    exact xfr_rf

theorem u_X12_implied_69 {F P : Nat} {S : xSt} (hS : xWF S) {Rg : Nat → Prop} (hR : xRC S Rg) {self_X12_implied : Nat → Int32 → xDt → Option (Int32 × xDt)} (hself_X12_implied : ∀ {v0 : Nat} {v1 : Int32} {D : xDt} {r : Int32 × xDt}, xK S v0 12 → Rg v0 → self_X12_implied v0 v1 D = some r → xfr Rg D r.2) {self_X12_either : Nat → Int32 → xDt → Option (Int32 × xDt)} (hself_X12_either : ∀ {v0 : Nat} {v1 : Int32} {D : xDt} {r : Int32 × xDt}, xK S v0 12 → Rg v0 → self_X12_either v0 v1 D = some r → xfr Rg D r.2) {s0 : Int32} {D : xDt} {r : Int32 × xDt} (h : f_X12_implied_69 F P S self_X12_implied self_X12_either s0 D = some r) : xfr Rg D r.2 := by
  unfold f_X12_implied_69 at h
  obtain rfl := Option.some.inj h
  exact xfr_rf

theorem u_X12_implied_48 {F P : Nat} {S : xSt} (hS : xWF S) {Rg : Nat → Prop} (hR : xRC S Rg) {self_X12_implied : Nat → Int32 → xDt → Option (Int32 × xDt)} (hself_X12_implied : ∀ {v0 : Nat} {v1 : Int32} {D : xDt} {r : Int32 × xDt}, xK S v0 12 → Rg v0 → self_X12_implied v0 v1 D = some r → xfr Rg D r.2) {self_X12_either : Nat → Int32 → xDt → Option (Int32 × xDt)} (hself_X12_either : ∀ {v0 : Nat} {v1 : Int32} {D : xDt} {r : Int32 × xDt}, xK S v0 12 → Rg v0 → self_X12_either v0 v1 D = some r → xfr Rg D r.2) {v0 : Nat} {v2 : Int32} {s0 : Int32} {D : xDt} {r : Int32 × xDt} (k0 : xK S v0 12) (r0 : Rg v0) (h : f_X12_implied_48 F P S self_X12_implied self_X12_either v0 v2 s0 D = some r) : xfr Rg D r.2 := by
  unfold f_X12_implied_48 at h
  refine xif_p h (fun c h => ?_) (fun c h => ?_)
  · skip
    exact u_X12_implied_69 hS hR hself_X12_implied hself_X12_either h
  · skip
    refine xbnd_e h (fun q1 e1 h => ?_)
    refine xfr_tr (U_X12_node hS hR k0 r0 e1) ?_
    exact u_X12_implied_69 hS hR hself_X12_implied hself_X12_either h

theorem U_X12_implied_o {F P : Nat} {S : xSt} (hS : xWF S) {Rg : Nat → Prop} (hR : xRC S Rg) {self_X12_implied : Nat → Int32 → xDt → Option (Int32 × xDt)} (hself_X12_implied : ∀ {v0 : Nat} {v1 : Int32} {D : xDt} {r : Int32 × xDt}, xK S v0 12 → Rg v0 → self_X12_implied v0 v1 D = some r → xfr Rg D r.2) {self_X12_either : Nat → Int32 → xDt → Option (Int32 × xDt)} (hself_X12_either : ∀ {v0 : Nat} {v1 : Int32} {D : xDt} {r : Int32 × xDt}, xK S v0 12 → Rg v0 → self_X12_either v0 v1 D = some r → xfr Rg D r.2) {v0 : Nat} {v1 : Int32} {D : xDt} {r : Int32 × xDt} (k0 : xK S v0 12) (r0 : Rg v0) (h : f_X12_implied_o F P S self_X12_implied self_X12_either v0 v1 D = some r) : xfr Rg D r.2 := by
  unfold f_X12_implied_o at h
  refine xbnd_e h (fun q1 e1 h => ?_)
  refine xfr_tr (hself_X12_either k0 r0 e1) ?_
  refine xif_p h (fun c h => ?_) (fun c h => ?_)
  · skip
    obtain rfl := Option.some.inj h
    exact xfr_rf
  · skip
    refine xbnd_e h (fun q2 e2 h => ?_)
    refine xfr_tr (U_X12_look hS hR k0 r0 e2) ?_
    refine xif_n h (fun c h => ?_) (fun c h => ?_)
    · skip
      obtain rfl := Option.some.inj h
      exact xfr_rf
    · skip
      refine xbnd_e h (fun q3 e3 h => ?_)
      refine xfr_tr (U_X12_counts hS hR k0 r0 e3) ?_
      refine xbnd_e h (fun q4 e4 h => ?_)
      refine xfr_tr (U_X12_must hS hR k0 r0 e4) ?_
      refine xif_p h (fun c h => ?_) (fun c h => ?_)
      · skip
        exact u_X12_implied_48 hS hR hself_X12_implied hself_X12_either k0 r0 h
      · skip
        refine xbnd_e h (fun q5 e5 h => ?_)
        refine xfr_tr (hself_X12_implied k0 r0 e5) ?_
        exact u_X12_implied_48 hS hR hself_X12_implied hself_X12_either k0 r0 h

theorem u_X12_either_69 {F P : Nat} {S : xSt} (hS : xWF S) {Rg : Nat → Prop} (hR : xRC S Rg) {self_X12_both : Nat → Int32 → xDt → Option (Int32 × xDt)} (hself_X12_both : ∀ {v0 : Nat} {v1 : Int32} {D : xDt} {r : Int32 × xDt}, xK S v0 12 → Rg v0 → self_X12_both v0 v1 D = some r → xfr Rg D r.2) {rec_6 : Nat → Int32 → Int32 → xDt → Option (Int32 × xDt)} (hrec_6 : ∀ {v0 : Nat} {v1 : Int32} {v2 : Int32} {D : xDt} {r : Int32 × xDt}, xK S v0 12 → Rg v0 → rec_6 v0 v1 v2 D = some r → xfr Rg D r.2) {v0 : Nat} {v1 : Int32} {s0 : Int32} {D : xDt} {r : Int32 × xDt} (k0 : xK S v0 12) (r0 : Rg v0) (h : f_X12_either_69 F P S self_X12_both rec_6 v0 v1 s0 D = some r) : xfr Rg D r.2 := by
  unfold f_X12_either_69 at h
  exact hrec_6 k0 r0 h

theorem u_X12_either_48 {F P : Nat} {S : xSt} (hS : xWF S) {Rg : Nat → Prop} (hR : xRC S Rg) {self_X12_both : Nat → Int32 → xDt → Option (Int32 × xDt)} (hself_X12_both : ∀ {v0 : Nat} {v1 : Int32} {D : xDt} {r : Int32 × xDt}, xK S v0 12 → Rg v0 → self_X12_both v0 v1 D = some r → xfr Rg D r.2) {rec_6 : Nat → Int32 → Int32 → xDt → Option (Int32 × xDt)} (hrec_6 : ∀ {v0 : Nat} {v1 : Int32} {v2 : Int32} {D : xDt} {r : Int32 × xDt}, xK S v0 12 → Rg v0 → rec_6 v0 v1 v2 D = some r → xfr Rg D r.2) {v0 : Nat} {v1 : Int32} {v2 : Int32} {s0 : Int32} {D : xDt} {r : Int32 × xDt} (k0 : xK S v0 12) (r0 : Rg v0) (h : f_X12_either_48 F P S self_X12_both rec_6 v0 v1 v2 s0 D = some r) : xfr Rg D r.2 := by
  unfold f_X12_either_48 at h
  refine xif_p h (fun c h => ?_) (fun c h => ?_)
  · skip
    exact u_X12_either_69 hS hR hself_X12_both hrec_6 k0 r0 h
  · skip
    refine xbnd_e h (fun q1 e1 h => ?_)
    refine xfr_tr (U_X12_node hS hR k0 r0 e1) ?_
    exact u_X12_either_69 hS hR hself_X12_both hrec_6 k0 r0 h

theorem u_X12_either_6s {F P : Nat} {S : xSt} (hS : xWF S) {Rg : Nat → Prop} (hR : xRC S Rg) {self_X12_both : Nat → Int32 → xDt → Option (Int32 × xDt)} (hself_X12_both : ∀ {v0 : Nat} {v1 : Int32} {D : xDt} {r : Int32 × xDt}, xK S v0 12 → Rg v0 → self_X12_both v0 v1 D = some r → xfr Rg D r.2) {rec_6 : Nat → Int32 → Int32 → xDt → Option (Int32 × xDt)} (hrec_6 : ∀ {v0 : Nat} {v1 : Int32} {v2 : Int32} {D : xDt} {r : Int32 × xDt}, xK S v0 12 → Rg v0 → rec_6 v0 v1 v2 D = some r → xfr Rg D r.2) {v0 : Nat} {v1 : Int32} {v2 : Int32} {D : xDt} {r : Int32 × xDt} (k0 : xK S v0 12) (r0 : Rg v0) (h : f_X12_either_6s F P S self_X12_both rec_6 v0 v1 v2 D = some r) : xfr Rg D r.2 := by
  unfold f_X12_either_6s at h
  refine xif_p h (fun c h => ?_) (fun c h => ?_)
  · skip
    obtain rfl := Option.some.inj h
    exact xfr_rf
  · skip
    refine xbnd_e h (fun q1 e1 h => ?_)
    refine xfr_tr (U_X12_look hS hR k0 r0 e1) ?_
    refine xif_n h (fun c h => ?_) (fun c h => ?_)
    · skip
      obtain rfl := Option.some.inj h
      exact xfr_rf
    · skip
      refine xbnd_e h (fun q2 e2 h => ?_)
      refine xfr_tr (U_X12_counts hS hR k0 r0 e2) ?_
      refine xbnd_e h (fun q3 e3 h => ?_)
      refine xfr_tr (U_X12_must hS hR k0 r0 e3) ?_
      refine xif_p h (fun c h => ?_) (fun c h => ?_)
      · skip
        exact u_X12_either_48 hS hR hself_X12_both hrec_6 k0 r0 h
      · skip
        refine xbnd_e h (fun q4 e4 h => ?_)
        refine xfr_tr (hself_X12_both k0 r0 e4) ?_
        exact u_X12_either_48 hS hR hself_X12_both hrec_6 k0 r0 h
theorem u_X12_either_6 {F P : Nat} {S : xSt} (hS : xWF S) {Rg : Nat → Prop} (hR : xRC S Rg) {self_X12_both : Nat → Int32 → xDt → Option (Int32 × xDt)} (hself_X12_both : ∀ {v0 : Nat} {v1 : Int32} {D : xDt} {r : Int32 × xDt}, xK S v0 12 → Rg v0 → self_X12_both v0 v1 D = some r → xfr Rg D r.2) : ∀ (n : Nat) {v0 : Nat} {v1 : Int32} {v2 : Int32} {D : xDt} {r : Int32 × xDt}, xK S v0 12 → Rg v0 → f_X12_either_6 F P S self_X12_both n v0 v1 v2 D = some r → xfr Rg D r.2 := by
  intro n
  induction n with
  | zero => intros; rename_i h; cases h
  | succ n ih =>
    intro v0 v1 v2 D r k0 r0 h
    exact u_X12_either_6s hS hR hself_X12_both (fun k0 r0 h => ih k0 r0 h) k0 r0 h

theorem U_X12_either_o {F P : Nat} {S : xSt} (hS : xWF S) {Rg : Nat → Prop} (hR : xRC S Rg) {self_X12_both : Nat → Int32 → xDt → Option (Int32 × xDt)} (hself_X12_both : ∀ {v0 : Nat} {v1 : Int32} {D : xDt} {r : Int32 × xDt}, xK S v0 12 → Rg v0 → self_X12_both v0 v1 D = some r → xfr Rg D r.2) {v0 : Nat} {v1 : Int32} {D : xDt} {r : Int32 × xDt} (k0 : xK S v0 12) (r0 : Rg v0) (h : f_X12_either_o F P S self_X12_both v0 v1 D = some r) : xfr Rg D r.2 := by
  unfold f_X12_either_o at h
  refine xbnd_e h (fun q1 e1 h => ?_)
  refine xfr_tr (hself_X12_both k0 r0 e1) ?_
  exact u_X12_either_6 hS hR hself_X12_both F k0 r0 h

theorem u_X12_both_71 {F P : Nat} {S : xSt} (hS : xWF S) {Rg : Nat → Prop} (hR : xRC S Rg) {self_X12_one : Nat → Int32 → Int32 → xDt → Option (Int32 × xDt)} (hself_X12_one : ∀ {v0 : Nat} {v1 : Int32} {v2 : Int32} {D : xDt} {r : Int32 × xDt}, xK S v0 12 → Rg v0 → self_X12_one v0 v1 v2 D = some r → xfr Rg D r.2) {rec_7 : Nat → Int32 → Int32 → xDt → Option (Int32 × xDt)} (hrec_7 : ∀ {v0 : Nat} {v1 : Int32} {v2 : Int32} {D : xDt} {r : Int32 × xDt}, xK S v0 12 → Rg v0 → rec_7 v0 v1 v2 D = some r → xfr Rg D r.2) {v0 : Nat} {v1 : Int32} {s0 : Int32} {D : xDt} {r : Int32 × xDt} (k0 : xK S v0 12) (r0 : Rg v0) (h : f_X12_both_71 F P S self_X12_one rec_7 v0 v1 s0 D = some r) : xfr Rg D r.2 := by
  unfold f_X12_both_71 at h
  exact hrec_7 k0 r0 h

theorem u_X12_both_50 {F P : Nat} {S : xSt} (hS : xWF S) {Rg : Nat → Prop} (hR : xRC S Rg) {self_X12_one : Nat → Int32 → Int32 → xDt → Option (Int32 × xDt)} (hself_X12_one : ∀ {v0 : Nat} {v1 : Int32} {v2 : Int32} {D : xDt} {r : Int32 × xDt}, xK S v0 12 → Rg v0 → self_X12_one v0 v1 v2 D = some r → xfr Rg D r.2) {rec_7 : Nat → Int32 → Int32 → xDt → Option (Int32 × xDt)} (hrec_7 : ∀ {v0 : Nat} {v1 : Int32} {v2 : Int32} {D : xDt} {r : Int32 × xDt}, xK S v0 12 → Rg v0 → rec_7 v0 v1 v2 D = some r → xfr Rg D r.2) {v0 : Nat} {v1 : Int32} {v2 : Int32} {s0 : Int32} {D : xDt} {r : Int32 × xDt} (k0 : xK S v0 12) (r0 : Rg v0) (h : f_X12_both_50 F P S self_X12_one rec_7 v0 v1 v2 s0 D = some r) : xfr Rg D r.2 := by
  unfold f_X12_both_50 at h
  refine xif_p h (fun c h => ?_) (fun c h => ?_)
  · skip
    exact u_X12_both_71 hS hR hself_X12_one hrec_7 k0 r0 h
  · skip
    refine xbnd_e h (fun q1 e1 h => ?_)
    refine xfr_tr (U_X12_node hS hR k0 r0 e1) ?_
    exact u_X12_both_71 hS hR hself_X12_one hrec_7 k0 r0 h

theorem u_X12_both_7s {F P : Nat} {S : xSt} (hS : xWF S) {Rg : Nat → Prop} (hR : xRC S Rg) {self_X12_one : Nat → Int32 → Int32 → xDt → Option (Int32 × xDt)} (hself_X12_one : ∀ {v0 : Nat} {v1 : Int32} {v2 : Int32} {D : xDt} {r : Int32 × xDt}, xK S v0 12 → Rg v0 → self_X12_one v0 v1 v2 D = some r → xfr Rg D r.2) {rec_7 : Nat → Int32 → Int32 → xDt → Option (Int32 × xDt)} (hrec_7 : ∀ {v0 : Nat} {v1 : Int32} {v2 : Int32} {D : xDt} {r : Int32 × xDt}, xK S v0 12 → Rg v0 → rec_7 v0 v1 v2 D = some r → xfr Rg D r.2) {v0 : Nat} {v1 : Int32} {v2 : Int32} {D : xDt} {r : Int32 × xDt} (k0 : xK S v0 12) (r0 : Rg v0) (h : f_X12_both_7s F P S self_X12_one rec_7 v0 v1 v2 D = some r) : xfr Rg D r.2 := by
  unfold f_X12_both_7s at h
  refine xif_p h (fun c h => ?_) (fun c h => ?_)
  · skip
    obtain rfl := Option.some.inj h
    exact xfr_rf
  · skip
    refine xbnd_e h (fun q1 e1 h => ?_)
    refine xfr_tr (U_X12_look hS hR k0 r0 e1) ?_
    refine xif_n h (fun c h => ?_) (fun c h => ?_)
    · skip
      obtain rfl := Option.some.inj h
      exact xfr_rf
    · skip
      refine xbnd_e h (fun q2 e2 h => ?_)
      refine xfr_tr (U_X12_counts hS hR k0 r0 e2) ?_
      refine xbnd_e h (fun q3 e3 h => ?_)
      refine xfr_tr (U_X12_must hS hR k0 r0 e3) ?_
      refine xif_p h (fun c h => ?_) (fun c h => ?_)
      · skip
        exact u_X12_both_50 hS hR hself_X12_one hrec_7 k0 r0 h
      · skip
        refine xbnd_e h (fun q4 e4 h => ?_)
        refine xfr_tr (hself_X12_one k0 r0 e4) ?_
        exact u_X12_both_50 hS hR hself_X12_one hrec_7 k0 r0 h
theorem u_X12_both_7 {F P : Nat} {S : xSt} (hS : xWF S) {Rg : Nat → Prop} (hR : xRC S Rg) {self_X12_one : Nat → Int32 → Int32 → xDt → Option (Int32 × xDt)} (hself_X12_one : ∀ {v0 : Nat} {v1 : Int32} {v2 : Int32} {D : xDt} {r : Int32 × xDt}, xK S v0 12 → Rg v0 → self_X12_one v0 v1 v2 D = some r → xfr Rg D r.2) : ∀ (n : Nat) {v0 : Nat} {v1 : Int32} {v2 : Int32} {D : xDt} {r : Int32 × xDt}, xK S v0 12 → Rg v0 → f_X12_both_7 F P S self_X12_one n v0 v1 v2 D = some r → xfr Rg D r.2 := by
  intro n
  induction n with
  | zero => intros; rename_i h; cases h
  | succ n ih =>
    intro v0 v1 v2 D r k0 r0 h
    exact u_X12_both_7s hS hR hself_X12_one (fun k0 r0 h => ih k0 r0 h) k0 r0 h

theorem U_X12_both_o {F P : Nat} {S : xSt} (hS : xWF S) {Rg : Nat → Prop} (hR : xRC S Rg) {self_X12_one : Nat → Int32 → Int32 → xDt → Option (Int32 × xDt)} (hself_X12_one : ∀ {v0 : Nat} {v1 : Int32} {v2 : Int32} {D : xDt} {r : Int32 × xDt}, xK S v0 12 → Rg v0 → self_X12_one v0 v1 v2 D = some r → xfr Rg D r.2) {v0 : Nat} {v1 : Int32} {D : xDt} {r : Int32 × xDt} (k0 : xK S v0 12) (r0 : Rg v0) (h : f_X12_both_o F P S self_X12_one v0 v1 D = some r) : xfr Rg D r.2 := by
  unfold f_X12_both_o at h
  refine xbnd_e h (fun q1 e1 h => ?_)
  refine xfr_tr (hself_X12_one k0 r0 e1) ?_
  exact u_X12_both_7 hS hR hself_X12_one F k0 r0 h

theorem u_X12_one_60 {F P : Nat} {S : xSt} (hS : xWF S) {Rg : Nat → Prop} (hR : xRC S Rg) {self_X12_formulaAt : Nat → Int32 → Int32 → xDt → Option (Int32 × xDt)} (hself_X12_formulaAt : ∀ {v0 : Nat} {v1 : Int32} {v2 : Int32} {D : xDt} {r : Int32 × xDt}, xK S v0 12 → Rg v0 → self_X12_formulaAt v0 v1 v2 D = some r → xfr Rg D r.2) {self_X12_one : Nat → Int32 → Int32 → xDt → Option (Int32 × xDt)} (hself_X12_one : ∀ {v0 : Nat} {v1 : Int32} {v2 : Int32} {D : xDt} {r : Int32 × xDt}, xK S v0 12 → Rg v0 → self_X12_one v0 v1 v2 D = some r → xfr Rg D r.2) {v0 : Nat} {v3 : Int32} {s0 : Int32} {s1 : Int32} {s2 : Nat} {D : xDt} {r : Int32 × xDt} (k0 : xK S v0 12) (ks2 : xK S s2 12) (r0 : Rg v0) (rs2 : Rg s2) (h : f_X12_one_60 F P S self_X12_formulaAt self_X12_one v0 v3 s0 s1 s2 D = some r) : xfr Rg D r.2 := by
  unfold f_X12_one_60 at h
  refine xlet_e h (fun D1 eD1 h => ?_)
  refine xfr_i rs2 eD1 ?_
  refine xif_p h (fun c h => ?_) (fun c h => ?_)
  · skip
    refine xif_n h (fun c h => ?_) (fun c h => ?_)
    · skip
      refine xif_n h (fun c h => ?_) (fun c h => ?_)
      · skip
        refine xbnd_e h (fun q2 e2 h => ?_)
        refine xfr_tr (U_X12_node hS hR k0 r0 e2) ?_
        obtain rfl := Option.some.inj h
        exact xfr_rf
      · skip
        refine xbnd_e h (fun q3 e3 h => ?_)
        refine xfr_tr (U_X12_node hS hR k0 r0 e3) ?_
        obtain rfl := Option.some.inj h
        exact xfr_rf
    · skip
      refine xbnd_e h (fun q4 e4 h => ?_)
      refine xfr_tr (U_X12_node hS hR k0 r0 e4) ?_
      obtain rfl := Option.some.inj h
      exact xfr_rf
  · skip
    obtain rfl := Option.some.inj h
    exact xfr_rf

theorem u_X12_one_39 {F P : Nat} {S : xSt} (hS : xWF S) {Rg : Nat → Prop} (hR : xRC S Rg) {self_X12_formulaAt : Nat → Int32 → Int32 → xDt → Option (Int32 × xDt)} (hself_X12_formulaAt : ∀ {v0 : Nat} {v1 : Int32} {v2 : Int32} {D : xDt} {r : Int32 × xDt}, xK S v0 12 → Rg v0 → self_X12_formulaAt v0 v1 v2 D = some r → xfr Rg D r.2) {self_X12_one : Nat → Int32 → Int32 → xDt → Option (Int32 × xDt)} (hself_X12_one : ∀ {v0 : Nat} {v1 : Int32} {v2 : Int32} {D : xDt} {r : Int32 × xDt}, xK S v0 12 → Rg v0 → self_X12_one v0 v1 v2 D = some r → xfr Rg D r.2) {v0 : Nat} {v3 : Int32} {D : xDt} {r : Int32 × xDt} (k0 : xK S v0 12) (r0 : Rg v0) (h : f_X12_one_39 F P S self_X12_formulaAt self_X12_one v0 v3 D = some r) : xfr Rg D r.2 := by
  unfold f_X12_one_39 at h
  refine xbnd_e h (fun q1 e1 h => ?_)
  refine xfr_tr (U_X12_counts hS hR k0 r0 e1) ?_
  refine xif_p h (fun c h => ?_) (fun c h => ?_)
  · skip
    exact u_X12_one_60 hS hR hself_X12_formulaAt hself_X12_one k0 k0 r0 r0 h
  · skip
    exact u_X12_one_60 hS hR hself_X12_formulaAt hself_X12_one k0 k0 r0 r0 h

theorem u_X12_one_263 {F P : Nat} {S : xSt} (hS : xWF S) {Rg : Nat → Prop} (hR : xRC S Rg) {self_X12_formulaAt : Nat → Int32 → Int32 → xDt → Option (Int32 × xDt)} (hself_X12_formulaAt : ∀ {v0 : Nat} {v1 : Int32} {v2 : Int32} {D : xDt} {r : Int32 × xDt}, xK S v0 12 → Rg v0 → self_X12_formulaAt v0 v1 v2 D = some r → xfr Rg D r.2) {self_X12_one : Nat → Int32 → Int32 → xDt → Option (Int32 × xDt)} (hself_X12_one : ∀ {v0 : Nat} {v1 : Int32} {v2 : Int32} {D : xDt} {r : Int32 × xDt}, xK S v0 12 → Rg v0 → self_X12_one v0 v1 v2 D = some r → xfr Rg D r.2) {v4 : Int32} {v5 : Int32} {s0 : Int32} {s1 : Nat} {D : xDt} {r : Int32 × xDt} (ks1 : xK S s1 12) (rs1 : Rg s1) (h : f_X12_one_263 F P S self_X12_formulaAt self_X12_one v4 v5 s0 s1 D = some r) : xfr Rg D r.2 := by
  unfold f_X12_one_263 at h
  refine xbnd_e h (fun q1 e1 h => ?_)
  refine xfr_tr (U_X12_node hS hR ks1 rs1 e1) ?_
  obtain rfl := Option.some.inj h
  exact xfr_rf

theorem u_X12_one_240 {F P : Nat} {S : xSt} (hS : xWF S) {Rg : Nat → Prop} (hR : xRC S Rg) {self_X12_formulaAt : Nat → Int32 → Int32 → xDt → Option (Int32 × xDt)} (hself_X12_formulaAt : ∀ {v0 : Nat} {v1 : Int32} {v2 : Int32} {D : xDt} {r : Int32 × xDt}, xK S v0 12 → Rg v0 → self_X12_formulaAt v0 v1 v2 D = some r → xfr Rg D r.2) {self_X12_one : Nat → Int32 → Int32 → xDt → Option (Int32 × xDt)} (hself_X12_one : ∀ {v0 : Nat} {v1 : Int32} {v2 : Int32} {D : xDt} {r : Int32 × xDt}, xK S v0 12 → Rg v0 → self_X12_one v0 v1 v2 D = some r → xfr Rg D r.2) {v0 : Nat} {v3 : Int32} {v4 : Int32} {s0 : Int32} {D : xDt} {r : Int32 × xDt} (k0 : xK S v0 12) (r0 : Rg v0) (h : f_X12_one_240 F P S self_X12_formulaAt self_X12_one v0 v3 v4 s0 D = some r) : xfr Rg D r.2 := by
  unfold f_X12_one_240 at h
  refine xif_p h (fun c h => ?_) (fun c h => ?_)
  · skip
    obtain rfl := Option.some.inj h
    exact xfr_rf
  · skip
    refine xif_n h (fun c h => ?_) (fun c h => ?_)
    · skip
      exact u_X12_one_263 hS hR hself_X12_formulaAt hself_X12_one k0 r0 h
    · skip
      exact u_X12_one_263 hS hR hself_X12_formulaAt hself_X12_one k0 r0 h

theorem u_X12_one_212 {F P : Nat} {S : xSt} (hS : xWF S) {Rg : Nat → Prop} (hR : xRC S Rg) {self_X12_formulaAt : Nat → Int32 → Int32 → xDt → Option (Int32 × xDt)} (hself_X12_formulaAt : ∀ {v0 : Nat} {v1 : Int32} {v2 : Int32} {D : xDt} {r : Int32 × xDt}, xK S v0 12 → Rg v0 → self_X12_formulaAt v0 v1 v2 D = some r → xfr Rg D r.2) {self_X12_one : Nat → Int32 → Int32 → xDt → Option (Int32 × xDt)} (hself_X12_one : ∀ {v0 : Nat} {v1 : Int32} {v2 : Int32} {D : xDt} {r : Int32 × xDt}, xK S v0 12 → Rg v0 → self_X12_one v0 v1 v2 D = some r → xfr Rg D r.2) {v0 : Nat} {v1 : Int32} {v2 : Int32} {v3 : Int32} {s0 : Int32} {D : xDt} {r : Int32 × xDt} (k0 : xK S v0 12) (r0 : Rg v0) (h : f_X12_one_212 F P S self_X12_formulaAt self_X12_one v0 v1 v2 v3 s0 D = some r) : xfr Rg D r.2 := by
  unfold f_X12_one_212 at h
  refine xbnd_e h (fun q1 e1 h => ?_)
  refine xfr_tr (U_X12_must hS hR k0 r0 e1) ?_
  refine xif_p h (fun c h => ?_) (fun c h => ?_)
  · skip
    exact u_X12_one_240 hS hR hself_X12_formulaAt hself_X12_one k0 r0 h
  · skip
    refine xbnd_e h (fun q2 e2 h => ?_)
    refine xfr_tr (hself_X12_one k0 r0 e2) ?_
    exact u_X12_one_240 hS hR hself_X12_formulaAt hself_X12_one k0 r0 h

theorem u_X12_one_179 {F P : Nat} {S : xSt} (hS : xWF S) {Rg : Nat → Prop} (hR : xRC S Rg) {self_X12_formulaAt : Nat → Int32 → Int32 → xDt → Option (Int32 × xDt)} (hself_X12_formulaAt : ∀ {v0 : Nat} {v1 : Int32} {v2 : Int32} {D : xDt} {r : Int32 × xDt}, xK S v0 12 → Rg v0 → self_X12_formulaAt v0 v1 v2 D = some r → xfr Rg D r.2) {self_X12_one : Nat → Int32 → Int32 → xDt → Option (Int32 × xDt)} (hself_X12_one : ∀ {v0 : Nat} {v1 : Int32} {v2 : Int32} {D : xDt} {r : Int32 × xDt}, xK S v0 12 → Rg v0 → self_X12_one v0 v1 v2 D = some r → xfr Rg D r.2) {v0 : Nat} {v1 : Int32} {v2 : Int32} {v3 : Int32} {D : xDt} {r : Int32 × xDt} (k0 : xK S v0 12) (r0 : Rg v0) (h : f_X12_one_179 F P S self_X12_formulaAt self_X12_one v0 v1 v2 v3 D = some r) : xfr Rg D r.2 := by
  unfold f_X12_one_179 at h
  refine xbnd_e h (fun q1 e1 h => ?_)
  refine xfr_tr (U_X12_counts hS hR k0 r0 e1) ?_
  refine xbnd_e h (fun q2 e2 h => ?_)
  refine xfr_tr (U_X12_must hS hR k0 r0 e2) ?_
  refine xif_p h (fun c h => ?_) (fun c h => ?_)
  · skip
    exact u_X12_one_212 hS hR hself_X12_formulaAt hself_X12_one k0 r0 h
  · skip
    refine xbnd_e h (fun q3 e3 h => ?_)
    refine xfr_tr (hself_X12_formulaAt k0 r0 e3) ?_
    exact u_X12_one_212 hS hR hself_X12_formulaAt hself_X12_one k0 r0 h

theorem u_X12_one_423 {F P : Nat} {S : xSt} (hS : xWF S) {Rg : Nat → Prop} (hR : xRC S Rg) {self_X12_formulaAt : Nat → Int32 → Int32 → xDt → Option (Int32 × xDt)} (hself_X12_formulaAt : ∀ {v0 : Nat} {v1 : Int32} {v2 : Int32} {D : xDt} {r : Int32 × xDt}, xK S v0 12 → Rg v0 → self_X12_formulaAt v0 v1 v2 D = some r → xfr Rg D r.2) {self_X12_one : Nat → Int32 → Int32 → xDt → Option (Int32 × xDt)} (hself_X12_one : ∀ {v0 : Nat} {v1 : Int32} {v2 : Int32} {D : xDt} {r : Int32 × xDt}, xK S v0 12 → Rg v0 → self_X12_one v0 v1 v2 D = some r → xfr Rg D r.2) {v0 : Nat} {v4 : Int32} {v5 : Int32} {s0 : Int32} {D : xDt} {r : Int32 × xDt} (k0 : xK S v0 12) (r0 : Rg v0) (h : f_X12_one_423 F P S self_X12_formulaAt self_X12_one v0 v4 v5 s0 D = some r) : xfr Rg D r.2 := by
  unfold f_X12_one_423 at h
  refine xif_p h (fun c h => ?_) (fun c h => ?_)
  · skip
    obtain rfl := Option.some.inj h
    exact xfr_rf
  · skip
    refine xbnd_e h (fun q1 e1 h => ?_)
    refine xfr_tr (U_X12_node hS hR k0 r0 e1) ?_
    obtain rfl := Option.some.inj h
    exact xfr_rf

theorem u_X12_one_402 {F P : Nat} {S : xSt} (hS : xWF S) {Rg : Nat → Prop} (hR : xRC S Rg) {self_X12_formulaAt : Nat → Int32 → Int32 → xDt → Option (Int32 × xDt)} (hself_X12_formulaAt : ∀ {v0 : Nat} {v1 : Int32} {v2 : Int32} {D : xDt} {r : Int32 × xDt}, xK S v0 12 → Rg v0 → self_X12_formulaAt v0 v1 v2 D = some r → xfr Rg D r.2) {self_X12_one : Nat → Int32 → Int32 → xDt → Option (Int32 × xDt)} (hself_X12_one : ∀ {v0 : Nat} {v1 : Int32} {v2 : Int32} {D : xDt} {r : Int32 × xDt}, xK S v0 12 → Rg v0 → self_X12_one v0 v1 v2 D = some r → xfr Rg D r.2) {v0 : Nat} {v1 : Int32} {v2 : Int32} {v4 : Int32} {s0 : Int32} {D : xDt} {r : Int32 × xDt} (k0 : xK S v0 12) (r0 : Rg v0) (h : f_X12_one_402 F P S self_X12_formulaAt self_X12_one v0 v1 v2 v4 s0 D = some r) : xfr Rg D r.2 := by
  unfold f_X12_one_402 at h
  refine xif_p h (fun c h => ?_) (fun c h => ?_)
  · skip
    exact u_X12_one_423 hS hR hself_X12_formulaAt hself_X12_one k0 r0 h
  · skip
    refine xbnd_e h (fun q1 e1 h => ?_)
    refine xfr_tr (hself_X12_one k0 r0 e1) ?_
    exact u_X12_one_423 hS hR hself_X12_formulaAt hself_X12_one k0 r0 h

theorem u_X12_one_395 {F P : Nat} {S : xSt} (hS : xWF S) {Rg : Nat → Prop} (hR : xRC S Rg) {self_X12_formulaAt : Nat → Int32 → Int32 → xDt → Option (Int32 × xDt)} (hself_X12_formulaAt : ∀ {v0 : Nat} {v1 : Int32} {v2 : Int32} {D : xDt} {r : Int32 × xDt}, xK S v0 12 → Rg v0 → self_X12_formulaAt v0 v1 v2 D = some r → xfr Rg D r.2) {self_X12_one : Nat → Int32 → Int32 → xDt → Option (Int32 × xDt)} (hself_X12_one : ∀ {v0 : Nat} {v1 : Int32} {v2 : Int32} {D : xDt} {r : Int32 × xDt}, xK S v0 12 → Rg v0 → self_X12_one v0 v1 v2 D = some r → xfr Rg D r.2) {v0 : Nat} {v1 : Int32} {v2 : Int32} {v4 : Int32} {s0 : Int32} {s1 : Nat} {D : xDt} {r : Int32 × xDt} (k0 : xK S v0 12) (ks1 : xK S s1 12) (r0 : Rg v0) (rs1 : Rg s1) (h : f_X12_one_395 F P S self_X12_formulaAt self_X12_one v0 v1 v2 v4 s0 s1 D = some r) : xfr Rg D r.2 := by
  unfold f_X12_one_395 at h
  refine xbnd_e h (fun q1 e1 h => ?_)
  refine xfr_tr (U_X12_group hS hR ks1 rs1 e1) ?_
  exact u_X12_one_402 hS hR hself_X12_formulaAt hself_X12_one k0 r0 h

theorem u_X12_one_390 {F P : Nat} {S : xSt} (hS : xWF S) {Rg : Nat → Prop} (hR : xRC S Rg) {self_X12_formulaAt : Nat → Int32 → Int32 → xDt → Option (Int32 × xDt)} (hself_X12_formulaAt : ∀ {v0 : Nat} {v1 : Int32} {v2 : Int32} {D : xDt} {r : Int32 × xDt}, xK S v0 12 → Rg v0 → self_X12_formulaAt v0 v1 v2 D = some r → xfr Rg D r.2) {self_X12_one : Nat → Int32 → Int32 → xDt → Option (Int32 × xDt)} (hself_X12_one : ∀ {v0 : Nat} {v1 : Int32} {v2 : Int32} {D : xDt} {r : Int32 × xDt}, xK S v0 12 → Rg v0 → self_X12_one v0 v1 v2 D = some r → xfr Rg D r.2) {v0 : Nat} {v1 : Int32} {v2 : Int32} {v4 : Int32} {s0 : Nat} {D : xDt} {r : Int32 × xDt} (k0 : xK S v0 12) (ks0 : xK S s0 12) (r0 : Rg v0) (rs0 : Rg s0) (h : f_X12_one_390 F P S self_X12_formulaAt self_X12_one v0 v1 v2 v4 s0 D = some r) : xfr Rg D r.2 := by
  unfold f_X12_one_390 at h
  exact u_X12_one_395 hS hR hself_X12_formulaAt hself_X12_one k0 ks0 r0 rs0 h

theorem u_X12_one_401 {F P : Nat} {S : xSt} (hS : xWF S) {Rg : Nat → Prop} (hR : xRC S Rg) {self_X12_formulaAt : Nat → Int32 → Int32 → xDt → Option (Int32 × xDt)} (hself_X12_formulaAt : ∀ {v0 : Nat} {v1 : Int32} {v2 : Int32} {D : xDt} {r : Int32 × xDt}, xK S v0 12 → Rg v0 → self_X12_formulaAt v0 v1 v2 D = some r → xfr Rg D r.2) {self_X12_one : Nat → Int32 → Int32 → xDt → Option (Int32 × xDt)} (hself_X12_one : ∀ {v0 : Nat} {v1 : Int32} {v2 : Int32} {D : xDt} {r : Int32 × xDt}, xK S v0 12 → Rg v0 → self_X12_one v0 v1 v2 D = some r → xfr Rg D r.2) {v0 : Nat} {v1 : Int32} {v2 : Int32} {v4 : Int32} {D : xDt} {r : Int32 × xDt} (k0 : xK S v0 12) (r0 : Rg v0) (h : f_X12_one_401 F P S self_X12_formulaAt self_X12_one v0 v1 v2 v4 D = some r) : xfr Rg D r.2 := by
  unfold f_X12_one_401 at h
  exact u_X12_one_402 hS hR hself_X12_formulaAt hself_X12_one k0 r0 h

theorem u_X12_one_342 {F P : Nat} {S : xSt} (hS : xWF S) {Rg : Nat → Prop} (hR : xRC S Rg) {self_X12_formulaAt : Nat → Int32 → Int32 → xDt → Option (Int32 × xDt)} (hself_X12_formulaAt : ∀ {v0 : Nat} {v1 : Int32} {v2 : Int32} {D : xDt} {r : Int32 × xDt}, xK S v0 12 → Rg v0 → self_X12_formulaAt v0 v1 v2 D = some r → xfr Rg D r.2) {self_X12_one : Nat → Int32 → Int32 → xDt → Option (Int32 × xDt)} (hself_X12_one : ∀ {v0 : Nat} {v1 : Int32} {v2 : Int32} {D : xDt} {r : Int32 × xDt}, xK S v0 12 → Rg v0 → self_X12_one v0 v1 v2 D = some r → xfr Rg D r.2) {v0 : Nat} {v1 : Int32} {v2 : Int32} {v3 : Int32} {s0 : Int32} {D : xDt} {r : Int32 × xDt} (k0 : xK S v0 12) (r0 : Rg v0) (h : f_X12_one_342 F P S self_X12_formulaAt self_X12_one v0 v1 v2 v3 s0 D = some r) : xfr Rg D r.2 := by
  unfold f_X12_one_342 at h
  refine xif_p h (fun c h => ?_) (fun c h => ?_)
  · skip
    refine xbnd_e h (fun q1 e1 h => ?_)
    refine xfr_tr (U_X12_counts hS hR k0 r0 e1) ?_
    refine xbnd_e h (fun q2 e2 h => ?_)
    refine xfr_tr (U_X12_must hS hR k0 r0 e2) ?_
    refine xif_p h (fun c h => ?_) (fun c h => ?_)
    · skip
      exact u_X12_one_401 hS hR hself_X12_formulaAt hself_X12_one k0 r0 h
    · skip
      refine xif_p h (fun c h => ?_) (fun c h => ?_)
      · skip
        exact u_X12_one_401 hS hR hself_X12_formulaAt hself_X12_one k0 r0 h
      · skip
        refine xif_p h (fun c h => ?_) (fun c h => ?_)
        · skip
          exact u_X12_one_390 hS hR hself_X12_formulaAt hself_X12_one k0 k0 r0 r0 h
        · skip
          refine xif_n h (fun c h => ?_) (fun c h => ?_)
          · skip
            exact u_X12_one_395 hS hR hself_X12_formulaAt hself_X12_one k0 k0 r0 r0 h
          · skip
            exact u_X12_one_390 hS hR hself_X12_formulaAt hself_X12_one k0 k0 r0 r0 h
  · skip
    refine xbnd_e h (fun q3 e3 h => ?_)
    refine xfr_tr (U_X12_bad hS hR k0 r0 e3) ?_
    obtain rfl := Option.some.inj h
    exact xfr_rf

theorem U_X12_one_o {F P : Nat} {S : xSt} (hS : xWF S) {Rg : Nat → Prop} (hR : xRC S Rg) {self_X12_formulaAt : Nat → Int32 → Int32 → xDt → Option (Int32 × xDt)} (hself_X12_formulaAt : ∀ {v0 : Nat} {v1 : Int32} {v2 : Int32} {D : xDt} {r : Int32 × xDt}, xK S v0 12 → Rg v0 → self_X12_formulaAt v0 v1 v2 D = some r → xfr Rg D r.2) {self_X12_one : Nat → Int32 → Int32 → xDt → Option (Int32 × xDt)} (hself_X12_one : ∀ {v0 : Nat} {v1 : Int32} {v2 : Int32} {D : xDt} {r : Int32 × xDt}, xK S v0 12 → Rg v0 → self_X12_one v0 v1 v2 D = some r → xfr Rg D r.2) {v0 : Nat} {v1 : Int32} {v2 : Int32} {D : xDt} {r : Int32 × xDt} (k0 : xK S v0 12) (r0 : Rg v0) (h : f_X12_one_o F P S self_X12_formulaAt self_X12_one v0 v1 v2 D = some r) : xfr Rg D r.2 := by
  unfold f_X12_one_o at h
  refine xbnd_e h (fun q1 e1 h => ?_)
  refine xfr_tr (U_X12_look hS hR k0 r0 e1) ?_
  refine xif_p h (fun c h => ?_) (fun c h => ?_)
  · skip
    refine xbnd_e h (fun q2 e2 h => ?_)
    refine xfr_tr (U_X12_in hS hR e2) ?_
    refine xif_n h (fun c h => ?_) (fun c h => ?_)
    · skip
      exact u_X12_one_39 hS hR hself_X12_formulaAt hself_X12_one k0 r0 h
    · skip
      refine xif_p h (fun c h => ?_) (fun c h => ?_)
      · skip
        exact u_X12_one_39 hS hR hself_X12_formulaAt hself_X12_one k0 r0 h
      · skip
        refine xif_n h (fun c h => ?_) (fun c h => ?_)
        · skip
          refine xif_n h (fun c h => ?_) (fun c h => ?_)
          · skip
            refine xif_p h (fun c h => ?_) (fun c h => ?_)
            · skip
              exact u_X12_one_179 hS hR hself_X12_formulaAt hself_X12_one k0 r0 h
            · skip
              refine xif_n h (fun c h => ?_) (fun c h => ?_)
              · skip
                refine xif_n h (fun c h => ?_) (fun c h => ?_)
                · skip
                  refine xif_n h (fun c h => ?_) (fun c h => ?_)
                  · skip
                    refine xif_n h (fun c h => ?_) (fun c h => ?_)
                    · skip
                      refine xif_n h (fun c h => ?_) (fun c h => ?_)
                      · skip
                        refine xif_n h (fun c h => ?_) (fun c h => ?_)
                        · skip
                          refine xif_n h (fun c h => ?_) (fun c h => ?_)
                          · skip
                            exact u_X12_one_342 hS hR hself_X12_formulaAt hself_X12_one k0 r0 h
                          · skip
                            exact u_X12_one_342 hS hR hself_X12_formulaAt hself_X12_one k0 r0 h
                        · skip
                          exact u_X12_one_342 hS hR hself_X12_formulaAt hself_X12_one k0 r0 h
                      · skip
                        exact u_X12_one_342 hS hR hself_X12_formulaAt hself_X12_one k0 r0 h
                    · skip
                      exact u_X12_one_342 hS hR hself_X12_formulaAt hself_X12_one k0 r0 h
                  · skip
                    exact u_X12_one_342 hS hR hself_X12_formulaAt hself_X12_one k0 r0 h
                · skip
                  exact u_X12_one_342 hS hR hself_X12_formulaAt hself_X12_one k0 r0 h
              · skip
                exact u_X12_one_179 hS hR hself_X12_formulaAt hself_X12_one k0 r0 h
          · skip
            refine xlet_e h (fun D3 eD3 h => ?_)
            refine xfr_i r0 eD3 ?_
            refine xbnd_e h (fun q4 e4 h => ?_)
            refine xfr_tr (hself_X12_formulaAt k0 r0 e4) ?_
            refine xbnd_e h (fun q5 e5 h => ?_)
            refine xfr_tr (U_X12_must hS hR k0 r0 e5) ?_
            obtain rfl := Option.some.inj h
            exact xfr_rf
        · skip
          exact u_X12_one_39 hS hR hself_X12_formulaAt hself_X12_one k0 r0 h
  · skip
    refine xbnd_e h (fun q6 e6 h => ?_)
    refine xfr_tr (U_X12_bad hS hR k0 r0 e6) ?_
    obtain rfl := Option.some.inj h
    exact xfr_rf

theorem U_X12_formulaAt_all {F P : Nat} {S : xSt} (hS : xWF S) {Rg : Nat → Prop} (hR : xRC S Rg) : ∀ (n : Nat), (∀ {v0 : Nat} {v1 : Int32} {v2 : Int32} {D : xDt} {r : Int32 × xDt}, xK S v0 12 → Rg v0 → f_X12_formulaAt F P S n v0 v1 v2 D = some r → xfr Rg D r.2) ∧ (∀ {v0 : Nat} {v1 : Int32} {D : xDt} {r : Int32 × xDt}, xK S v0 12 → Rg v0 → f_X12_implied F P S n v0 v1 D = some r → xfr Rg D r.2) ∧ (∀ {v0 : Nat} {v1 : Int32} {D : xDt} {r : Int32 × xDt}, xK S v0 12 → Rg v0 → f_X12_either F P S n v0 v1 D = some r → xfr Rg D r.2) ∧ (∀ {v0 : Nat} {v1 : Int32} {D : xDt} {r : Int32 × xDt}, xK S v0 12 → Rg v0 → f_X12_both F P S n v0 v1 D = some r → xfr Rg D r.2) ∧ (∀ {v0 : Nat} {v1 : Int32} {v2 : Int32} {D : xDt} {r : Int32 × xDt}, xK S v0 12 → Rg v0 → f_X12_one F P S n v0 v1 v2 D = some r → xfr Rg D r.2) := by
  intro n
  induction n with
  | zero => exact ⟨(by intros; rename_i h; cases h), (by intros; rename_i h; cases h), (by intros; rename_i h; cases h), (by intros; rename_i h; cases h), (by intros; rename_i h; cases h)⟩
  | succ n ih =>
    obtain ⟨ih_X12_formulaAt, ih_X12_implied, ih_X12_either, ih_X12_both, ih_X12_one⟩ := ih
    exact ⟨fun k0 r0 h => U_X12_formulaAt_o (F := F) (P := P) (self_X12_implied := f_X12_implied F P S n) hS hR (fun k0 r0 h => ih_X12_implied k0 r0 h) k0 r0 h, fun k0 r0 h => U_X12_implied_o (F := F) (P := P) (self_X12_implied := f_X12_implied F P S n) (self_X12_either := f_X12_either F P S n) hS hR (fun k0 r0 h => ih_X12_implied k0 r0 h) (fun k0 r0 h => ih_X12_either k0 r0 h) k0 r0 h, fun k0 r0 h => U_X12_either_o (F := F) (P := P) (self_X12_both := f_X12_both F P S n) hS hR (fun k0 r0 h => ih_X12_both k0 r0 h) k0 r0 h, fun k0 r0 h => U_X12_both_o (F := F) (P := P) (self_X12_one := f_X12_one F P S n) hS hR (fun k0 r0 h => ih_X12_one k0 r0 h) k0 r0 h, fun k0 r0 h => U_X12_one_o (F := F) (P := P) (self_X12_formulaAt := f_X12_formulaAt F P S n) (self_X12_one := f_X12_one F P S n) hS hR (fun k0 r0 h => ih_X12_formulaAt k0 r0 h) (fun k0 r0 h => ih_X12_one k0 r0 h) k0 r0 h⟩
theorem U_X12_formulaAt {F P : Nat} {S : xSt} (hS : xWF S) {Rg : Nat → Prop} (hR : xRC S Rg) (n : Nat) {v0 : Nat} {v1 : Int32} {v2 : Int32} {D : xDt} {r : Int32 × xDt} (k0 : xK S v0 12) (r0 : Rg v0) (h : f_X12_formulaAt F P S n v0 v1 v2 D = some r) : xfr Rg D r.2 := (U_X12_formulaAt_all hS hR n).1 k0 r0 h
theorem U_X12_implied {F P : Nat} {S : xSt} (hS : xWF S) {Rg : Nat → Prop} (hR : xRC S Rg) (n : Nat) {v0 : Nat} {v1 : Int32} {D : xDt} {r : Int32 × xDt} (k0 : xK S v0 12) (r0 : Rg v0) (h : f_X12_implied F P S n v0 v1 D = some r) : xfr Rg D r.2 := (U_X12_formulaAt_all hS hR n).2.1 k0 r0 h
theorem U_X12_either {F P : Nat} {S : xSt} (hS : xWF S) {Rg : Nat → Prop} (hR : xRC S Rg) (n : Nat) {v0 : Nat} {v1 : Int32} {D : xDt} {r : Int32 × xDt} (k0 : xK S v0 12) (r0 : Rg v0) (h : f_X12_either F P S n v0 v1 D = some r) : xfr Rg D r.2 := (U_X12_formulaAt_all hS hR n).2.2.1 k0 r0 h
theorem U_X12_both {F P : Nat} {S : xSt} (hS : xWF S) {Rg : Nat → Prop} (hR : xRC S Rg) (n : Nat) {v0 : Nat} {v1 : Int32} {D : xDt} {r : Int32 × xDt} (k0 : xK S v0 12) (r0 : Rg v0) (h : f_X12_both F P S n v0 v1 D = some r) : xfr Rg D r.2 := (U_X12_formulaAt_all hS hR n).2.2.2.1 k0 r0 h
theorem U_X12_one {F P : Nat} {S : xSt} (hS : xWF S) {Rg : Nat → Prop} (hR : xRC S Rg) (n : Nat) {v0 : Nat} {v1 : Int32} {v2 : Int32} {D : xDt} {r : Int32 × xDt} (k0 : xK S v0 12) (r0 : Rg v0) (h : f_X12_one F P S n v0 v1 v2 D = some r) : xfr Rg D r.2 := (U_X12_formulaAt_all hS hR n).2.2.2.2 k0 r0 h

theorem u_X12_moved_101 {F P : Nat} {S : xSt} (hS : xWF S) {Rg : Nat → Prop} (hR : xRC S Rg) {rec_10 : Nat → Int32 → Int32 → Int32 → Int32 → xDt → Option (Int32 × xDt)} (hrec_10 : ∀ {v0 : Nat} {v2 : Int32} {v3 : Int32} {v4 : Int32} {v5 : Int32} {D : xDt} {r : Int32 × xDt}, xK S v0 12 → Rg v0 → rec_10 v0 v2 v3 v4 v5 D = some r → xfr Rg D r.2) {v0 : Nat} {v2 : Int32} {v3 : Int32} {v4 : Int32} {v5 : Int32} {s0 : Int32} {s1 : Int32} {s2 : Nat} {D : xDt} {r : Int32 × xDt} (k0 : xK S v0 12) (ks2 : xK S s2 100) (r0 : Rg v0) (rs2 : Rg s2) (h : f_X12_moved_101 F P S rec_10 v0 v2 v3 v4 v5 s0 s1 s2 D = some r) : xfr Rg D r.2 := by
  unfold f_X12_moved_101 at h
  refine xgrd_e h (fun g1 h => ?_)
  refine xlet_e h (fun D2 eD2 h => ?_)
  refine xfr_i rs2 eD2 ?_
  refine xgrd_e h (fun g3 h => ?_)
  refine xgrd_e h (fun g4 h => ?_)
  refine xlet_e h (fun D5 eD5 h => ?_)
  refine xfr_i (hR.1 k0 r0 11 100 rfl) eD5 ?_
  refine xgrd_e h (fun g6 h => ?_)
  refine xgrd_e h (fun g7 h => ?_)
  refine xlet_e h (fun D8 eD8 h => ?_)
  refine xfr_i (hR.1 k0 r0 12 100 rfl) eD8 ?_
  refine xlet_e h (fun v5_9 ev5_9 h => ?_)
  exact hrec_10 k0 r0 h

theorem u_X12_moved_66 {F P : Nat} {S : xSt} (hS : xWF S) {Rg : Nat → Prop} (hR : xRC S Rg) {rec_10 : Nat → Int32 → Int32 → Int32 → Int32 → xDt → Option (Int32 × xDt)} (hrec_10 : ∀ {v0 : Nat} {v2 : Int32} {v3 : Int32} {v4 : Int32} {v5 : Int32} {D : xDt} {r : Int32 × xDt}, xK S v0 12 → Rg v0 → rec_10 v0 v2 v3 v4 v5 D = some r → xfr Rg D r.2) {v0 : Nat} {v2 : Int32} {v3 : Int32} {v4 : Int32} {v5 : Int32} {s0 : Int32} {s1 : Int32} {s2 : Nat} {D : xDt} {r : Int32 × xDt} (k0 : xK S v0 12) (ks2 : xK S s2 100) (r0 : Rg v0) (rs2 : Rg s2) (h : f_X12_moved_66 F P S rec_10 v0 v2 v3 v4 v5 s0 s1 s2 D = some r) : xfr Rg D r.2 := by
  unfold f_X12_moved_66 at h
  refine xgrd_e h (fun g1 h => ?_)
  refine xlet_e h (fun D2 eD2 h => ?_)
  refine xfr_i rs2 eD2 ?_
  refine xgrd_e h (fun g3 h => ?_)
  refine xif_p h (fun c h => ?_) (fun c h => ?_)
  · skip
    refine xgrd_e h (fun g4 h => ?_)
    exact u_X12_moved_101 hS hR hrec_10 k0 ((hS.f k0 10 100 rfl).2) r0 (hR.1 k0 r0 10 100 rfl) h
  · skip
    exact u_X12_moved_101 hS hR hrec_10 k0 ((hS.f k0 10 100 rfl).2) r0 (hR.1 k0 r0 10 100 rfl) h

theorem u_X12_moved_10s {F P : Nat} {S : xSt} (hS : xWF S) {Rg : Nat → Prop} (hR : xRC S Rg) {rec_10 : Nat → Int32 → Int32 → Int32 → Int32 → xDt → Option (Int32 × xDt)} (hrec_10 : ∀ {v0 : Nat} {v2 : Int32} {v3 : Int32} {v4 : Int32} {v5 : Int32} {D : xDt} {r : Int32 × xDt}, xK S v0 12 → Rg v0 → rec_10 v0 v2 v3 v4 v5 D = some r → xfr Rg D r.2) {v0 : Nat} {v2 : Int32} {v3 : Int32} {v4 : Int32} {v5 : Int32} {D : xDt} {r : Int32 × xDt} (k0 : xK S v0 12) (r0 : Rg v0) (h : f_X12_moved_10s F P S rec_10 v0 v2 v3 v4 v5 D = some r) : xfr Rg D r.2 := by
  unfold f_X12_moved_10s at h
  refine xif_p h (fun c h => ?_) (fun c h => ?_)
  · skip
    obtain rfl := Option.some.inj h
    exact xfr_rf
  · skip
    refine xgrd_e h (fun g1 h => ?_)
    refine xgrd_e h (fun g2 h => ?_)
    refine xlet_e h (fun D3 eD3 h => ?_)
    refine xfr_i (hR.1 k0 r0 8 100 rfl) eD3 ?_
    refine xgrd_e h (fun g4 h => ?_)
    refine xif_p h (fun c h => ?_) (fun c h => ?_)
    · skip
      refine xgrd_e h (fun g5 h => ?_)
      exact u_X12_moved_66 hS hR hrec_10 k0 ((hS.f k0 9 100 rfl).2) r0 (hR.1 k0 r0 9 100 rfl) h
    · skip
      exact u_X12_moved_66 hS hR hrec_10 k0 ((hS.f k0 9 100 rfl).2) r0 (hR.1 k0 r0 9 100 rfl) h
theorem u_X12_moved_10 {F P : Nat} {S : xSt} (hS : xWF S) {Rg : Nat → Prop} (hR : xRC S Rg) : ∀ (n : Nat) {v0 : Nat} {v2 : Int32} {v3 : Int32} {v4 : Int32} {v5 : Int32} {D : xDt} {r : Int32 × xDt}, xK S v0 12 → Rg v0 → f_X12_moved_10 F P S n v0 v2 v3 v4 v5 D = some r → xfr Rg D r.2 := by
  intro n
  induction n with
  | zero => intros; rename_i h; cases h
  | succ n ih =>
    intro v0 v2 v3 v4 v5 D r k0 r0 h
    exact u_X12_moved_10s hS hR (fun k0 r0 h => ih k0 r0 h) k0 r0 h

theorem U_X12_moved {F P : Nat} {S : xSt} (hS : xWF S) {Rg : Nat → Prop} (hR : xRC S Rg) {v0 : Nat} {v1 : Int32} {v2 : Int32} {v3 : Int32} {D : xDt} {r : Int32 × xDt} (k0 : xK S v0 12) (r0 : Rg v0) (h : f_X12_moved F P S v0 v1 v2 v3 D = some r) : xfr Rg D r.2 := by
  unfold f_X12_moved at h
  refine xbnd_e h (fun q1 e1 h => ?_)
  refine xfr_tr (U_X12_copied hS hR P k0 r0 e1) ?_
  exact u_X12_moved_10 hS hR F k0 r0 h

theorem u_X12_formula_52 {F P : Nat} {S : xSt} (hS : xWF S) {Rg : Nat → Prop} (hR : xRC S Rg) {v0 : Nat} {v1 : Int32} {D : xDt} {r : Int32 × xDt} (k0 : xK S v0 12) (r0 : Rg v0) (h : f_X12_formula_52 F P S v0 v1 D = some r) : xfr Rg D r.2 := by
  unfold f_X12_formula_52 at h
  refine xlet_e h (fun D1 eD1 h => ?_)
  refine xfr_i r0 eD1 ?_
  refine xif_p h (fun c h => ?_) (fun c h => ?_)
  · skip
    refine xlet_e h (fun v2_2 ev2_2 h => ?_)
    refine xgrd_e h (fun g3 h => ?_)
    refine xlet_e h (fun v3_4 ev3_4 h => ?_)
    refine xbnd_e h (fun q5 e5 h => ?_)
    refine xfr_tr (U_X12_moved hS hR k0 r0 e5) ?_
    refine xlet_e h (fun D6 eD6 h => ?_)
    refine xfr_i r0 eD6 ?_
    obtain rfl := Option.some.inj h
    exact xfr_rf
  · skip
    obtain rfl := Option.some.inj h
    exact xfr_rf

theorem U_X12_formula {F P : Nat} {S : xSt} (hS : xWF S) {Rg : Nat → Prop} (hR : xRC S Rg) {v0 : Nat} {D : xDt} {r : Int32 × xDt} (k0 : xK S v0 12) (r0 : Rg v0) (h : f_X12_formula F P S v0 D = some r) : xfr Rg D r.2 := by
  unfold f_X12_formula at h
  refine xlet_e h (fun D1 eD1 h => ?_)
  refine xfr_i r0 eD1 ?_
  refine xlet_e h (fun D2 eD2 h => ?_)
  refine xfr_i r0 eD2 ?_
  refine xlet_e h (fun D3 eD3 h => ?_)
  refine xfr_i r0 eD3 ?_
  refine xlet_e h (fun D4 eD4 h => ?_)
  refine xfr_i r0 eD4 ?_
  refine xbnd_e h (fun q5 e5 h => ?_)
  refine xfr_tr (U_X12_formulaAt hS hR P k0 r0 e5) ?_
  refine xif_p h (fun c h => ?_) (fun c h => ?_)
  · skip
    exact u_X12_formula_52 hS hR k0 r0 h
  · skip
    refine xbnd_e h (fun q6 e6 h => ?_)
    refine xfr_tr (U_X12_look hS hR k0 r0 e6) ?_
    refine xif_p h (fun c h => ?_) (fun c h => ?_)
    · skip
      exact u_X12_formula_52 hS hR k0 r0 h
    · skip
      refine xbnd_e h (fun q7 e7 h => ?_)
      refine xfr_tr (U_X12_bad hS hR k0 r0 e7) ?_
      exact u_X12_formula_52 hS hR k0 r0 h

theorem u_X12_ofAtom_38 {F P : Nat} {S : xSt} (hS : xWF S) {Rg : Nat → Prop} (hR : xRC S Rg) {rec_5 : Nat → Int32 → Int64 → Int32 → xDt → Option (Int64 × xDt)} (hrec_5 : ∀ {v0 : Nat} {v1 : Int32} {v2 : Int64} {v4 : Int32} {D : xDt} {r : Int64 × xDt}, xK S v0 12 → rec_5 v0 v1 v2 v4 D = some r → xfr Rg D r.2) {v0 : Nat} {v1 : Int32} {v4 : Int32} {s0 : Int64} {s1 : Int64} {D : xDt} {r : Int64 × xDt} (k0 : xK S v0 12) (h : f_X12_ofAtom_38 F P S rec_5 v0 v1 v4 s0 s1 D = some r) : xfr Rg D r.2 := by
  unfold f_X12_ofAtom_38 at h
  refine xlet_e h (fun v2_1 ev2_1 h => ?_)
  refine xlet_e h (fun v4_2 ev4_2 h => ?_)
  exact hrec_5 k0 h

theorem u_X12_ofAtom_5s {F P : Nat} {S : xSt} (hS : xWF S) {Rg : Nat → Prop} (hR : xRC S Rg) {rec_5 : Nat → Int32 → Int64 → Int32 → xDt → Option (Int64 × xDt)} (hrec_5 : ∀ {v0 : Nat} {v1 : Int32} {v2 : Int64} {v4 : Int32} {D : xDt} {r : Int64 × xDt}, xK S v0 12 → rec_5 v0 v1 v2 v4 D = some r → xfr Rg D r.2) {v0 : Nat} {v1 : Int32} {v2 : Int64} {v4 : Int32} {D : xDt} {r : Int64 × xDt} (k0 : xK S v0 12) (h : f_X12_ofAtom_5s F P S rec_5 v0 v1 v2 v4 D = some r) : xfr Rg D r.2 := by
  unfold f_X12_ofAtom_5s at h
  refine xif_p h (fun c h => ?_) (fun c h => ?_)
  · skip
    obtain rfl := Option.some.inj h
    exact xfr_rf
  · skip
    refine xgrd_e h (fun g1 h => ?_)
    refine xif_n h (fun c h => ?_) (fun c h => ?_)
    · skip
      exact u_X12_ofAtom_38 hS hR hrec_5 k0 h
    · skip
      exact u_X12_ofAtom_38 hS hR hrec_5 k0 h
theorem u_X12_ofAtom_5 {F P : Nat} {S : xSt} (hS : xWF S) {Rg : Nat → Prop} (hR : xRC S Rg) : ∀ (n : Nat) {v0 : Nat} {v1 : Int32} {v2 : Int64} {v4 : Int32} {D : xDt} {r : Int64 × xDt}, xK S v0 12 → f_X12_ofAtom_5 F P S n v0 v1 v2 v4 D = some r → xfr Rg D r.2 := by
  intro n
  induction n with
  | zero => intros; rename_i h; cases h
  | succ n ih =>
    intro v0 v1 v2 v4 D r k0 h
    exact u_X12_ofAtom_5s hS hR (fun k0 h => ih k0 h) k0 h

theorem U_X12_ofAtom {F P : Nat} {S : xSt} (hS : xWF S) {Rg : Nat → Prop} (hR : xRC S Rg) {v0 : Nat} {v1 : Int32} {D : xDt} {r : Int64 × xDt} (k0 : xK S v0 12) (h : f_X12_ofAtom F P S v0 v1 D = some r) : xfr Rg D r.2 := by
  unfold f_X12_ofAtom at h
  exact u_X12_ofAtom_5 hS hR F k0 h

theorem u_X12_reached_80 {F P : Nat} {S : xSt} (hS : xWF S) {Rg : Nat → Prop} (hR : xRC S Rg) {rec_6 : Nat → Int32 → Int64 → Int64 → Int64 → xDt → Option (Int64 × xDt)} (hrec_6 : ∀ {v0 : Nat} {v1 : Int32} {v4 : Int64} {v6 : Int64} {v8 : Int64} {D : xDt} {r : Int64 × xDt}, xK S v0 12 → rec_6 v0 v1 v4 v6 v8 D = some r → xfr Rg D r.2) {rec_21 : Nat → Int32 → Int64 → Int64 → Int64 → Int32 → xDt → Option (Int64 × xDt)} (hrec_21 : ∀ {v0 : Nat} {v1 : Int32} {v4 : Int64} {v6 : Int64} {v8 : Int64} {v10 : Int32} {D : xDt} {r : Int64 × xDt}, xK S v0 12 → rec_21 v0 v1 v4 v6 v8 v10 D = some r → xfr Rg D r.2) {rec_30 : Nat → Int32 → Int64 → Int64 → Int64 → Int32 → Int32 → xDt → Option (Int64 × xDt)} (hrec_30 : ∀ {v0 : Nat} {v1 : Int32} {v4 : Int64} {v6 : Int64} {v8 : Int64} {v10 : Int32} {v11 : Int32} {D : xDt} {r : Int64 × xDt}, xK S v0 12 → rec_30 v0 v1 v4 v6 v8 v10 v11 D = some r → xfr Rg D r.2) {v0 : Nat} {v1 : Int32} {v4 : Int64} {v8 : Int64} {v10 : Int32} {v11 : Int32} {s0 : Int64} {s1 : Int64} {D : xDt} {r : Int64 × xDt} (k0 : xK S v0 12) (h : f_X12_reached_80 F P S rec_6 rec_21 rec_30 v0 v1 v4 v8 v10 v11 s0 s1 D = some r) : xfr Rg D r.2 := by
  unfold f_X12_reached_80 at h
  refine xlet_e h (fun v6_1 ev6_1 h => ?_)
  refine xlet_e h (fun v11_2 ev11_2 h => ?_)
  exact hrec_30 k0 h

theorem u_X12_reached_89 {F P : Nat} {S : xSt} (hS : xWF S) {Rg : Nat → Prop} (hR : xRC S Rg) {rec_6 : Nat → Int32 → Int64 → Int64 → Int64 → xDt → Option (Int64 × xDt)} (hrec_6 : ∀ {v0 : Nat} {v1 : Int32} {v4 : Int64} {v6 : Int64} {v8 : Int64} {D : xDt} {r : Int64 × xDt}, xK S v0 12 → rec_6 v0 v1 v4 v6 v8 D = some r → xfr Rg D r.2) {rec_21 : Nat → Int32 → Int64 → Int64 → Int64 → Int32 → xDt → Option (Int64 × xDt)} (hrec_21 : ∀ {v0 : Nat} {v1 : Int32} {v4 : Int64} {v6 : Int64} {v8 : Int64} {v10 : Int32} {D : xDt} {r : Int64 × xDt}, xK S v0 12 → rec_21 v0 v1 v4 v6 v8 v10 D = some r → xfr Rg D r.2) {v0 : Nat} {v1 : Int32} {v4 : Int64} {v6 : Int64} {v8 : Int64} {v10 : Int32} {D : xDt} {r : Int64 × xDt} (k0 : xK S v0 12) (h : f_X12_reached_89 F P S rec_6 rec_21 v0 v1 v4 v6 v8 v10 D = some r) : xfr Rg D r.2 := by
  unfold f_X12_reached_89 at h
  refine xlet_e h (fun v10_1 ev10_1 h => ?_)
  exact hrec_21 k0 h

theorem u_X12_reached_30s {F P : Nat} {S : xSt} (hS : xWF S) {Rg : Nat → Prop} (hR : xRC S Rg) {rec_6 : Nat → Int32 → Int64 → Int64 → Int64 → xDt → Option (Int64 × xDt)} (hrec_6 : ∀ {v0 : Nat} {v1 : Int32} {v4 : Int64} {v6 : Int64} {v8 : Int64} {D : xDt} {r : Int64 × xDt}, xK S v0 12 → rec_6 v0 v1 v4 v6 v8 D = some r → xfr Rg D r.2) {rec_21 : Nat → Int32 → Int64 → Int64 → Int64 → Int32 → xDt → Option (Int64 × xDt)} (hrec_21 : ∀ {v0 : Nat} {v1 : Int32} {v4 : Int64} {v6 : Int64} {v8 : Int64} {v10 : Int32} {D : xDt} {r : Int64 × xDt}, xK S v0 12 → rec_21 v0 v1 v4 v6 v8 v10 D = some r → xfr Rg D r.2) {rec_30 : Nat → Int32 → Int64 → Int64 → Int64 → Int32 → Int32 → xDt → Option (Int64 × xDt)} (hrec_30 : ∀ {v0 : Nat} {v1 : Int32} {v4 : Int64} {v6 : Int64} {v8 : Int64} {v10 : Int32} {v11 : Int32} {D : xDt} {r : Int64 × xDt}, xK S v0 12 → rec_30 v0 v1 v4 v6 v8 v10 v11 D = some r → xfr Rg D r.2) {v0 : Nat} {v1 : Int32} {v4 : Int64} {v6 : Int64} {v8 : Int64} {v10 : Int32} {v11 : Int32} {D : xDt} {r : Int64 × xDt} (k0 : xK S v0 12) (h : f_X12_reached_30s F P S rec_6 rec_21 rec_30 v0 v1 v4 v6 v8 v10 v11 D = some r) : xfr Rg D r.2 := by
  unfold f_X12_reached_30s at h
  refine xif_p h (fun c h => ?_) (fun c h => ?_)
  · skip
    exact u_X12_reached_89 hS hR hrec_6 hrec_21 k0 h
  · skip
    refine xif_n h (fun c h => ?_) (fun c h => ?_)
    · skip
      exact u_X12_reached_89 hS hR hrec_6 hrec_21 k0 h
    · skip
      refine xif_n h (fun c h => ?_) (fun c h => ?_)
      · skip
        exact u_X12_reached_80 hS hR hrec_6 hrec_21 hrec_30 k0 h
      · skip
        refine xbnd_e h (fun q1 e1 h => ?_)
        refine xfr_tr (U_X12_cellOf hS hR k0 e1) ?_
        exact u_X12_reached_80 hS hR hrec_6 hrec_21 hrec_30 k0 h
theorem u_X12_reached_30 {F P : Nat} {S : xSt} (hS : xWF S) {Rg : Nat → Prop} (hR : xRC S Rg) {rec_6 : Nat → Int32 → Int64 → Int64 → Int64 → xDt → Option (Int64 × xDt)} (hrec_6 : ∀ {v0 : Nat} {v1 : Int32} {v4 : Int64} {v6 : Int64} {v8 : Int64} {D : xDt} {r : Int64 × xDt}, xK S v0 12 → rec_6 v0 v1 v4 v6 v8 D = some r → xfr Rg D r.2) {rec_21 : Nat → Int32 → Int64 → Int64 → Int64 → Int32 → xDt → Option (Int64 × xDt)} (hrec_21 : ∀ {v0 : Nat} {v1 : Int32} {v4 : Int64} {v6 : Int64} {v8 : Int64} {v10 : Int32} {D : xDt} {r : Int64 × xDt}, xK S v0 12 → rec_21 v0 v1 v4 v6 v8 v10 D = some r → xfr Rg D r.2) : ∀ (n : Nat) {v0 : Nat} {v1 : Int32} {v4 : Int64} {v6 : Int64} {v8 : Int64} {v10 : Int32} {v11 : Int32} {D : xDt} {r : Int64 × xDt}, xK S v0 12 → f_X12_reached_30 F P S rec_6 rec_21 n v0 v1 v4 v6 v8 v10 v11 D = some r → xfr Rg D r.2 := by
  intro n
  induction n with
  | zero => intros; rename_i h; cases h
  | succ n ih =>
    intro v0 v1 v4 v6 v8 v10 v11 D r k0 h
    exact u_X12_reached_30s hS hR hrec_6 hrec_21 (fun k0 h => ih k0 h) k0 h

theorem u_X12_reached_21s {F P : Nat} {S : xSt} (hS : xWF S) {Rg : Nat → Prop} (hR : xRC S Rg) {rec_6 : Nat → Int32 → Int64 → Int64 → Int64 → xDt → Option (Int64 × xDt)} (hrec_6 : ∀ {v0 : Nat} {v1 : Int32} {v4 : Int64} {v6 : Int64} {v8 : Int64} {D : xDt} {r : Int64 × xDt}, xK S v0 12 → rec_6 v0 v1 v4 v6 v8 D = some r → xfr Rg D r.2) {rec_21 : Nat → Int32 → Int64 → Int64 → Int64 → Int32 → xDt → Option (Int64 × xDt)} (hrec_21 : ∀ {v0 : Nat} {v1 : Int32} {v4 : Int64} {v6 : Int64} {v8 : Int64} {v10 : Int32} {D : xDt} {r : Int64 × xDt}, xK S v0 12 → rec_21 v0 v1 v4 v6 v8 v10 D = some r → xfr Rg D r.2) {v0 : Nat} {v1 : Int32} {v4 : Int64} {v6 : Int64} {v8 : Int64} {v10 : Int32} {D : xDt} {r : Int64 × xDt} (k0 : xK S v0 12) (h : f_X12_reached_21s F P S rec_6 rec_21 v0 v1 v4 v6 v8 v10 D = some r) : xfr Rg D r.2 := by
  unfold f_X12_reached_21s at h
  refine xif_p h (fun c h => ?_) (fun c h => ?_)
  · skip
    exact hrec_6 k0 h
  · skip
    exact u_X12_reached_30 hS hR hrec_6 hrec_21 F k0 h
theorem u_X12_reached_21 {F P : Nat} {S : xSt} (hS : xWF S) {Rg : Nat → Prop} (hR : xRC S Rg) {rec_6 : Nat → Int32 → Int64 → Int64 → Int64 → xDt → Option (Int64 × xDt)} (hrec_6 : ∀ {v0 : Nat} {v1 : Int32} {v4 : Int64} {v6 : Int64} {v8 : Int64} {D : xDt} {r : Int64 × xDt}, xK S v0 12 → rec_6 v0 v1 v4 v6 v8 D = some r → xfr Rg D r.2) : ∀ (n : Nat) {v0 : Nat} {v1 : Int32} {v4 : Int64} {v6 : Int64} {v8 : Int64} {v10 : Int32} {D : xDt} {r : Int64 × xDt}, xK S v0 12 → f_X12_reached_21 F P S rec_6 n v0 v1 v4 v6 v8 v10 D = some r → xfr Rg D r.2 := by
  intro n
  induction n with
  | zero => intros; rename_i h; cases h
  | succ n ih =>
    intro v0 v1 v4 v6 v8 v10 D r k0 h
    exact u_X12_reached_21s hS hR hrec_6 (fun k0 h => ih k0 h) k0 h

theorem u_X12_reached_6s {F P : Nat} {S : xSt} (hS : xWF S) {Rg : Nat → Prop} (hR : xRC S Rg) {rec_6 : Nat → Int32 → Int64 → Int64 → Int64 → xDt → Option (Int64 × xDt)} (hrec_6 : ∀ {v0 : Nat} {v1 : Int32} {v4 : Int64} {v6 : Int64} {v8 : Int64} {D : xDt} {r : Int64 × xDt}, xK S v0 12 → rec_6 v0 v1 v4 v6 v8 D = some r → xfr Rg D r.2) {v0 : Nat} {v1 : Int32} {v4 : Int64} {v6 : Int64} {v8 : Int64} {D : xDt} {r : Int64 × xDt} (k0 : xK S v0 12) (h : f_X12_reached_6s F P S rec_6 v0 v1 v4 v6 v8 D = some r) : xfr Rg D r.2 := by
  unfold f_X12_reached_6s at h
  refine xif_p h (fun c h => ?_) (fun c h => ?_)
  · skip
    obtain rfl := Option.some.inj h
    exact xfr_rf
  · skip
    exact u_X12_reached_21 hS hR hrec_6 F k0 h
theorem u_X12_reached_6 {F P : Nat} {S : xSt} (hS : xWF S) {Rg : Nat → Prop} (hR : xRC S Rg) : ∀ (n : Nat) {v0 : Nat} {v1 : Int32} {v4 : Int64} {v6 : Int64} {v8 : Int64} {D : xDt} {r : Int64 × xDt}, xK S v0 12 → f_X12_reached_6 F P S n v0 v1 v4 v6 v8 D = some r → xfr Rg D r.2 := by
  intro n
  induction n with
  | zero => intros; rename_i h; cases h
  | succ n ih =>
    intro v0 v1 v4 v6 v8 D r k0 h
    exact u_X12_reached_6s hS hR (fun k0 h => ih k0 h) k0 h

theorem U_X12_reached {F P : Nat} {S : xSt} (hS : xWF S) {Rg : Nat → Prop} (hR : xRC S Rg) {v0 : Nat} {v1 : Int32} {v2 : Int64} {v4 : Int64} {D : xDt} {r : Int64 × xDt} (k0 : xK S v0 12) (h : f_X12_reached F P S v0 v1 v2 v4 D = some r) : xfr Rg D r.2 := by
  unfold f_X12_reached at h
  exact u_X12_reached_6 hS hR F k0 h

theorem u_X12_known_120 {F P : Nat} {S : xSt} (hS : xWF S) {Rg : Nat → Prop} (hR : xRC S Rg) {rec_6 : Nat → Int32 → Int32 → Int64 → Int64 → Int64 → Int32 → xDt → Option (Int64 × xDt)} (hrec_6 : ∀ {v0 : Nat} {v1 : Int32} {v2 : Int32} {v3 : Int64} {v5 : Int64} {v7 : Int64} {v9 : Int32} {D : xDt} {r : Int64 × xDt}, xK S v0 12 → rec_6 v0 v1 v2 v3 v5 v7 v9 D = some r → xfr Rg D r.2) {rec_65 : Nat → Int32 → Int32 → Int64 → Int64 → Int64 → Int32 → Int64 → Int32 → xDt → Option (Int64 × xDt)} (hrec_65 : ∀ {v0 : Nat} {v1 : Int32} {v2 : Int32} {v3 : Int64} {v5 : Int64} {v7 : Int64} {v9 : Int32} {v10 : Int64} {v12 : Int32} {D : xDt} {r : Int64 × xDt}, xK S v0 12 → rec_65 v0 v1 v2 v3 v5 v7 v9 v10 v12 D = some r → xfr Rg D r.2) {v0 : Nat} {v1 : Int32} {v2 : Int32} {v3 : Int64} {v5 : Int64} {v7 : Int64} {v9 : Int32} {v10 : Int64} {v12 : Int32} {D : xDt} {r : Int64 × xDt} (k0 : xK S v0 12) (h : f_X12_known_120 F P S rec_6 rec_65 v0 v1 v2 v3 v5 v7 v9 v10 v12 D = some r) : xfr Rg D r.2 := by
  unfold f_X12_known_120 at h
  refine xlet_e h (fun v12_1 ev12_1 h => ?_)
  exact hrec_65 k0 h

theorem u_X12_known_118 {F P : Nat} {S : xSt} (hS : xWF S) {Rg : Nat → Prop} (hR : xRC S Rg) {rec_6 : Nat → Int32 → Int32 → Int64 → Int64 → Int64 → Int32 → xDt → Option (Int64 × xDt)} (hrec_6 : ∀ {v0 : Nat} {v1 : Int32} {v2 : Int32} {v3 : Int64} {v5 : Int64} {v7 : Int64} {v9 : Int32} {D : xDt} {r : Int64 × xDt}, xK S v0 12 → rec_6 v0 v1 v2 v3 v5 v7 v9 D = some r → xfr Rg D r.2) {rec_65 : Nat → Int32 → Int32 → Int64 → Int64 → Int64 → Int32 → Int64 → Int32 → xDt → Option (Int64 × xDt)} (hrec_65 : ∀ {v0 : Nat} {v1 : Int32} {v2 : Int32} {v3 : Int64} {v5 : Int64} {v7 : Int64} {v9 : Int32} {v10 : Int64} {v12 : Int32} {D : xDt} {r : Int64 × xDt}, xK S v0 12 → rec_65 v0 v1 v2 v3 v5 v7 v9 v10 v12 D = some r → xfr Rg D r.2) {v0 : Nat} {v1 : Int32} {v2 : Int32} {v3 : Int64} {v5 : Int64} {v7 : Int64} {v9 : Int32} {v12 : Int32} {s0 : Int64} {D : xDt} {r : Int64 × xDt} (k0 : xK S v0 12) (h : f_X12_known_118 F P S rec_6 rec_65 v0 v1 v2 v3 v5 v7 v9 v12 s0 D = some r) : xfr Rg D r.2 := by
  unfold f_X12_known_118 at h
  exact u_X12_known_120 hS hR hrec_6 hrec_65 k0 h

theorem u_X12_known_155 {F P : Nat} {S : xSt} (hS : xWF S) {Rg : Nat → Prop} (hR : xRC S Rg) {rec_6 : Nat → Int32 → Int32 → Int64 → Int64 → Int64 → Int32 → xDt → Option (Int64 × xDt)} (hrec_6 : ∀ {v0 : Nat} {v1 : Int32} {v2 : Int32} {v3 : Int64} {v5 : Int64} {v7 : Int64} {v9 : Int32} {D : xDt} {r : Int64 × xDt}, xK S v0 12 → rec_6 v0 v1 v2 v3 v5 v7 v9 D = some r → xfr Rg D r.2) {v0 : Nat} {v1 : Int32} {v2 : Int32} {v3 : Int64} {v5 : Int64} {v7 : Int64} {v9 : Int32} {D : xDt} {r : Int64 × xDt} (k0 : xK S v0 12) (h : f_X12_known_155 F P S rec_6 v0 v1 v2 v3 v5 v7 v9 D = some r) : xfr Rg D r.2 := by
  unfold f_X12_known_155 at h
  refine xlet_e h (fun v9_1 ev9_1 h => ?_)
  exact hrec_6 k0 h

theorem u_X12_known_152 {F P : Nat} {S : xSt} (hS : xWF S) {Rg : Nat → Prop} (hR : xRC S Rg) {rec_6 : Nat → Int32 → Int32 → Int64 → Int64 → Int64 → Int32 → xDt → Option (Int64 × xDt)} (hrec_6 : ∀ {v0 : Nat} {v1 : Int32} {v2 : Int32} {v3 : Int64} {v5 : Int64} {v7 : Int64} {v9 : Int32} {D : xDt} {r : Int64 × xDt}, xK S v0 12 → rec_6 v0 v1 v2 v3 v5 v7 v9 D = some r → xfr Rg D r.2) {v0 : Nat} {v1 : Int32} {v2 : Int32} {v3 : Int64} {v5 : Int64} {v9 : Int32} {s0 : Int64} {s1 : Int64} {D : xDt} {r : Int64 × xDt} (k0 : xK S v0 12) (h : f_X12_known_152 F P S rec_6 v0 v1 v2 v3 v5 v9 s0 s1 D = some r) : xfr Rg D r.2 := by
  unfold f_X12_known_152 at h
  refine xlet_e h (fun v7_1 ev7_1 h => ?_)
  exact u_X12_known_155 hS hR hrec_6 k0 h

theorem u_X12_known_65s {F P : Nat} {S : xSt} (hS : xWF S) {Rg : Nat → Prop} (hR : xRC S Rg) {rec_6 : Nat → Int32 → Int32 → Int64 → Int64 → Int64 → Int32 → xDt → Option (Int64 × xDt)} (hrec_6 : ∀ {v0 : Nat} {v1 : Int32} {v2 : Int32} {v3 : Int64} {v5 : Int64} {v7 : Int64} {v9 : Int32} {D : xDt} {r : Int64 × xDt}, xK S v0 12 → rec_6 v0 v1 v2 v3 v5 v7 v9 D = some r → xfr Rg D r.2) {rec_65 : Nat → Int32 → Int32 → Int64 → Int64 → Int64 → Int32 → Int64 → Int32 → xDt → Option (Int64 × xDt)} (hrec_65 : ∀ {v0 : Nat} {v1 : Int32} {v2 : Int32} {v3 : Int64} {v5 : Int64} {v7 : Int64} {v9 : Int32} {v10 : Int64} {v12 : Int32} {D : xDt} {r : Int64 × xDt}, xK S v0 12 → rec_65 v0 v1 v2 v3 v5 v7 v9 v10 v12 D = some r → xfr Rg D r.2) {v0 : Nat} {v1 : Int32} {v2 : Int32} {v3 : Int64} {v5 : Int64} {v7 : Int64} {v9 : Int32} {v10 : Int64} {v12 : Int32} {D : xDt} {r : Int64 × xDt} (k0 : xK S v0 12) (h : f_X12_known_65s F P S rec_6 rec_65 v0 v1 v2 v3 v5 v7 v9 v10 v12 D = some r) : xfr Rg D r.2 := by
  unfold f_X12_known_65s at h
  refine xif_p h (fun c h => ?_) (fun c h => ?_)
  · skip
    refine xif_n h (fun c h => ?_) (fun c h => ?_)
    · skip
      exact u_X12_known_152 hS hR hrec_6 k0 h
    · skip
      exact u_X12_known_152 hS hR hrec_6 k0 h
  · skip
    refine xif_n h (fun c h => ?_) (fun c h => ?_)
    · skip
      exact u_X12_known_120 hS hR hrec_6 hrec_65 k0 h
    · skip
      refine xif_p h (fun c h => ?_) (fun c h => ?_)
      · skip
        exact u_X12_known_120 hS hR hrec_6 hrec_65 k0 h
      · skip
        refine xbnd_e h (fun q1 e1 h => ?_)
        refine xfr_tr (U_X12_cellOf hS hR k0 e1) ?_
        refine xif_n h (fun c h => ?_) (fun c h => ?_)
        · skip
          exact u_X12_known_118 hS hR hrec_6 hrec_65 k0 h
        · skip
          exact u_X12_known_118 hS hR hrec_6 hrec_65 k0 h
theorem u_X12_known_65 {F P : Nat} {S : xSt} (hS : xWF S) {Rg : Nat → Prop} (hR : xRC S Rg) {rec_6 : Nat → Int32 → Int32 → Int64 → Int64 → Int64 → Int32 → xDt → Option (Int64 × xDt)} (hrec_6 : ∀ {v0 : Nat} {v1 : Int32} {v2 : Int32} {v3 : Int64} {v5 : Int64} {v7 : Int64} {v9 : Int32} {D : xDt} {r : Int64 × xDt}, xK S v0 12 → rec_6 v0 v1 v2 v3 v5 v7 v9 D = some r → xfr Rg D r.2) : ∀ (n : Nat) {v0 : Nat} {v1 : Int32} {v2 : Int32} {v3 : Int64} {v5 : Int64} {v7 : Int64} {v9 : Int32} {v10 : Int64} {v12 : Int32} {D : xDt} {r : Int64 × xDt}, xK S v0 12 → f_X12_known_65 F P S rec_6 n v0 v1 v2 v3 v5 v7 v9 v10 v12 D = some r → xfr Rg D r.2 := by
  intro n
  induction n with
  | zero => intros; rename_i h; cases h
  | succ n ih =>
    intro v0 v1 v2 v3 v5 v7 v9 v10 v12 D r k0 h
    exact u_X12_known_65s hS hR hrec_6 (fun k0 h => ih k0 h) k0 h

theorem u_X12_known_60 {F P : Nat} {S : xSt} (hS : xWF S) {Rg : Nat → Prop} (hR : xRC S Rg) {rec_6 : Nat → Int32 → Int32 → Int64 → Int64 → Int64 → Int32 → xDt → Option (Int64 × xDt)} (hrec_6 : ∀ {v0 : Nat} {v1 : Int32} {v2 : Int32} {v3 : Int64} {v5 : Int64} {v7 : Int64} {v9 : Int32} {D : xDt} {r : Int64 × xDt}, xK S v0 12 → rec_6 v0 v1 v2 v3 v5 v7 v9 D = some r → xfr Rg D r.2) {v0 : Nat} {v1 : Int32} {v2 : Int32} {v3 : Int64} {v5 : Int64} {v7 : Int64} {v9 : Int32} {s0 : Int64} {D : xDt} {r : Int64 × xDt} (k0 : xK S v0 12) (h : f_X12_known_60 F P S rec_6 v0 v1 v2 v3 v5 v7 v9 s0 D = some r) : xfr Rg D r.2 := by
  unfold f_X12_known_60 at h
  exact u_X12_known_65 hS hR hrec_6 F k0 h

theorem u_X12_known_6s {F P : Nat} {S : xSt} (hS : xWF S) {Rg : Nat → Prop} (hR : xRC S Rg) {rec_6 : Nat → Int32 → Int32 → Int64 → Int64 → Int64 → Int32 → xDt → Option (Int64 × xDt)} (hrec_6 : ∀ {v0 : Nat} {v1 : Int32} {v2 : Int32} {v3 : Int64} {v5 : Int64} {v7 : Int64} {v9 : Int32} {D : xDt} {r : Int64 × xDt}, xK S v0 12 → rec_6 v0 v1 v2 v3 v5 v7 v9 D = some r → xfr Rg D r.2) {v0 : Nat} {v1 : Int32} {v2 : Int32} {v3 : Int64} {v5 : Int64} {v7 : Int64} {v9 : Int32} {D : xDt} {r : Int64 × xDt} (k0 : xK S v0 12) (h : f_X12_known_6s F P S rec_6 v0 v1 v2 v3 v5 v7 v9 D = some r) : xfr Rg D r.2 := by
  unfold f_X12_known_6s at h
  refine xif_p h (fun c h => ?_) (fun c h => ?_)
  · skip
    obtain rfl := Option.some.inj h
    exact xfr_rf
  · skip
    refine xif_n h (fun c h => ?_) (fun c h => ?_)
    · skip
      exact u_X12_known_155 hS hR hrec_6 k0 h
    · skip
      refine xif_n h (fun c h => ?_) (fun c h => ?_)
      · skip
        refine xif_n h (fun c h => ?_) (fun c h => ?_)
        · skip
          exact u_X12_known_60 hS hR hrec_6 k0 h
        · skip
          exact u_X12_known_60 hS hR hrec_6 k0 h
      · skip
        refine xbnd_e h (fun q1 e1 h => ?_)
        refine xfr_tr (U_X12_reached hS hR k0 e1) ?_
        exact u_X12_known_60 hS hR hrec_6 k0 h
theorem u_X12_known_6 {F P : Nat} {S : xSt} (hS : xWF S) {Rg : Nat → Prop} (hR : xRC S Rg) : ∀ (n : Nat) {v0 : Nat} {v1 : Int32} {v2 : Int32} {v3 : Int64} {v5 : Int64} {v7 : Int64} {v9 : Int32} {D : xDt} {r : Int64 × xDt}, xK S v0 12 → f_X12_known_6 F P S n v0 v1 v2 v3 v5 v7 v9 D = some r → xfr Rg D r.2 := by
  intro n
  induction n with
  | zero => intros; rename_i h; cases h
  | succ n ih =>
    intro v0 v1 v2 v3 v5 v7 v9 D r k0 h
    exact u_X12_known_6s hS hR (fun k0 h => ih k0 h) k0 h

theorem U_X12_known {F P : Nat} {S : xSt} (hS : xWF S) {Rg : Nat → Prop} (hR : xRC S Rg) {v0 : Nat} {v1 : Int32} {v2 : Int32} {v3 : Int64} {v5 : Int64} {D : xDt} {r : Int64 × xDt} (k0 : xK S v0 12) (h : f_X12_known F P S v0 v1 v2 v3 v5 D = some r) : xfr Rg D r.2 := by
  unfold f_X12_known at h
  exact u_X12_known_6 hS hR F k0 h

theorem u_X12_where_191 {F P : Nat} {S : xSt} (hS : xWF S) {Rg : Nat → Prop} (hR : xRC S Rg) {self_X12_where : Nat → Int32 → Int64 → xDt → Option (Int64 × xDt)} (hself_X12_where : ∀ {v0 : Nat} {v1 : Int32} {v2 : Int64} {D : xDt} {r : Int64 × xDt}, xK S v0 12 → self_X12_where v0 v1 v2 D = some r → xfr Rg D r.2) {v0 : Nat} {v1 : Int32} {v2 : Int64} {v4 : Int64} {s0 : Int64} {D : xDt} {r : Int64 × xDt} (k0 : xK S v0 12) (h : f_X12_where_191 F P S self_X12_where v0 v1 v2 v4 s0 D = some r) : xfr Rg D r.2 := by
  unfold f_X12_where_191 at h
  refine xgrd_e h (fun g1 h => ?_)
  by_cases c0 : (D.1 (xr S v0 8) (v1).toNatClampNeg) = 4
  · rw [if_pos c0] at h
    obtain rfl := Option.some.inj h
    exact xfr_rf
  · rw [if_neg c0] at h
    by_cases c1 : (D.1 (xr S v0 8) (v1).toNatClampNeg) = 5
    · rw [if_pos c1] at h
      refine xgrd_e h (fun g2 h => ?_)
      refine xgrd_e h (fun g3 h => ?_)
      refine xbnd_e h (fun q4 e4 h => ?_)
      refine xfr_tr (U_X12_known hS hR k0 e4) ?_
      obtain rfl := Option.some.inj h
      exact xfr_rf
    · rw [if_neg c1] at h
      by_cases c2 : (D.1 (xr S v0 8) (v1).toNatClampNeg) = 6
      · rw [if_pos c2] at h
        refine xgrd_e h (fun g5 h => ?_)
        refine xbnd_e h (fun q6 e6 h => ?_)
        refine xfr_tr (U_X12_known hS hR k0 e6) ?_
        obtain rfl := Option.some.inj h
        exact xfr_rf
      · rw [if_neg c2] at h
        by_cases c3 : (D.1 (xr S v0 8) (v1).toNatClampNeg) = 7
        · rw [if_pos c3] at h
          refine xgrd_e h (fun g7 h => ?_)
          refine xgrd_e h (fun g8 h => ?_)
          refine xbnd_e h (fun q9 e9 h => ?_)
          refine xfr_tr (U_X12_known hS hR k0 e9) ?_
          obtain rfl := Option.some.inj h
          exact xfr_rf
        · rw [if_neg c3] at h
          by_cases c4 : (D.1 (xr S v0 8) (v1).toNatClampNeg) = 8
          · rw [if_pos c4] at h
            refine xgrd_e h (fun g10 h => ?_)
            refine xgrd_e h (fun g11 h => ?_)
            refine xbnd_e h (fun q12 e12 h => ?_)
            refine xfr_tr (U_X12_known hS hR k0 e12) ?_
            obtain rfl := Option.some.inj h
            exact xfr_rf
          · rw [if_neg c4] at h
            by_cases c5 : (D.1 (xr S v0 8) (v1).toNatClampNeg) = 9
            · rw [if_pos c5] at h
              refine xgrd_e h (fun g13 h => ?_)
              refine xgrd_e h (fun g14 h => ?_)
              refine xbnd_e h (fun q15 e15 h => ?_)
              refine xfr_tr (U_X12_known hS hR k0 e15) ?_
              obtain rfl := Option.some.inj h
              exact xfr_rf
            · rw [if_neg c5] at h
              by_cases c6 : (D.1 (xr S v0 8) (v1).toNatClampNeg) = 10
              · rw [if_pos c6] at h
                obtain rfl := Option.some.inj h
                exact xfr_rf
              · rw [if_neg c6] at h
                by_cases c7 : (D.1 (xr S v0 8) (v1).toNatClampNeg) = 11
                · rw [if_pos c7] at h
                  obtain rfl := Option.some.inj h
                  exact xfr_rf
                · rw [if_neg c7] at h
                  by_cases c8 : (D.1 (xr S v0 8) (v1).toNatClampNeg) = 12
                  · rw [if_pos c8] at h
                    obtain rfl := Option.some.inj h
                    exact xfr_rf
                  · rw [if_neg c8] at h
                    by_cases c9 : (D.1 (xr S v0 8) (v1).toNatClampNeg) = 13
                    · rw [if_pos c9] at h
                      obtain rfl := Option.some.inj h
                      exact xfr_rf
                    · rw [if_neg c9] at h
                      refine xgrd_e h (fun g16 h => ?_)
                      refine xgrd_e h (fun g17 h => ?_)
                      refine xbnd_e h (fun q18 e18 h => ?_)
                      refine xfr_tr (U_X12_known hS hR k0 e18) ?_
                      obtain rfl := Option.some.inj h
                      exact xfr_rf

theorem U_X12_where_o {F P : Nat} {S : xSt} (hS : xWF S) {Rg : Nat → Prop} (hR : xRC S Rg) {self_X12_where : Nat → Int32 → Int64 → xDt → Option (Int64 × xDt)} (hself_X12_where : ∀ {v0 : Nat} {v1 : Int32} {v2 : Int64} {D : xDt} {r : Int64 × xDt}, xK S v0 12 → self_X12_where v0 v1 v2 D = some r → xfr Rg D r.2) {v0 : Nat} {v1 : Int32} {v2 : Int64} {D : xDt} {r : Int64 × xDt} (k0 : xK S v0 12) (h : f_X12_where_o F P S self_X12_where v0 v1 v2 D = some r) : xfr Rg D r.2 := by
  unfold f_X12_where_o at h
  refine xgrd_e h (fun g1 h => ?_)
  by_cases c0 : (D.1 (xr S v0 8) (v1).toNatClampNeg) = 1
  · rw [if_pos c0] at h
    refine xgrd_e h (fun g2 h => ?_)
    refine xbnd_e h (fun q3 e3 h => ?_)
    refine xfr_tr (U_X12_ofAtom hS hR k0 e3) ?_
    obtain rfl := Option.some.inj h
    exact xfr_rf
  · rw [if_neg c0] at h
    by_cases c1 : (D.1 (xr S v0 8) (v1).toNatClampNeg) = 2
    · rw [if_pos c1] at h
      obtain rfl := Option.some.inj h
      exact xfr_rf
    · rw [if_neg c1] at h
      by_cases c2 : (D.1 (xr S v0 8) (v1).toNatClampNeg) = 3
      · rw [if_pos c2] at h
        obtain rfl := Option.some.inj h
        exact xfr_rf
      · rw [if_neg c2] at h
        by_cases c3 : (D.1 (xr S v0 8) (v1).toNatClampNeg) = 4
        · rw [if_pos c3] at h
          refine xgrd_e h (fun g4 h => ?_)
          refine xbnd_e h (fun q5 e5 h => ?_)
          refine xfr_tr (hself_X12_where k0 e5) ?_
          refine xgrd_e h (fun g6 h => ?_)
          refine xif_p h (fun c h => ?_) (fun c h => ?_)
          · skip
            refine xgrd_e h (fun g7 h => ?_)
            refine xbnd_e h (fun q8 e8 h => ?_)
            refine xfr_tr (hself_X12_where k0 e8) ?_
            exact u_X12_where_191 hS hR hself_X12_where k0 h
          · skip
            exact u_X12_where_191 hS hR hself_X12_where k0 h
        · rw [if_neg c3] at h
          by_cases c4 : (D.1 (xr S v0 8) (v1).toNatClampNeg) = 5
          · rw [if_pos c4] at h
            refine xgrd_e h (fun g9 h => ?_)
            refine xbnd_e h (fun q10 e10 h => ?_)
            refine xfr_tr (hself_X12_where k0 e10) ?_
            refine xgrd_e h (fun g11 h => ?_)
            refine xif_p h (fun c h => ?_) (fun c h => ?_)
            · skip
              refine xgrd_e h (fun g12 h => ?_)
              refine xbnd_e h (fun q13 e13 h => ?_)
              refine xfr_tr (hself_X12_where k0 e13) ?_
              exact u_X12_where_191 hS hR hself_X12_where k0 h
            · skip
              exact u_X12_where_191 hS hR hself_X12_where k0 h
          · rw [if_neg c4] at h
            by_cases c5 : (D.1 (xr S v0 8) (v1).toNatClampNeg) = 6
            · rw [if_pos c5] at h
              refine xgrd_e h (fun g14 h => ?_)
              refine xbnd_e h (fun q15 e15 h => ?_)
              refine xfr_tr (hself_X12_where k0 e15) ?_
              refine xgrd_e h (fun g16 h => ?_)
              refine xif_p h (fun c h => ?_) (fun c h => ?_)
              · skip
                refine xgrd_e h (fun g17 h => ?_)
                refine xbnd_e h (fun q18 e18 h => ?_)
                refine xfr_tr (hself_X12_where k0 e18) ?_
                exact u_X12_where_191 hS hR hself_X12_where k0 h
              · skip
                exact u_X12_where_191 hS hR hself_X12_where k0 h
            · rw [if_neg c5] at h
              by_cases c6 : (D.1 (xr S v0 8) (v1).toNatClampNeg) = 7
              · rw [if_pos c6] at h
                refine xgrd_e h (fun g19 h => ?_)
                refine xbnd_e h (fun q20 e20 h => ?_)
                refine xfr_tr (hself_X12_where k0 e20) ?_
                refine xgrd_e h (fun g21 h => ?_)
                refine xif_p h (fun c h => ?_) (fun c h => ?_)
                · skip
                  refine xgrd_e h (fun g22 h => ?_)
                  refine xbnd_e h (fun q23 e23 h => ?_)
                  refine xfr_tr (hself_X12_where k0 e23) ?_
                  exact u_X12_where_191 hS hR hself_X12_where k0 h
                · skip
                  exact u_X12_where_191 hS hR hself_X12_where k0 h
              · rw [if_neg c6] at h
                by_cases c7 : (D.1 (xr S v0 8) (v1).toNatClampNeg) = 8
                · rw [if_pos c7] at h
                  refine xgrd_e h (fun g24 h => ?_)
                  refine xbnd_e h (fun q25 e25 h => ?_)
                  refine xfr_tr (hself_X12_where k0 e25) ?_
                  refine xgrd_e h (fun g26 h => ?_)
                  refine xif_p h (fun c h => ?_) (fun c h => ?_)
                  · skip
                    refine xgrd_e h (fun g27 h => ?_)
                    refine xbnd_e h (fun q28 e28 h => ?_)
                    refine xfr_tr (hself_X12_where k0 e28) ?_
                    exact u_X12_where_191 hS hR hself_X12_where k0 h
                  · skip
                    exact u_X12_where_191 hS hR hself_X12_where k0 h
                · rw [if_neg c7] at h
                  by_cases c8 : (D.1 (xr S v0 8) (v1).toNatClampNeg) = 9
                  · rw [if_pos c8] at h
                    refine xgrd_e h (fun g29 h => ?_)
                    refine xbnd_e h (fun q30 e30 h => ?_)
                    refine xfr_tr (hself_X12_where k0 e30) ?_
                    refine xgrd_e h (fun g31 h => ?_)
                    refine xif_p h (fun c h => ?_) (fun c h => ?_)
                    · skip
                      refine xgrd_e h (fun g32 h => ?_)
                      refine xbnd_e h (fun q33 e33 h => ?_)
                      refine xfr_tr (hself_X12_where k0 e33) ?_
                      exact u_X12_where_191 hS hR hself_X12_where k0 h
                    · skip
                      exact u_X12_where_191 hS hR hself_X12_where k0 h
                  · rw [if_neg c8] at h
                    by_cases c9 : (D.1 (xr S v0 8) (v1).toNatClampNeg) = 10
                    · rw [if_pos c9] at h
                      refine xgrd_e h (fun g34 h => ?_)
                      refine xbnd_e h (fun q35 e35 h => ?_)
                      refine xfr_tr (hself_X12_where k0 e35) ?_
                      refine xgrd_e h (fun g36 h => ?_)
                      refine xif_p h (fun c h => ?_) (fun c h => ?_)
                      · skip
                        refine xgrd_e h (fun g37 h => ?_)
                        refine xbnd_e h (fun q38 e38 h => ?_)
                        refine xfr_tr (hself_X12_where k0 e38) ?_
                        exact u_X12_where_191 hS hR hself_X12_where k0 h
                      · skip
                        exact u_X12_where_191 hS hR hself_X12_where k0 h
                    · rw [if_neg c9] at h
                      by_cases c10 : (D.1 (xr S v0 8) (v1).toNatClampNeg) = 11
                      · rw [if_pos c10] at h
                        refine xgrd_e h (fun g39 h => ?_)
                        refine xbnd_e h (fun q40 e40 h => ?_)
                        refine xfr_tr (hself_X12_where k0 e40) ?_
                        refine xgrd_e h (fun g41 h => ?_)
                        refine xif_p h (fun c h => ?_) (fun c h => ?_)
                        · skip
                          refine xgrd_e h (fun g42 h => ?_)
                          refine xbnd_e h (fun q43 e43 h => ?_)
                          refine xfr_tr (hself_X12_where k0 e43) ?_
                          exact u_X12_where_191 hS hR hself_X12_where k0 h
                        · skip
                          exact u_X12_where_191 hS hR hself_X12_where k0 h
                      · rw [if_neg c10] at h
                        by_cases c11 : (D.1 (xr S v0 8) (v1).toNatClampNeg) = 12
                        · rw [if_pos c11] at h
                          refine xgrd_e h (fun g44 h => ?_)
                          refine xbnd_e h (fun q45 e45 h => ?_)
                          refine xfr_tr (hself_X12_where k0 e45) ?_
                          refine xgrd_e h (fun g46 h => ?_)
                          refine xif_p h (fun c h => ?_) (fun c h => ?_)
                          · skip
                            refine xgrd_e h (fun g47 h => ?_)
                            refine xbnd_e h (fun q48 e48 h => ?_)
                            refine xfr_tr (hself_X12_where k0 e48) ?_
                            exact u_X12_where_191 hS hR hself_X12_where k0 h
                          · skip
                            exact u_X12_where_191 hS hR hself_X12_where k0 h
                        · rw [if_neg c11] at h
                          by_cases c12 : (D.1 (xr S v0 8) (v1).toNatClampNeg) = 13
                          · rw [if_pos c12] at h
                            refine xgrd_e h (fun g49 h => ?_)
                            refine xbnd_e h (fun q50 e50 h => ?_)
                            refine xfr_tr (hself_X12_where k0 e50) ?_
                            refine xgrd_e h (fun g51 h => ?_)
                            refine xif_p h (fun c h => ?_) (fun c h => ?_)
                            · skip
                              refine xgrd_e h (fun g52 h => ?_)
                              refine xbnd_e h (fun q53 e53 h => ?_)
                              refine xfr_tr (hself_X12_where k0 e53) ?_
                              exact u_X12_where_191 hS hR hself_X12_where k0 h
                            · skip
                              exact u_X12_where_191 hS hR hself_X12_where k0 h
                          · rw [if_neg c12] at h
                            by_cases c13 : (D.1 (xr S v0 8) (v1).toNatClampNeg) = 14
                            · rw [if_pos c13] at h
                              refine xgrd_e h (fun g54 h => ?_)
                              refine xbnd_e h (fun q55 e55 h => ?_)
                              refine xfr_tr (hself_X12_where k0 e55) ?_
                              refine xgrd_e h (fun g56 h => ?_)
                              refine xbnd_e h (fun q57 e57 h => ?_)
                              refine xfr_tr (hself_X12_where k0 e57) ?_
                              obtain rfl := Option.some.inj h
                              exact xfr_rf
                            · rw [if_neg c13] at h
                              by_cases c14 : (D.1 (xr S v0 8) (v1).toNatClampNeg) = 15
                              · rw [if_pos c14] at h
                                refine xgrd_e h (fun g58 h => ?_)
                                refine xgrd_e h (fun g59 h => ?_)
                                refine xbnd_e h (fun q60 e60 h => ?_)
                                refine xfr_tr (hself_X12_where k0 e60) ?_
                                refine xbnd_e h (fun q61 e61 h => ?_)
                                refine xfr_tr (hself_X12_where k0 e61) ?_
                                obtain rfl := Option.some.inj h
                                exact xfr_rf
                              · rw [if_neg c14] at h
                                refine xgrd_e h (fun g62 h => ?_)
                                refine xbnd_e h (fun q63 e63 h => ?_)
                                refine xfr_tr (hself_X12_where k0 e63) ?_
                                refine xgrd_e h (fun g64 h => ?_)
                                refine xif_p h (fun c h => ?_) (fun c h => ?_)
                                · skip
                                  refine xgrd_e h (fun g65 h => ?_)
                                  refine xbnd_e h (fun q66 e66 h => ?_)
                                  refine xfr_tr (hself_X12_where k0 e66) ?_
                                  exact u_X12_where_191 hS hR hself_X12_where k0 h
                                · skip
                                  exact u_X12_where_191 hS hR hself_X12_where k0 h

theorem U_X12_where {F P : Nat} {S : xSt} (hS : xWF S) {Rg : Nat → Prop} (hR : xRC S Rg) : ∀ (n : Nat), ∀ {v0 : Nat} {v1 : Int32} {v2 : Int64} {D : xDt} {r : Int64 × xDt}, xK S v0 12 → f_X12_where F P S n v0 v1 v2 D = some r → xfr Rg D r.2 := by
  intro n
  induction n with
  | zero => intros; rename_i h; cases h
  | succ n ih =>
    intro v0 v1 v2 D r k0 h
    exact U_X12_where_o hS hR (fun k0 h => ih k0 h) k0 h

theorem U_X12_holds {F P : Nat} {S : xSt} (hS : xWF S) {Rg : Nat → Prop} (hR : xRC S Rg) {v0 : Nat} {v1 : Int32} {D : xDt} {r : Int32 × xDt} (k0 : xK S v0 12) (h : f_X12_holds F P S v0 v1 D = some r) : xfr Rg D r.2 := by
  unfold f_X12_holds at h
  refine xbnd_e h (fun q1 e1 h => ?_)
  refine xfr_tr (U_X12_isWorld hS hR k0 e1) ?_
  refine xif_p h (fun c h => ?_) (fun c h => ?_)
  · skip
    obtain rfl := Option.some.inj h
    exact xfr_rf
  · skip
    refine xbnd_e h (fun q2 e2 h => ?_)
    refine xfr_tr (U_X12_all hS hR k0 e2) ?_
    refine xbnd_e h (fun q3 e3 h => ?_)
    refine xfr_tr (U_X12_where hS hR P k0 e3) ?_
    obtain rfl := Option.some.inj h
    exact xfr_rf

theorem U_X12_worlds {F P : Nat} {S : xSt} (hS : xWF S) {Rg : Nat → Prop} (hR : xRC S Rg) {v0 : Nat} {D : xDt} {r : Int32 × xDt} (k0 : xK S v0 12) (h : f_X12_worlds F P S v0 D = some r) : xfr Rg D r.2 := by
  unfold f_X12_worlds at h
  refine xbnd_e h (fun q1 e1 h => ?_)
  refine xfr_tr (U_X12_all hS hR k0 e1) ?_
  refine xbnd_e h (fun q2 e2 h => ?_)
  refine xfr_tr (U_X12_where hS hR P k0 e2) ?_
  refine xbnd_e h (fun q3 e3 h => ?_)
  refine xfr_tr (U_X12_size hS hR e3) ?_
  obtain rfl := Option.some.inj h
  exact xfr_rf

theorem U_X12_put {F P : Nat} {S : xSt} (hS : xWF S) {Rg : Nat → Prop} (hR : xRC S Rg) {v0 : Nat} {v1 : Int32} {D : xDt} {r : xDt} (k0 : xK S v0 12) (r0 : Rg v0) (h : f_X12_put F P S v0 v1 D = some r) : xfr Rg D r := by
  unfold f_X12_put at h
  refine xif_p h (fun c h => ?_) (fun c h => ?_)
  · skip
    obtain rfl := Option.some.inj h
    exact xfr_rf
  · skip
    refine xgrd_e h (fun g1 h => ?_)
    refine xlet_e h (fun D2 eD2 h => ?_)
    refine xfr_i (hR.1 k0 r0 20 103 rfl) eD2 ?_
    refine xlet_e h (fun D3 eD3 h => ?_)
    refine xfr_i r0 eD3 ?_
    obtain rfl := Option.some.inj h
    exact xfr_rf

theorem u_X12_putGroup_26 {F P : Nat} {S : xSt} (hS : xWF S) {Rg : Nat → Prop} (hR : xRC S Rg) {rec_2 : Nat → Int32 → Int32 → xDt → Option (xDt)} (hrec_2 : ∀ {v0 : Nat} {v1 : Int32} {v2 : Int32} {D : xDt} {r : xDt}, xK S v0 12 → Rg v0 → rec_2 v0 v1 v2 D = some r → xfr Rg D r) {v0 : Nat} {v1 : Int32} {v2 : Int32} {D : xDt} {r : xDt} (k0 : xK S v0 12) (r0 : Rg v0) (h : f_X12_putGroup_26 F P S rec_2 v0 v1 v2 D = some r) : xfr Rg D r := by
  unfold f_X12_putGroup_26 at h
  refine xlet_e h (fun v2_1 ev2_1 h => ?_)
  exact hrec_2 k0 r0 h

theorem u_X12_putGroup_2s {F P : Nat} {S : xSt} (hS : xWF S) {Rg : Nat → Prop} (hR : xRC S Rg) {rec_2 : Nat → Int32 → Int32 → xDt → Option (xDt)} (hrec_2 : ∀ {v0 : Nat} {v1 : Int32} {v2 : Int32} {D : xDt} {r : xDt}, xK S v0 12 → Rg v0 → rec_2 v0 v1 v2 D = some r → xfr Rg D r) {v0 : Nat} {v1 : Int32} {v2 : Int32} {D : xDt} {r : xDt} (k0 : xK S v0 12) (r0 : Rg v0) (h : f_X12_putGroup_2s F P S rec_2 v0 v1 v2 D = some r) : xfr Rg D r := by
  unfold f_X12_putGroup_2s at h
  refine xif_p h (fun c h => ?_) (fun c h => ?_)
  · skip
    obtain rfl := Option.some.inj h
    exact xfr_rf
  · skip
    refine xif_n h (fun c h => ?_) (fun c h => ?_)
    · skip
      exact u_X12_putGroup_26 hS hR hrec_2 k0 r0 h
    · skip
      refine xbnd_e h (fun q1 e1 h => ?_)
      refine xfr_tr (U_X12_put hS hR k0 r0 e1) ?_
      exact u_X12_putGroup_26 hS hR hrec_2 k0 r0 h
theorem u_X12_putGroup_2 {F P : Nat} {S : xSt} (hS : xWF S) {Rg : Nat → Prop} (hR : xRC S Rg) : ∀ (n : Nat) {v0 : Nat} {v1 : Int32} {v2 : Int32} {D : xDt} {r : xDt}, xK S v0 12 → Rg v0 → f_X12_putGroup_2 F P S n v0 v1 v2 D = some r → xfr Rg D r := by
  intro n
  induction n with
  | zero => intros; rename_i h; cases h
  | succ n ih =>
    intro v0 v1 v2 D r k0 r0 h
    exact u_X12_putGroup_2s hS hR (fun k0 r0 h => ih k0 r0 h) k0 r0 h

theorem U_X12_putGroup {F P : Nat} {S : xSt} (hS : xWF S) {Rg : Nat → Prop} (hR : xRC S Rg) {v0 : Nat} {v1 : Int32} {D : xDt} {r : xDt} (k0 : xK S v0 12) (r0 : Rg v0) (h : f_X12_putGroup F P S v0 v1 D = some r) : xfr Rg D r := by
  unfold f_X12_putGroup at h
  exact u_X12_putGroup_2 hS hR F k0 r0 h

theorem u_J3_checkIndex_8e157_9 {F P : Nat} {S : xSt} (hS : xWF S) {Rg : Nat → Prop} (hR : xRC S Rg) {v0 : Int32} {v1 : Int32} {v2 : Nat} {D : xDt} {r : Int32 × xDt} (h : f_J3_checkIndex_8e157_9 F P S v0 v1 v2 D = some r) : xfr Rg D r.2 := by
  unfold f_J3_checkIndex_8e157_9 at h
  cases h

theorem U_J3_checkIndex_8e157 {F P : Nat} {S : xSt} (hS : xWF S) {Rg : Nat → Prop} (hR : xRC S Rg) {v0 : Int32} {v1 : Int32} {v2 : Nat} {D : xDt} {r : Int32 × xDt} (h : f_J3_checkIndex_8e157 F P S v0 v1 v2 D = some r) : xfr Rg D r.2 := by
  unfold f_J3_checkIndex_8e157 at h
  refine xif_p h (fun c h => ?_) (fun c h => ?_)
  · skip
    exact u_J3_checkIndex_8e157_9 hS hR h
  · skip
    refine xif_p h (fun c h => ?_) (fun c h => ?_)
    · skip
      obtain rfl := Option.some.inj h
      exact xfr_rf
    · skip
      exact u_J3_checkIndex_8e157_9 hS hR h

theorem U_J0_checkIndex_df160 {F P : Nat} {S : xSt} (hS : xWF S) {Rg : Nat → Prop} (hR : xRC S Rg) {v0 : Int32} {v1 : Int32} {D : xDt} {r : xDt} (h : f_J0_checkIndex_df160 F P S v0 v1 D = some r) : xfr Rg D r := by
  unfold f_J0_checkIndex_df160 at h
  refine xbnd_e h (fun q1 e1 h => ?_)
  refine xfr_tr (U_J3_checkIndex_8e157 hS hR e1) ?_
  obtain rfl := Option.some.inj h
  exact xfr_rf

theorem U_J1_charAt_3b067 {F P : Nat} {S : xSt} (hS : xWF S) {Rg : Nat → Prop} (hR : xRC S Rg) {v0 : Nat} {v1 : Int32} {D : xDt} {r : Int32 × xDt} (k0 : v0 < 4) (h : f_J1_charAt_3b067 F P S v0 v1 D = some r) : xfr Rg D r.2 := by
  unfold f_J1_charAt_3b067 at h
  refine xbnd_e h (fun q1 e1 h => ?_)
  refine xfr_tr (U_J0_checkIndex_df160 hS hR e1) ?_
  refine xgrd_e h (fun g2 h => ?_)
  refine xgrd_e h (fun g3 h => ?_)
  obtain rfl := Option.some.inj h
  exact xfr_rf

theorem U_J0_charAt_5068e {F P : Nat} {S : xSt} (hS : xWF S) {Rg : Nat → Prop} (hR : xRC S Rg) {v0 : Nat} {v1 : Int32} {D : xDt} {r : Int32 × xDt} (k0 : v0 < 4) (h : f_J0_charAt_5068e F P S v0 v1 D = some r) : xfr Rg D r.2 := by
  unfold f_J0_charAt_5068e at h
  refine xbnd_e h (fun q1 e1 h => ?_)
  refine xfr_tr (U_J0_isLatin1_aae02 hS hR k0 e1) ?_
  refine xif_p h (fun c h => ?_) (fun c h => ?_)
  · skip
    cases h
  · skip
    refine xbnd_e h (fun q2 e2 h => ?_)
    refine xfr_tr (U_J1_charAt_3b067 hS hR k0 e2) ?_
    refine xgrd_e h (fun g3 h => ?_)
    obtain rfl := Option.some.inj h
    exact xfr_rf

theorem u_X12_write_29 {F P : Nat} {S : xSt} (hS : xWF S) {Rg : Nat → Prop} (hR : xRC S Rg) {self_X12_write : Nat → Int32 → Int32 → xDt → Option (xDt)} (hself_X12_write : ∀ {v0 : Nat} {v1 : Int32} {v2 : Int32} {D : xDt} {r : xDt}, xK S v0 12 → Rg v0 → self_X12_write v0 v1 v2 D = some r → xfr Rg D r) {v0 : Nat} {v1 : Int32} {v2 : Int32} {v3 : Int32} {D : xDt} {r : xDt} (k0 : xK S v0 12) (r0 : Rg v0) (h : f_X12_write_29 F P S self_X12_write v0 v1 v2 v3 D = some r) : xfr Rg D r := by
  unfold f_X12_write_29 at h
  refine xgrd_e h (fun g1 h => ?_)
  refine xbnd_e h (fun q2 e2 h => ?_)
  refine xfr_tr (hself_X12_write k0 r0 e2) ?_
  refine xbnd_e h (fun q3 e3 h => ?_)
  refine xfr_tr (U_J0_charAt_5068e hS hR (by decide) e3) ?_
  refine xbnd_e h (fun q4 e4 h => ?_)
  refine xfr_tr (U_X12_put hS hR k0 r0 e4) ?_
  refine xgrd_e h (fun g5 h => ?_)
  refine xbnd_e h (fun q6 e6 h => ?_)
  refine xfr_tr (hself_X12_write k0 r0 e6) ?_
  refine xif_n h (fun c h => ?_) (fun c h => ?_)
  · skip
    obtain rfl := Option.some.inj h
    exact xfr_rf
  · skip
    refine xbnd_e h (fun q7 e7 h => ?_)
    refine xfr_tr (U_X12_put hS hR k0 r0 e7) ?_
    obtain rfl := Option.some.inj h
    exact xfr_rf

theorem u_X12_write_107 {F P : Nat} {S : xSt} (hS : xWF S) {Rg : Nat → Prop} (hR : xRC S Rg) {self_X12_write : Nat → Int32 → Int32 → xDt → Option (xDt)} (hself_X12_write : ∀ {v0 : Nat} {v1 : Int32} {v2 : Int32} {D : xDt} {r : xDt}, xK S v0 12 → Rg v0 → self_X12_write v0 v1 v2 D = some r → xfr Rg D r) {s0 : Int32} {s1 : Nat} {D : xDt} {r : xDt} (ks1 : xK S s1 12) (rs1 : Rg s1) (h : f_X12_write_107 F P S self_X12_write s0 s1 D = some r) : xfr Rg D r := by
  unfold f_X12_write_107 at h
  refine xbnd_e h (fun q1 e1 h => ?_)
  refine xfr_tr (U_X12_put hS hR ks1 rs1 e1) ?_
  obtain rfl := Option.some.inj h
  exact xfr_rf

theorem u_X12_write_152 {F P : Nat} {S : xSt} (hS : xWF S) {Rg : Nat → Prop} (hR : xRC S Rg) {self_X12_write : Nat → Int32 → Int32 → xDt → Option (xDt)} (hself_X12_write : ∀ {v0 : Nat} {v1 : Int32} {v2 : Int32} {D : xDt} {r : xDt}, xK S v0 12 → Rg v0 → self_X12_write v0 v1 v2 D = some r → xfr Rg D r) {v0 : Nat} {v1 : Int32} {s0 : Int32} {s1 : Nat} {D : xDt} {r : xDt} (k0 : xK S v0 12) (ks1 : xK S s1 12) (r0 : Rg v0) (rs1 : Rg s1) (h : f_X12_write_152 F P S self_X12_write v0 v1 s0 s1 D = some r) : xfr Rg D r := by
  unfold f_X12_write_152 at h
  refine xbnd_e h (fun q1 e1 h => ?_)
  refine xfr_tr (U_X12_put hS hR ks1 rs1 e1) ?_
  refine xgrd_e h (fun g2 h => ?_)
  refine xbnd_e h (fun q3 e3 h => ?_)
  refine xfr_tr (hself_X12_write k0 r0 e3) ?_
  obtain rfl := Option.some.inj h
  exact xfr_rf

theorem u_X12_write_72 {F P : Nat} {S : xSt} (hS : xWF S) {Rg : Nat → Prop} (hR : xRC S Rg) {self_X12_write : Nat → Int32 → Int32 → xDt → Option (xDt)} (hself_X12_write : ∀ {v0 : Nat} {v1 : Int32} {v2 : Int32} {D : xDt} {r : xDt}, xK S v0 12 → Rg v0 → self_X12_write v0 v1 v2 D = some r → xfr Rg D r) {v0 : Nat} {v1 : Int32} {v3 : Int32} {D : xDt} {r : xDt} (k0 : xK S v0 12) (r0 : Rg v0) (h : f_X12_write_72 F P S self_X12_write v0 v1 v3 D = some r) : xfr Rg D r := by
  unfold f_X12_write_72 at h
  refine xif_p h (fun c h => ?_) (fun c h => ?_)
  · skip
    refine xbnd_e h (fun q1 e1 h => ?_)
    refine xfr_tr (U_J0_charAt_5068e hS hR (by decide) e1) ?_
    refine xbnd_e h (fun q2 e2 h => ?_)
    refine xfr_tr (U_X12_put hS hR k0 r0 e2) ?_
    refine xif_p h (fun c h => ?_) (fun c h => ?_)
    · skip
      refine xgrd_e h (fun g3 h => ?_)
      refine xbnd_e h (fun q4 e4 h => ?_)
      refine xfr_tr (U_X12_putGroup hS hR k0 r0 e4) ?_
      refine xgrd_e h (fun g5 h => ?_)
      refine xbnd_e h (fun q6 e6 h => ?_)
      refine xfr_tr (hself_X12_write k0 r0 e6) ?_
      obtain rfl := Option.some.inj h
      exact xfr_rf
    · skip
      refine xgrd_e h (fun g7 h => ?_)
      refine xbnd_e h (fun q8 e8 h => ?_)
      refine xfr_tr (hself_X12_write k0 r0 e8) ?_
      refine xif_n h (fun c h => ?_) (fun c h => ?_)
      · skip
        exact u_X12_write_152 hS hR hself_X12_write k0 k0 r0 r0 h
      · skip
        exact u_X12_write_152 hS hR hself_X12_write k0 k0 r0 r0 h
  · skip
    refine xif_n h (fun c h => ?_) (fun c h => ?_)
    · skip
      refine xif_n h (fun c h => ?_) (fun c h => ?_)
      · skip
        exact u_X12_write_107 hS hR hself_X12_write k0 r0 h
      · skip
        exact u_X12_write_107 hS hR hself_X12_write k0 r0 h
    · skip
      refine xgrd_e h (fun g9 h => ?_)
      exact u_X12_write_107 hS hR hself_X12_write k0 r0 h

theorem U_X12_write_o {F P : Nat} {S : xSt} (hS : xWF S) {Rg : Nat → Prop} (hR : xRC S Rg) {self_X12_write : Nat → Int32 → Int32 → xDt → Option (xDt)} (hself_X12_write : ∀ {v0 : Nat} {v1 : Int32} {v2 : Int32} {D : xDt} {r : xDt}, xK S v0 12 → Rg v0 → self_X12_write v0 v1 v2 D = some r → xfr Rg D r) {v0 : Nat} {v1 : Int32} {v2 : Int32} {D : xDt} {r : xDt} (k0 : xK S v0 12) (r0 : Rg v0) (h : f_X12_write_o F P S self_X12_write v0 v1 v2 D = some r) : xfr Rg D r := by
  unfold f_X12_write_o at h
  refine xgrd_e h (fun g1 h => ?_)
  refine xlet_e h (fun v3_2 ev3_2 h => ?_)
  refine xif_p h (fun c h => ?_) (fun c h => ?_)
  · skip
    exact u_X12_write_72 hS hR hself_X12_write k0 r0 h
  · skip
    refine xif_p h (fun c h => ?_) (fun c h => ?_)
    · skip
      exact u_X12_write_72 hS hR hself_X12_write k0 r0 h
    · skip
      refine xif_n h (fun c h => ?_) (fun c h => ?_)
      · skip
        exact u_X12_write_29 hS hR hself_X12_write k0 r0 h
      · skip
        refine xbnd_e h (fun q3 e3 h => ?_)
        refine xfr_tr (U_X12_put hS hR k0 r0 e3) ?_
        exact u_X12_write_29 hS hR hself_X12_write k0 r0 h

theorem U_X12_write {F P : Nat} {S : xSt} (hS : xWF S) {Rg : Nat → Prop} (hR : xRC S Rg) : ∀ (n : Nat), ∀ {v0 : Nat} {v1 : Int32} {v2 : Int32} {D : xDt} {r : xDt}, xK S v0 12 → Rg v0 → f_X12_write F P S n v0 v1 v2 D = some r → xfr Rg D r := by
  intro n
  induction n with
  | zero => intros; rename_i h; cases h
  | succ n ih =>
    intro v0 v1 v2 D r k0 r0 h
    exact U_X12_write_o hS hR (fun k0 r0 h => ih k0 r0 h) k0 r0 h

