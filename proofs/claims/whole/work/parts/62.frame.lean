theorem U_X12_tell {F P : Nat} {S : xSt} (hS : xWF S) {Rg : Nat → Prop} (hR : xRC S Rg) {v0 : Nat} {D : xDt} {r : Int32 × xDt} (k0 : xK S v0 12) (r0 : Rg v0) (h : f_X12_tell F P S v0 D = some r) : xfr Rg D r.2 := by
  unfold f_X12_tell at h
  refine xlet_e h (fun D1 eD1 h => ?_)
  refine xfr_i r0 eD1 ?_
  refine xbnd_e h (fun q2 e2 h => ?_)
  refine xfr_tr (U_X12_write hS hR P k0 r0 e2) ?_
  obtain rfl := Option.some.inj h
  exact xfr_rf

theorem U_X12_letter {F P : Nat} {S : xSt} (hS : xWF S) {Rg : Nat → Prop} (hR : xRC S Rg) {v0 : Nat} {v1 : Int32} {D : xDt} {r : Int32 × xDt} (k0 : xK S v0 12) (h : f_X12_letter F P S v0 v1 D = some r) : xfr Rg D r.2 := by
  unfold f_X12_letter at h
  refine xbnd_e h (fun q1 e1 h => ?_)
  refine xfr_tr (U_X12_in hS hR e1) ?_
  refine xif_p h (fun c h => ?_) (fun c h => ?_)
  · skip
    obtain rfl := Option.some.inj h
    exact xfr_rf
  · skip
    refine xgrd_e h (fun g2 h => ?_)
    obtain rfl := Option.some.inj h
    exact xfr_rf

theorem u_X12_shrink_171 {F P : Nat} {S : xSt} (hS : xWF S) {Rg : Nat → Prop} (hR : xRC S Rg) {rec_47 : Nat → Int64 → Nat → Int32 → Int32 → xDt → Option (xDt)} (hrec_47 : ∀ {v0 : Nat} {v1 : Int64} {v3 : Nat} {v4 : Int32} {v5 : Int32} {D : xDt} {r : xDt}, xK S v0 12 → xK S v3 100 → Rg v0 → rec_47 v0 v1 v3 v4 v5 D = some r → xfr Rg D r) {rec_83 : Nat → Int64 → Nat → Int32 → Int32 → Int32 → xDt → Option (xDt)} (hrec_83 : ∀ {v0 : Nat} {v1 : Int64} {v3 : Nat} {v4 : Int32} {v5 : Int32} {v6 : Int32} {D : xDt} {r : xDt}, xK S v0 12 → xK S v3 100 → Rg v0 → rec_83 v0 v1 v3 v4 v5 v6 D = some r → xfr Rg D r) {v0 : Nat} {v1 : Int64} {v3 : Nat} {v4 : Int32} {v5 : Int32} {v6 : Int32} {D : xDt} {r : xDt} (k0 : xK S v0 12) (k3 : xK S v3 100) (r0 : Rg v0) (h : f_X12_shrink_171 F P S rec_47 rec_83 v0 v1 v3 v4 v5 v6 D = some r) : xfr Rg D r := by
  unfold f_X12_shrink_171 at h
  refine xlet_e h (fun v6_1 ev6_1 h => ?_)
  exact hrec_83 k0 k3 r0 h

theorem u_X12_shrink_148 {F P : Nat} {S : xSt} (hS : xWF S) {Rg : Nat → Prop} (hR : xRC S Rg) {rec_47 : Nat → Int64 → Nat → Int32 → Int32 → xDt → Option (xDt)} (hrec_47 : ∀ {v0 : Nat} {v1 : Int64} {v3 : Nat} {v4 : Int32} {v5 : Int32} {D : xDt} {r : xDt}, xK S v0 12 → xK S v3 100 → Rg v0 → rec_47 v0 v1 v3 v4 v5 D = some r → xfr Rg D r) {rec_83 : Nat → Int64 → Nat → Int32 → Int32 → Int32 → xDt → Option (xDt)} (hrec_83 : ∀ {v0 : Nat} {v1 : Int64} {v3 : Nat} {v4 : Int32} {v5 : Int32} {v6 : Int32} {D : xDt} {r : xDt}, xK S v0 12 → xK S v3 100 → Rg v0 → rec_83 v0 v1 v3 v4 v5 v6 D = some r → xfr Rg D r) {v0 : Nat} {v1 : Int64} {v3 : Nat} {v4 : Int32} {v5 : Int32} {v6 : Int32} {v7 : Int32} {s0 : Int32} {s1 : Int32} {s2 : Nat} {D : xDt} {r : xDt} (k0 : xK S v0 12) (k3 : xK S v3 100) (ks2 : xK S s2 100) (r0 : Rg v0) (rs2 : Rg s2) (h : f_X12_shrink_148 F P S rec_47 rec_83 v0 v1 v3 v4 v5 v6 v7 s0 s1 s2 D = some r) : xfr Rg D r := by
  unfold f_X12_shrink_148 at h
  refine xgrd_e h (fun g1 h => ?_)
  refine xlet_e h (fun D2 eD2 h => ?_)
  refine xfr_i rs2 eD2 ?_
  refine xgrd_e h (fun g3 h => ?_)
  refine xgrd_e h (fun g4 h => ?_)
  refine xgrd_e h (fun g5 h => ?_)
  refine xlet_e h (fun D6 eD6 h => ?_)
  refine xfr_i (hR.1 k0 r0 24 100 rfl) eD6 ?_
  exact u_X12_shrink_171 hS hR hrec_47 hrec_83 k0 k3 r0 h

theorem u_X12_shrink_83s {F P : Nat} {S : xSt} (hS : xWF S) {Rg : Nat → Prop} (hR : xRC S Rg) {rec_47 : Nat → Int64 → Nat → Int32 → Int32 → xDt → Option (xDt)} (hrec_47 : ∀ {v0 : Nat} {v1 : Int64} {v3 : Nat} {v4 : Int32} {v5 : Int32} {D : xDt} {r : xDt}, xK S v0 12 → xK S v3 100 → Rg v0 → rec_47 v0 v1 v3 v4 v5 D = some r → xfr Rg D r) {rec_83 : Nat → Int64 → Nat → Int32 → Int32 → Int32 → xDt → Option (xDt)} (hrec_83 : ∀ {v0 : Nat} {v1 : Int64} {v3 : Nat} {v4 : Int32} {v5 : Int32} {v6 : Int32} {D : xDt} {r : xDt}, xK S v0 12 → xK S v3 100 → Rg v0 → rec_83 v0 v1 v3 v4 v5 v6 D = some r → xfr Rg D r) {v0 : Nat} {v1 : Int64} {v3 : Nat} {v4 : Int32} {v5 : Int32} {v6 : Int32} {D : xDt} {r : xDt} (k0 : xK S v0 12) (k3 : xK S v3 100) (r0 : Rg v0) (h : f_X12_shrink_83s F P S rec_47 rec_83 v0 v1 v3 v4 v5 v6 D = some r) : xfr Rg D r := by
  unfold f_X12_shrink_83s at h
  refine xif_p h (fun c h => ?_) (fun c h => ?_)
  · skip
    refine xlet_e h (fun v5_1 ev5_1 h => ?_)
    exact hrec_47 k0 k3 r0 h
  · skip
    refine xif_n h (fun c h => ?_) (fun c h => ?_)
    · skip
      exact u_X12_shrink_171 hS hR hrec_47 hrec_83 k0 k3 r0 h
    · skip
      refine xgrd_e h (fun g2 h => ?_)
      refine xlet_e h (fun v7_3 ev7_3 h => ?_)
      refine xgrd_e h (fun g4 h => ?_)
      refine xif_p h (fun c h => ?_) (fun c h => ?_)
      · skip
        refine xgrd_e h (fun g5 h => ?_)
        exact u_X12_shrink_148 hS hR hrec_47 hrec_83 k0 k3 ((hS.f k0 23 100 rfl).2) r0 (hR.1 k0 r0 23 100 rfl) h
      · skip
        refine xgrd_e h (fun g6 h => ?_)
        exact u_X12_shrink_148 hS hR hrec_47 hrec_83 k0 k3 ((hS.f k0 23 100 rfl).2) r0 (hR.1 k0 r0 23 100 rfl) h
theorem u_X12_shrink_83 {F P : Nat} {S : xSt} (hS : xWF S) {Rg : Nat → Prop} (hR : xRC S Rg) {rec_47 : Nat → Int64 → Nat → Int32 → Int32 → xDt → Option (xDt)} (hrec_47 : ∀ {v0 : Nat} {v1 : Int64} {v3 : Nat} {v4 : Int32} {v5 : Int32} {D : xDt} {r : xDt}, xK S v0 12 → xK S v3 100 → Rg v0 → rec_47 v0 v1 v3 v4 v5 D = some r → xfr Rg D r) : ∀ (n : Nat) {v0 : Nat} {v1 : Int64} {v3 : Nat} {v4 : Int32} {v5 : Int32} {v6 : Int32} {D : xDt} {r : xDt}, xK S v0 12 → xK S v3 100 → Rg v0 → f_X12_shrink_83 F P S rec_47 n v0 v1 v3 v4 v5 v6 D = some r → xfr Rg D r := by
  intro n
  induction n with
  | zero => intros; rename_i h; cases h
  | succ n ih =>
    intro v0 v1 v3 v4 v5 v6 D r k0 k3 r0 h
    exact u_X12_shrink_83s hS hR hrec_47 (fun k0 k3 r0 h => ih k0 k3 r0 h) k0 k3 r0 h

theorem u_X12_shrink_56s {F P : Nat} {S : xSt} (hS : xWF S) {Rg : Nat → Prop} (hR : xRC S Rg) {rec_47 : Nat → Int64 → Nat → Int32 → Int32 → xDt → Option (xDt)} (hrec_47 : ∀ {v0 : Nat} {v1 : Int64} {v3 : Nat} {v4 : Int32} {v5 : Int32} {D : xDt} {r : xDt}, xK S v0 12 → xK S v3 100 → Rg v0 → rec_47 v0 v1 v3 v4 v5 D = some r → xfr Rg D r) {rec_56 : Nat → Int64 → Nat → Int32 → Int32 → Int32 → xDt → Option (xDt)} (hrec_56 : ∀ {v0 : Nat} {v1 : Int64} {v3 : Nat} {v4 : Int32} {v5 : Int32} {v6 : Int32} {D : xDt} {r : xDt}, xK S v0 12 → xK S v3 100 → Rg v0 → rec_56 v0 v1 v3 v4 v5 v6 D = some r → xfr Rg D r) {v0 : Nat} {v1 : Int64} {v3 : Nat} {v4 : Int32} {v5 : Int32} {v6 : Int32} {D : xDt} {r : xDt} (k0 : xK S v0 12) (k3 : xK S v3 100) (r0 : Rg v0) (h : f_X12_shrink_56s F P S rec_47 rec_56 v0 v1 v3 v4 v5 v6 D = some r) : xfr Rg D r := by
  unfold f_X12_shrink_56s at h
  refine xif_p h (fun c h => ?_) (fun c h => ?_)
  · skip
    exact u_X12_shrink_83 hS hR hrec_47 F k0 k3 r0 h
  · skip
    refine xgrd_e h (fun g1 h => ?_)
    refine xlet_e h (fun D2 eD2 h => ?_)
    refine xfr_i (hR.1 k0 r0 23 100 rfl) eD2 ?_
    refine xlet_e h (fun v6_3 ev6_3 h => ?_)
    exact hrec_56 k0 k3 r0 h
theorem u_X12_shrink_56 {F P : Nat} {S : xSt} (hS : xWF S) {Rg : Nat → Prop} (hR : xRC S Rg) {rec_47 : Nat → Int64 → Nat → Int32 → Int32 → xDt → Option (xDt)} (hrec_47 : ∀ {v0 : Nat} {v1 : Int64} {v3 : Nat} {v4 : Int32} {v5 : Int32} {D : xDt} {r : xDt}, xK S v0 12 → xK S v3 100 → Rg v0 → rec_47 v0 v1 v3 v4 v5 D = some r → xfr Rg D r) : ∀ (n : Nat) {v0 : Nat} {v1 : Int64} {v3 : Nat} {v4 : Int32} {v5 : Int32} {v6 : Int32} {D : xDt} {r : xDt}, xK S v0 12 → xK S v3 100 → Rg v0 → f_X12_shrink_56 F P S rec_47 n v0 v1 v3 v4 v5 v6 D = some r → xfr Rg D r := by
  intro n
  induction n with
  | zero => intros; rename_i h; cases h
  | succ n ih =>
    intro v0 v1 v3 v4 v5 v6 D r k0 k3 r0 h
    exact u_X12_shrink_56s hS hR hrec_47 (fun k0 k3 r0 h => ih k0 k3 r0 h) k0 k3 r0 h

theorem u_X12_shrink_222 {F P : Nat} {S : xSt} (hS : xWF S) {Rg : Nat → Prop} (hR : xRC S Rg) {rec_186 : Nat → Int64 → Nat → Int32 → Int32 → xDt → Option (xDt)} (hrec_186 : ∀ {v0 : Nat} {v1 : Int64} {v3 : Nat} {v4 : Int32} {v5 : Int32} {D : xDt} {r : xDt}, xK S v0 12 → xK S v3 100 → Rg v0 → rec_186 v0 v1 v3 v4 v5 D = some r → xfr Rg D r) {v0 : Nat} {v1 : Int64} {v3 : Nat} {v4 : Int32} {v5 : Int32} {D : xDt} {r : xDt} (k0 : xK S v0 12) (k3 : xK S v3 100) (r0 : Rg v0) (h : f_X12_shrink_222 F P S rec_186 v0 v1 v3 v4 v5 D = some r) : xfr Rg D r := by
  unfold f_X12_shrink_222 at h
  refine xlet_e h (fun v5_1 ev5_1 h => ?_)
  exact hrec_186 k0 k3 r0 h

theorem u_X12_shrink_231s {F P : Nat} {S : xSt} (hS : xWF S) {Rg : Nat → Prop} (hR : xRC S Rg) {rec_231 : Nat → Int32 → Int32 → xDt → Option (xDt)} (hrec_231 : ∀ {v0 : Nat} {v4 : Int32} {v5 : Int32} {D : xDt} {r : xDt}, xK S v0 12 → Rg v0 → rec_231 v0 v4 v5 D = some r → xfr Rg D r) {v0 : Nat} {v4 : Int32} {v5 : Int32} {D : xDt} {r : xDt} (k0 : xK S v0 12) (r0 : Rg v0) (h : f_X12_shrink_231s F P S rec_231 v0 v4 v5 D = some r) : xfr Rg D r := by
  unfold f_X12_shrink_231s at h
  refine xif_p h (fun c h => ?_) (fun c h => ?_)
  · skip
    refine xlet_e h (fun D1 eD1 h => ?_)
    refine xfr_i r0 eD1 ?_
    obtain rfl := Option.some.inj h
    exact xfr_rf
  · skip
    refine xgrd_e h (fun g2 h => ?_)
    refine xgrd_e h (fun g3 h => ?_)
    refine xlet_e h (fun D4 eD4 h => ?_)
    refine xfr_i (hR.1 k0 r0 3 100 rfl) eD4 ?_
    refine xlet_e h (fun v5_5 ev5_5 h => ?_)
    exact hrec_231 k0 r0 h
theorem u_X12_shrink_231 {F P : Nat} {S : xSt} (hS : xWF S) {Rg : Nat → Prop} (hR : xRC S Rg) : ∀ (n : Nat) {v0 : Nat} {v4 : Int32} {v5 : Int32} {D : xDt} {r : xDt}, xK S v0 12 → Rg v0 → f_X12_shrink_231 F P S n v0 v4 v5 D = some r → xfr Rg D r := by
  intro n
  induction n with
  | zero => intros; rename_i h; cases h
  | succ n ih =>
    intro v0 v4 v5 D r k0 r0 h
    exact u_X12_shrink_231s hS hR (fun k0 r0 h => ih k0 r0 h) k0 r0 h

theorem u_X12_shrink_186s {F P : Nat} {S : xSt} (hS : xWF S) {Rg : Nat → Prop} (hR : xRC S Rg) {rec_186 : Nat → Int64 → Nat → Int32 → Int32 → xDt → Option (xDt)} (hrec_186 : ∀ {v0 : Nat} {v1 : Int64} {v3 : Nat} {v4 : Int32} {v5 : Int32} {D : xDt} {r : xDt}, xK S v0 12 → xK S v3 100 → Rg v0 → rec_186 v0 v1 v3 v4 v5 D = some r → xfr Rg D r) {v0 : Nat} {v1 : Int64} {v3 : Nat} {v4 : Int32} {v5 : Int32} {D : xDt} {r : xDt} (k0 : xK S v0 12) (k3 : xK S v3 100) (r0 : Rg v0) (h : f_X12_shrink_186s F P S rec_186 v0 v1 v3 v4 v5 D = some r) : xfr Rg D r := by
  unfold f_X12_shrink_186s at h
  refine xif_p h (fun c h => ?_) (fun c h => ?_)
  · skip
    exact u_X12_shrink_231 hS hR F k0 r0 h
  · skip
    refine xif_n h (fun c h => ?_) (fun c h => ?_)
    · skip
      exact u_X12_shrink_222 hS hR hrec_186 k0 k3 r0 h
    · skip
      refine xgrd_e h (fun g1 h => ?_)
      refine xgrd_e h (fun g2 h => ?_)
      refine xgrd_e h (fun g3 h => ?_)
      refine xlet_e h (fun D4 eD4 h => ?_)
      refine xfr_i (hR.1 k0 r0 2 100 rfl) eD4 ?_
      exact u_X12_shrink_222 hS hR hrec_186 k0 k3 r0 h
theorem u_X12_shrink_186 {F P : Nat} {S : xSt} (hS : xWF S) {Rg : Nat → Prop} (hR : xRC S Rg) : ∀ (n : Nat) {v0 : Nat} {v1 : Int64} {v3 : Nat} {v4 : Int32} {v5 : Int32} {D : xDt} {r : xDt}, xK S v0 12 → xK S v3 100 → Rg v0 → f_X12_shrink_186 F P S n v0 v1 v3 v4 v5 D = some r → xfr Rg D r := by
  intro n
  induction n with
  | zero => intros; rename_i h; cases h
  | succ n ih =>
    intro v0 v1 v3 v4 v5 D r k0 k3 r0 h
    exact u_X12_shrink_186s hS hR (fun k0 k3 r0 h => ih k0 k3 r0 h) k0 k3 r0 h

theorem u_X12_shrink_47s {F P : Nat} {S : xSt} (hS : xWF S) {Rg : Nat → Prop} (hR : xRC S Rg) {rec_47 : Nat → Int64 → Nat → Int32 → Int32 → xDt → Option (xDt)} (hrec_47 : ∀ {v0 : Nat} {v1 : Int64} {v3 : Nat} {v4 : Int32} {v5 : Int32} {D : xDt} {r : xDt}, xK S v0 12 → xK S v3 100 → Rg v0 → rec_47 v0 v1 v3 v4 v5 D = some r → xfr Rg D r) {v0 : Nat} {v1 : Int64} {v3 : Nat} {v4 : Int32} {v5 : Int32} {D : xDt} {r : xDt} (k0 : xK S v0 12) (k3 : xK S v3 100) (r0 : Rg v0) (h : f_X12_shrink_47s F P S rec_47 v0 v1 v3 v4 v5 D = some r) : xfr Rg D r := by
  unfold f_X12_shrink_47s at h
  refine xif_p h (fun c h => ?_) (fun c h => ?_)
  · skip
    exact u_X12_shrink_186 hS hR F k0 k3 r0 h
  · skip
    exact u_X12_shrink_56 hS hR hrec_47 F k0 k3 r0 h
theorem u_X12_shrink_47 {F P : Nat} {S : xSt} (hS : xWF S) {Rg : Nat → Prop} (hR : xRC S Rg) : ∀ (n : Nat) {v0 : Nat} {v1 : Int64} {v3 : Nat} {v4 : Int32} {v5 : Int32} {D : xDt} {r : xDt}, xK S v0 12 → xK S v3 100 → Rg v0 → f_X12_shrink_47 F P S n v0 v1 v3 v4 v5 D = some r → xfr Rg D r := by
  intro n
  induction n with
  | zero => intros; rename_i h; cases h
  | succ n ih =>
    intro v0 v1 v3 v4 v5 D r k0 k3 r0 h
    exact u_X12_shrink_47s hS hR (fun k0 k3 r0 h => ih k0 k3 r0 h) k0 k3 r0 h

theorem u_X12_shrink_11s {F P : Nat} {S : xSt} (hS : xWF S) {Rg : Nat → Prop} (hR : xRC S Rg) {rec_11 : Nat → Int64 → Nat → Int32 → Int32 → xDt → Option (xDt)} (hrec_11 : ∀ {v0 : Nat} {v1 : Int64} {v3 : Nat} {v4 : Int32} {v5 : Int32} {D : xDt} {r : xDt}, xK S v0 12 → xK S v3 100 → Rg v0 → Rg v3 → rec_11 v0 v1 v3 v4 v5 D = some r → xfr Rg D r) {v0 : Nat} {v1 : Int64} {v3 : Nat} {v4 : Int32} {v5 : Int32} {D : xDt} {r : xDt} (k0 : xK S v0 12) (k3 : xK S v3 100) (r0 : Rg v0) (r3 : Rg v3) (h : f_X12_shrink_11s F P S rec_11 v0 v1 v3 v4 v5 D = some r) : xfr Rg D r := by
  unfold f_X12_shrink_11s at h
  refine xif_p h (fun c h => ?_) (fun c h => ?_)
  · skip
    exact u_X12_shrink_47 hS hR F k0 k3 r0 h
  · skip
    refine xgrd_e h (fun g1 h => ?_)
    refine xlet_e h (fun D2 eD2 h => ?_)
    refine xfr_i r3 eD2 ?_
    refine xlet_e h (fun v4_3 ev4_3 h => ?_)
    refine xlet_e h (fun v5_4 ev5_4 h => ?_)
    exact hrec_11 k0 k3 r0 r3 h
theorem u_X12_shrink_11 {F P : Nat} {S : xSt} (hS : xWF S) {Rg : Nat → Prop} (hR : xRC S Rg) : ∀ (n : Nat) {v0 : Nat} {v1 : Int64} {v3 : Nat} {v4 : Int32} {v5 : Int32} {D : xDt} {r : xDt}, xK S v0 12 → xK S v3 100 → Rg v0 → Rg v3 → f_X12_shrink_11 F P S n v0 v1 v3 v4 v5 D = some r → xfr Rg D r := by
  intro n
  induction n with
  | zero => intros; rename_i h; cases h
  | succ n ih =>
    intro v0 v1 v3 v4 v5 D r k0 k3 r0 r3 h
    exact u_X12_shrink_11s hS hR (fun k0 k3 r0 r3 h => ih k0 k3 r0 r3 h) k0 k3 r0 r3 h

theorem U_X12_shrink {F P : Nat} {S : xSt} (hS : xWF S) {Rg : Nat → Prop} (hR : xRC S Rg) {v0 : Nat} {v1 : Int64} {D : xDt} {r : xDt} (k0 : xK S v0 12) (r0 : Rg v0) (h : f_X12_shrink F P S v0 v1 D = some r) : xfr Rg D r := by
  unfold f_X12_shrink at h
  exact u_X12_shrink_11 hS hR F k0 ((hS.f k0 22 100 rfl).2) r0 (hR.1 k0 r0 22 100 rfl) h

theorem U_X12_say {F P : Nat} {S : xSt} (hS : xWF S) {Rg : Nat → Prop} (hR : xRC S Rg) {v0 : Nat} {D : xDt} {r : Int32 × xDt} (k0 : xK S v0 12) (r0 : Rg v0) (h : f_X12_say F P S v0 D = some r) : xfr Rg D r.2 := by
  unfold f_X12_say at h
  refine xbnd_e h (fun q1 e1 h => ?_)
  refine xfr_tr (U_X12_all hS hR k0 e1) ?_
  refine xbnd_e h (fun q2 e2 h => ?_)
  refine xfr_tr (U_X12_where hS hR P k0 e2) ?_
  refine xif_n h (fun c h => ?_) (fun c h => ?_)
  · skip
    refine xbnd_e h (fun q3 e3 h => ?_)
    refine xfr_tr (U_X12_all hS hR k0 e3) ?_
    refine xif_p h (fun c h => ?_) (fun c h => ?_)
    · skip
      obtain rfl := Option.some.inj h
      exact xfr_rf
    · skip
      refine xbnd_e h (fun q4 e4 h => ?_)
      refine xfr_tr (U_X12_keep hS hR k0 r0 e4) ?_
      refine xbnd_e h (fun q5 e5 h => ?_)
      refine xfr_tr (U_X12_shrink hS hR k0 r0 e5) ?_
      obtain rfl := Option.some.inj h
      exact xfr_rf
  · skip
    obtain rfl := Option.some.inj h
    exact xfr_rf

theorem U_X12_isEvent {F P : Nat} {S : xSt} (hS : xWF S) {Rg : Nat → Prop} (hR : xRC S Rg) {v0 : Nat} {v1 : Int32} {D : xDt} {r : Int32 × xDt} (k0 : xK S v0 12) (h : f_X12_isEvent F P S v0 v1 D = some r) : xfr Rg D r.2 := by
  unfold f_X12_isEvent at h
  refine xbnd_e h (fun q1 e1 h => ?_)
  refine xfr_tr (U_X12_in hS hR e1) ?_
  refine xgrd_e h (fun g2 h => ?_)
  obtain rfl := Option.some.inj h
  exact xfr_rf

theorem u_X12_event_87s {F P : Nat} {S : xSt} (hS : xWF S) {Rg : Nat → Prop} (hR : xRC S Rg) {rec_87 : Nat → Int32 → xDt → Option (Int32 × xDt)} (hrec_87 : ∀ {v0 : Nat} {v1 : Int32} {D : xDt} {r : Int32 × xDt}, xK S v0 12 → Rg v0 → rec_87 v0 v1 D = some r → xfr Rg D r.2) {v0 : Nat} {v1 : Int32} {D : xDt} {r : Int32 × xDt} (k0 : xK S v0 12) (r0 : Rg v0) (h : f_X12_event_87s F P S rec_87 v0 v1 D = some r) : xfr Rg D r.2 := by
  unfold f_X12_event_87s at h
  refine xif_p h (fun c h => ?_) (fun c h => ?_)
  · skip
    refine xlet_e h (fun D1 eD1 h => ?_)
    refine xfr_i r0 eD1 ?_
    obtain rfl := Option.some.inj h
    exact xfr_rf
  · skip
    refine xgrd_e h (fun g2 h => ?_)
    refine xlet_e h (fun D3 eD3 h => ?_)
    refine xfr_i (hR.1 k0 r0 28 100 rfl) eD3 ?_
    refine xlet_e h (fun v1_4 ev1_4 h => ?_)
    exact hrec_87 k0 r0 h
theorem u_X12_event_87 {F P : Nat} {S : xSt} (hS : xWF S) {Rg : Nat → Prop} (hR : xRC S Rg) : ∀ (n : Nat) {v0 : Nat} {v1 : Int32} {D : xDt} {r : Int32 × xDt}, xK S v0 12 → Rg v0 → f_X12_event_87 F P S n v0 v1 D = some r → xfr Rg D r.2 := by
  intro n
  induction n with
  | zero => intros; rename_i h; cases h
  | succ n ih =>
    intro v0 v1 D r k0 r0 h
    exact u_X12_event_87s hS hR (fun k0 r0 h => ih k0 r0 h) k0 r0 h

theorem u_X12_event_57s {F P : Nat} {S : xSt} (hS : xWF S) {Rg : Nat → Prop} (hR : xRC S Rg) {rec_57 : Nat → Int32 → xDt → Option (Int32 × xDt)} (hrec_57 : ∀ {v0 : Nat} {v1 : Int32} {D : xDt} {r : Int32 × xDt}, xK S v0 12 → Rg v0 → rec_57 v0 v1 D = some r → xfr Rg D r.2) {v0 : Nat} {v1 : Int32} {D : xDt} {r : Int32 × xDt} (k0 : xK S v0 12) (r0 : Rg v0) (h : f_X12_event_57s F P S rec_57 v0 v1 D = some r) : xfr Rg D r.2 := by
  unfold f_X12_event_57s at h
  refine xif_p h (fun c h => ?_) (fun c h => ?_)
  · skip
    exact u_X12_event_87 hS hR F k0 r0 h
  · skip
    refine xgrd_e h (fun g1 h => ?_)
    refine xlet_e h (fun D2 eD2 h => ?_)
    refine xfr_i (hR.1 k0 r0 27 100 rfl) eD2 ?_
    refine xlet_e h (fun v1_3 ev1_3 h => ?_)
    exact hrec_57 k0 r0 h
theorem u_X12_event_57 {F P : Nat} {S : xSt} (hS : xWF S) {Rg : Nat → Prop} (hR : xRC S Rg) : ∀ (n : Nat) {v0 : Nat} {v1 : Int32} {D : xDt} {r : Int32 × xDt}, xK S v0 12 → Rg v0 → f_X12_event_57 F P S n v0 v1 D = some r → xfr Rg D r.2 := by
  intro n
  induction n with
  | zero => intros; rename_i h; cases h
  | succ n ih =>
    intro v0 v1 D r k0 r0 h
    exact u_X12_event_57s hS hR (fun k0 r0 h => ih k0 r0 h) k0 r0 h

theorem U_X12_event {F P : Nat} {S : xSt} (hS : xWF S) {Rg : Nat → Prop} (hR : xRC S Rg) {v0 : Nat} {D : xDt} {r : Int32 × xDt} (k0 : xK S v0 12) (r0 : Rg v0) (h : f_X12_event F P S v0 D = some r) : xfr Rg D r.2 := by
  unfold f_X12_event at h
  refine xif_p h (fun c h => ?_) (fun c h => ?_)
  · skip
    obtain rfl := Option.some.inj h
    exact xfr_rf
  · skip
    refine xgrd_e h (fun g1 h => ?_)
    refine xif_p h (fun c h => ?_) (fun c h => ?_)
    · skip
      refine xbnd_e h (fun q2 e2 h => ?_)
      refine xfr_tr (U_X12_laid hS hR k0 r0 e2) ?_
      refine xgrd_e h (fun g3 h => ?_)
      refine xlet_e h (fun D4 eD4 h => ?_)
      refine xfr_i (hR.1 k0 r0 26 100 rfl) eD4 ?_
      exact u_X12_event_57 hS hR F k0 r0 h
    · skip
      obtain rfl := Option.some.inj h
      exact xfr_rf

theorem u_X12_tieEvents_127 {F P : Nat} {S : xSt} (hS : xWF S) {Rg : Nat → Prop} (hR : xRC S Rg) {rec_61 : Nat → Int32 → Int32 → Int32 → Int32 → Int32 → xDt → Option (Int32 × xDt)} (hrec_61 : ∀ {v0 : Nat} {v4 : Int32} {v5 : Int32} {v6 : Int32} {v7 : Int32} {v8 : Int32} {D : xDt} {r : Int32 × xDt}, xK S v0 12 → Rg v0 → rec_61 v0 v4 v5 v6 v7 v8 D = some r → xfr Rg D r.2) {v0 : Nat} {v4 : Int32} {v5 : Int32} {v6 : Int32} {v7 : Int32} {v8 : Int32} {D : xDt} {r : Int32 × xDt} (k0 : xK S v0 12) (r0 : Rg v0) (h : f_X12_tieEvents_127 F P S rec_61 v0 v4 v5 v6 v7 v8 D = some r) : xfr Rg D r.2 := by
  unfold f_X12_tieEvents_127 at h
  refine xlet_e h (fun v8_1 ev8_1 h => ?_)
  exact hrec_61 k0 r0 h

theorem u_X12_tieEvents_123 {F P : Nat} {S : xSt} (hS : xWF S) {Rg : Nat → Prop} (hR : xRC S Rg) {rec_61 : Nat → Int32 → Int32 → Int32 → Int32 → Int32 → xDt → Option (Int32 × xDt)} (hrec_61 : ∀ {v0 : Nat} {v4 : Int32} {v5 : Int32} {v6 : Int32} {v7 : Int32} {v8 : Int32} {D : xDt} {r : Int32 × xDt}, xK S v0 12 → Rg v0 → rec_61 v0 v4 v5 v6 v7 v8 D = some r → xfr Rg D r.2) {v0 : Nat} {v4 : Int32} {v5 : Int32} {v6 : Int32} {v7 : Int32} {v8 : Int32} {s0 : Int32} {s1 : Int32} {s2 : Nat} {D : xDt} {r : Int32 × xDt} (k0 : xK S v0 12) (ks2 : xK S s2 100) (r0 : Rg v0) (rs2 : Rg s2) (h : f_X12_tieEvents_123 F P S rec_61 v0 v4 v5 v6 v7 v8 s0 s1 s2 D = some r) : xfr Rg D r.2 := by
  unfold f_X12_tieEvents_123 at h
  refine xgrd_e h (fun g1 h => ?_)
  refine xlet_e h (fun D2 eD2 h => ?_)
  refine xfr_i rs2 eD2 ?_
  refine xlet_e h (fun v7_3 ev7_3 h => ?_)
  exact u_X12_tieEvents_127 hS hR hrec_61 k0 r0 h

theorem u_X12_tieEvents_100 {F P : Nat} {S : xSt} (hS : xWF S) {Rg : Nat → Prop} (hR : xRC S Rg) {rec_61 : Nat → Int32 → Int32 → Int32 → Int32 → Int32 → xDt → Option (Int32 × xDt)} (hrec_61 : ∀ {v0 : Nat} {v4 : Int32} {v5 : Int32} {v6 : Int32} {v7 : Int32} {v8 : Int32} {D : xDt} {r : Int32 × xDt}, xK S v0 12 → Rg v0 → rec_61 v0 v4 v5 v6 v7 v8 D = some r → xfr Rg D r.2) {v0 : Nat} {v4 : Int32} {v5 : Int32} {v6 : Int32} {v7 : Int32} {v8 : Int32} {D : xDt} {r : Int32 × xDt} (k0 : xK S v0 12) (r0 : Rg v0) (h : f_X12_tieEvents_100 F P S rec_61 v0 v4 v5 v6 v7 v8 D = some r) : xfr Rg D r.2 := by
  unfold f_X12_tieEvents_100 at h
  refine xif_p h (fun c h => ?_) (fun c h => ?_)
  · skip
    exact u_X12_tieEvents_123 hS hR hrec_61 k0 ((hS.f k0 28 100 rfl).2) r0 (hR.1 k0 r0 28 100 rfl) h
  · skip
    exact u_X12_tieEvents_123 hS hR hrec_61 k0 ((hS.f k0 28 100 rfl).2) r0 (hR.1 k0 r0 28 100 rfl) h

theorem u_X12_tieEvents_61s {F P : Nat} {S : xSt} (hS : xWF S) {Rg : Nat → Prop} (hR : xRC S Rg) {rec_61 : Nat → Int32 → Int32 → Int32 → Int32 → Int32 → xDt → Option (Int32 × xDt)} (hrec_61 : ∀ {v0 : Nat} {v4 : Int32} {v5 : Int32} {v6 : Int32} {v7 : Int32} {v8 : Int32} {D : xDt} {r : Int32 × xDt}, xK S v0 12 → Rg v0 → rec_61 v0 v4 v5 v6 v7 v8 D = some r → xfr Rg D r.2) {v0 : Nat} {v4 : Int32} {v5 : Int32} {v6 : Int32} {v7 : Int32} {v8 : Int32} {D : xDt} {r : Int32 × xDt} (k0 : xK S v0 12) (r0 : Rg v0) (h : f_X12_tieEvents_61s F P S rec_61 v0 v4 v5 v6 v7 v8 D = some r) : xfr Rg D r.2 := by
  unfold f_X12_tieEvents_61s at h
  refine xif_p h (fun c h => ?_) (fun c h => ?_)
  · skip
    obtain rfl := Option.some.inj h
    exact xfr_rf
  · skip
    refine xgrd_e h (fun g1 h => ?_)
    refine xif_p h (fun c h => ?_) (fun c h => ?_)
    · skip
      exact u_X12_tieEvents_100 hS hR hrec_61 k0 r0 h
    · skip
      refine xgrd_e h (fun g2 h => ?_)
      refine xif_n h (fun c h => ?_) (fun c h => ?_)
      · skip
        exact u_X12_tieEvents_127 hS hR hrec_61 k0 r0 h
      · skip
        exact u_X12_tieEvents_100 hS hR hrec_61 k0 r0 h
theorem u_X12_tieEvents_61 {F P : Nat} {S : xSt} (hS : xWF S) {Rg : Nat → Prop} (hR : xRC S Rg) : ∀ (n : Nat) {v0 : Nat} {v4 : Int32} {v5 : Int32} {v6 : Int32} {v7 : Int32} {v8 : Int32} {D : xDt} {r : Int32 × xDt}, xK S v0 12 → Rg v0 → f_X12_tieEvents_61 F P S n v0 v4 v5 v6 v7 v8 D = some r → xfr Rg D r.2 := by
  intro n
  induction n with
  | zero => intros; rename_i h; cases h
  | succ n ih =>
    intro v0 v4 v5 v6 v7 v8 D r k0 r0 h
    exact u_X12_tieEvents_61s hS hR (fun k0 r0 h => ih k0 r0 h) k0 r0 h

theorem U_X12_tieEvents {F P : Nat} {S : xSt} (hS : xWF S) {Rg : Nat → Prop} (hR : xRC S Rg) {v0 : Nat} {v1 : Int32} {v2 : Int32} {v3 : Int32} {D : xDt} {r : Int32 × xDt} (k0 : xK S v0 12) (r0 : Rg v0) (h : f_X12_tieEvents F P S v0 v1 v2 v3 D = some r) : xfr Rg D r.2 := by
  unfold f_X12_tieEvents at h
  refine xbnd_e h (fun q1 e1 h => ?_)
  refine xfr_tr (U_X12_isAgent hS hR e1) ?_
  refine xif_p h (fun c h => ?_) (fun c h => ?_)
  · skip
    obtain rfl := Option.some.inj h
    exact xfr_rf
  · skip
    refine xbnd_e h (fun q2 e2 h => ?_)
    refine xfr_tr (U_X12_isEvent hS hR k0 e2) ?_
    refine xif_p h (fun c h => ?_) (fun c h => ?_)
    · skip
      obtain rfl := Option.some.inj h
      exact xfr_rf
    · skip
      refine xbnd_e h (fun q3 e3 h => ?_)
      refine xfr_tr (U_X12_isEvent hS hR k0 e3) ?_
      refine xif_n h (fun c h => ?_) (fun c h => ?_)
      · skip
        refine xlet_e h (fun v4_4 ev4_4 h => ?_)
        refine xgrd_e h (fun g5 h => ?_)
        refine xlet_e h (fun v5_6 ev5_6 h => ?_)
        refine xgrd_e h (fun g7 h => ?_)
        refine xlet_e h (fun v6_8 ev6_8 h => ?_)
        exact u_X12_tieEvents_61 hS hR F k0 r0 h
      · skip
        obtain rfl := Option.some.inj h
        exact xfr_rf

theorem U_X12_change {F P : Nat} {S : xSt} (hS : xWF S) {Rg : Nat → Prop} (hR : xRC S Rg) {v0 : Nat} {v1 : Int32} {v2 : Int32} {D : xDt} {r : Int32 × xDt} (k0 : xK S v0 12) (r0 : Rg v0) (h : f_X12_change F P S v0 v1 v2 D = some r) : xfr Rg D r.2 := by
  unfold f_X12_change at h
  refine xbnd_e h (fun q1 e1 h => ?_)
  refine xfr_tr (U_X12_isEvent hS hR k0 e1) ?_
  refine xif_p h (fun c h => ?_) (fun c h => ?_)
  · skip
    obtain rfl := Option.some.inj h
    exact xfr_rf
  · skip
    refine xbnd_e h (fun q2 e2 h => ?_)
    refine xfr_tr (U_X12_in hS hR e2) ?_
    refine xif_p h (fun c h => ?_) (fun c h => ?_)
    · skip
      obtain rfl := Option.some.inj h
      exact xfr_rf
    · skip
      refine xgrd_e h (fun g3 h => ?_)
      refine xif_p h (fun c h => ?_) (fun c h => ?_)
      · skip
        refine xbnd_e h (fun q4 e4 h => ?_)
        refine xfr_tr (U_X12_laid hS hR k0 r0 e4) ?_
        refine xgrd_e h (fun g5 h => ?_)
        refine xlet_e h (fun D6 eD6 h => ?_)
        refine xfr_i (hR.1 k0 r0 27 100 rfl) eD6 ?_
        obtain rfl := Option.some.inj h
        exact xfr_rf
      · skip
        obtain rfl := Option.some.inj h
        exact xfr_rf

theorem U_X12_noEvents {F P : Nat} {S : xSt} (hS : xWF S) {Rg : Nat → Prop} (hR : xRC S Rg) {v0 : Nat} {D : xDt} {r : Int32 × xDt} (k0 : xK S v0 12) (r0 : Rg v0) (h : f_X12_noEvents F P S v0 D = some r) : xfr Rg D r.2 := by
  unfold f_X12_noEvents at h
  refine xlet_e h (fun v1_1 ev1_1 h => ?_)
  refine xlet_e h (fun D2 eD2 h => ?_)
  refine xfr_i r0 eD2 ?_
  obtain rfl := Option.some.inj h
  exact xfr_rf

theorem u_X12_happen_103 {F P : Nat} {S : xSt} (hS : xWF S) {Rg : Nat → Prop} (hR : xRC S Rg) {rec_4 : Nat → Int32 → Int32 → xDt → Option (Int32 × xDt)} (hrec_4 : ∀ {v0 : Nat} {v1 : Int32} {v2 : Int32} {D : xDt} {r : Int32 × xDt}, xK S v0 12 → Rg v0 → rec_4 v0 v1 v2 D = some r → xfr Rg D r.2) {rec_46 : Nat → Int32 → Int32 → Int32 → xDt → Option (Int32 × xDt)} (hrec_46 : ∀ {v0 : Nat} {v1 : Int32} {v2 : Int32} {v3 : Int32} {D : xDt} {r : Int32 × xDt}, xK S v0 12 → Rg v0 → rec_46 v0 v1 v2 v3 D = some r → xfr Rg D r.2) {v0 : Nat} {v1 : Int32} {v2 : Int32} {v3 : Int32} {s0 : Int64} {s1 : Int32} {s2 : Nat} {D : xDt} {r : Int32 × xDt} (k0 : xK S v0 12) (ks2 : xK S s2 101) (r0 : Rg v0) (rs2 : Rg s2) (h : f_X12_happen_103 F P S rec_4 rec_46 v0 v1 v2 v3 s0 s1 s2 D = some r) : xfr Rg D r.2 := by
  unfold f_X12_happen_103 at h
  refine xgrd_e h (fun g1 h => ?_)
  refine xlet_e h (fun D2 eD2 h => ?_)
  refine xfr_l rs2 eD2 ?_
  refine xlet_e h (fun v3_3 ev3_3 h => ?_)
  exact hrec_46 k0 r0 h

theorem u_X12_happen_46s {F P : Nat} {S : xSt} (hS : xWF S) {Rg : Nat → Prop} (hR : xRC S Rg) {rec_4 : Nat → Int32 → Int32 → xDt → Option (Int32 × xDt)} (hrec_4 : ∀ {v0 : Nat} {v1 : Int32} {v2 : Int32} {D : xDt} {r : Int32 × xDt}, xK S v0 12 → Rg v0 → rec_4 v0 v1 v2 D = some r → xfr Rg D r.2) {rec_46 : Nat → Int32 → Int32 → Int32 → xDt → Option (Int32 × xDt)} (hrec_46 : ∀ {v0 : Nat} {v1 : Int32} {v2 : Int32} {v3 : Int32} {D : xDt} {r : Int32 × xDt}, xK S v0 12 → Rg v0 → rec_46 v0 v1 v2 v3 D = some r → xfr Rg D r.2) {v0 : Nat} {v1 : Int32} {v2 : Int32} {v3 : Int32} {D : xDt} {r : Int32 × xDt} (k0 : xK S v0 12) (r0 : Rg v0) (h : f_X12_happen_46s F P S rec_4 rec_46 v0 v1 v2 v3 D = some r) : xfr Rg D r.2 := by
  unfold f_X12_happen_46s at h
  refine xif_p h (fun c h => ?_) (fun c h => ?_)
  · skip
    refine xlet_e h (fun v2_1 ev2_1 h => ?_)
    exact hrec_4 k0 r0 h
  · skip
    refine xgrd_e h (fun g2 h => ?_)
    refine xif_p h (fun c h => ?_) (fun c h => ?_)
    · skip
      refine xgrd_e h (fun g3 h => ?_)
      refine xbnd_e h (fun q4 e4 h => ?_)
      refine xfr_tr (U_X12_all hS hR k0 e4) ?_
      refine xbnd_e h (fun q5 e5 h => ?_)
      refine xfr_tr (U_X12_where hS hR P k0 e5) ?_
      exact u_X12_happen_103 hS hR hrec_4 hrec_46 k0 ((hS.f k0 30 101 rfl).2) r0 (hR.1 k0 r0 30 101 rfl) h
    · skip
      refine xbnd_e h (fun q6 e6 h => ?_)
      refine xfr_tr (U_X12_ofAtom hS hR k0 e6) ?_
      exact u_X12_happen_103 hS hR hrec_4 hrec_46 k0 ((hS.f k0 30 101 rfl).2) r0 (hR.1 k0 r0 30 101 rfl) h
theorem u_X12_happen_46 {F P : Nat} {S : xSt} (hS : xWF S) {Rg : Nat → Prop} (hR : xRC S Rg) {rec_4 : Nat → Int32 → Int32 → xDt → Option (Int32 × xDt)} (hrec_4 : ∀ {v0 : Nat} {v1 : Int32} {v2 : Int32} {D : xDt} {r : Int32 × xDt}, xK S v0 12 → Rg v0 → rec_4 v0 v1 v2 D = some r → xfr Rg D r.2) : ∀ (n : Nat) {v0 : Nat} {v1 : Int32} {v2 : Int32} {v3 : Int32} {D : xDt} {r : Int32 × xDt}, xK S v0 12 → Rg v0 → f_X12_happen_46 F P S rec_4 n v0 v1 v2 v3 D = some r → xfr Rg D r.2 := by
  intro n
  induction n with
  | zero => intros; rename_i h; cases h
  | succ n ih =>
    intro v0 v1 v2 v3 D r k0 r0 h
    exact u_X12_happen_46s hS hR hrec_4 (fun k0 r0 h => ih k0 r0 h) k0 r0 h

theorem u_X12_happen_126 {F P : Nat} {S : xSt} (hS : xWF S) {Rg : Nat → Prop} (hR : xRC S Rg) {v1 : Int32} {D : xDt} {r : Int32 × xDt} (h : f_X12_happen_126 F P S v1 D = some r) : xfr Rg D r.2 := by
  unfold f_X12_happen_126 at h
  refine xif_n h (fun c h => ?_) (fun c h => ?_)
  · skip
    obtain rfl := Option.some.inj h
    exact xfr_rf
  · skip
    obtain rfl := Option.some.inj h
    exact xfr_rf

theorem u_X12_happen_250 {F P : Nat} {S : xSt} (hS : xWF S) {Rg : Nat → Prop} (hR : xRC S Rg) {rec_145 : Nat → Int32 → Int32 → Int32 → xDt → Option (Int32 × xDt)} (hrec_145 : ∀ {v0 : Nat} {v1 : Int32} {v2 : Int32} {v3 : Int32} {D : xDt} {r : Int32 × xDt}, xK S v0 12 → Rg v0 → rec_145 v0 v1 v2 v3 D = some r → xfr Rg D r.2) {rec_156 : Nat → Int32 → Int32 → Int32 → Int32 → xDt → Option (Int32 × xDt)} (hrec_156 : ∀ {v0 : Nat} {v1 : Int32} {v2 : Int32} {v3 : Int32} {v4 : Int32} {D : xDt} {r : Int32 × xDt}, xK S v0 12 → Rg v0 → rec_156 v0 v1 v2 v3 v4 D = some r → xfr Rg D r.2) {rec_206 : Nat → Int32 → Int32 → Int32 → Int32 → Int32 → xDt → Option (Int32 × xDt)} (hrec_206 : ∀ {v0 : Nat} {v1 : Int32} {v2 : Int32} {v3 : Int32} {v4 : Int32} {v5 : Int32} {D : xDt} {r : Int32 × xDt}, xK S v0 12 → Rg v0 → rec_206 v0 v1 v2 v3 v4 v5 D = some r → xfr Rg D r.2) {v0 : Nat} {v1 : Int32} {v2 : Int32} {v3 : Int32} {v4 : Int32} {v5 : Int32} {s0 : Int32} {s1 : Int32} {s2 : Int32} {s3 : Nat} {D : xDt} {r : Int32 × xDt} (k0 : xK S v0 12) (ks3 : xK S s3 100) (r0 : Rg v0) (rs3 : Rg s3) (h : f_X12_happen_250 F P S rec_145 rec_156 rec_206 v0 v1 v2 v3 v4 v5 s0 s1 s2 s3 D = some r) : xfr Rg D r.2 := by
  unfold f_X12_happen_250 at h
  refine xgrd_e h (fun g1 h => ?_)
  refine xlet_e h (fun D2 eD2 h => ?_)
  refine xfr_i rs3 eD2 ?_
  refine xlet_e h (fun v5_3 ev5_3 h => ?_)
  exact hrec_206 k0 r0 h

theorem u_X12_happen_261 {F P : Nat} {S : xSt} (hS : xWF S) {Rg : Nat → Prop} (hR : xRC S Rg) {rec_145 : Nat → Int32 → Int32 → Int32 → xDt → Option (Int32 × xDt)} (hrec_145 : ∀ {v0 : Nat} {v1 : Int32} {v2 : Int32} {v3 : Int32} {D : xDt} {r : Int32 × xDt}, xK S v0 12 → Rg v0 → rec_145 v0 v1 v2 v3 D = some r → xfr Rg D r.2) {rec_156 : Nat → Int32 → Int32 → Int32 → Int32 → xDt → Option (Int32 × xDt)} (hrec_156 : ∀ {v0 : Nat} {v1 : Int32} {v2 : Int32} {v3 : Int32} {v4 : Int32} {D : xDt} {r : Int32 × xDt}, xK S v0 12 → Rg v0 → rec_156 v0 v1 v2 v3 v4 D = some r → xfr Rg D r.2) {v0 : Nat} {v1 : Int32} {v2 : Int32} {v3 : Int32} {v4 : Int32} {D : xDt} {r : Int32 × xDt} (k0 : xK S v0 12) (r0 : Rg v0) (h : f_X12_happen_261 F P S rec_145 rec_156 v0 v1 v2 v3 v4 D = some r) : xfr Rg D r.2 := by
  unfold f_X12_happen_261 at h
  refine xlet_e h (fun v4_1 ev4_1 h => ?_)
  exact hrec_156 k0 r0 h

theorem u_X12_happen_206s {F P : Nat} {S : xSt} (hS : xWF S) {Rg : Nat → Prop} (hR : xRC S Rg) {rec_145 : Nat → Int32 → Int32 → Int32 → xDt → Option (Int32 × xDt)} (hrec_145 : ∀ {v0 : Nat} {v1 : Int32} {v2 : Int32} {v3 : Int32} {D : xDt} {r : Int32 × xDt}, xK S v0 12 → Rg v0 → rec_145 v0 v1 v2 v3 D = some r → xfr Rg D r.2) {rec_156 : Nat → Int32 → Int32 → Int32 → Int32 → xDt → Option (Int32 × xDt)} (hrec_156 : ∀ {v0 : Nat} {v1 : Int32} {v2 : Int32} {v3 : Int32} {v4 : Int32} {D : xDt} {r : Int32 × xDt}, xK S v0 12 → Rg v0 → rec_156 v0 v1 v2 v3 v4 D = some r → xfr Rg D r.2) {rec_206 : Nat → Int32 → Int32 → Int32 → Int32 → Int32 → xDt → Option (Int32 × xDt)} (hrec_206 : ∀ {v0 : Nat} {v1 : Int32} {v2 : Int32} {v3 : Int32} {v4 : Int32} {v5 : Int32} {D : xDt} {r : Int32 × xDt}, xK S v0 12 → Rg v0 → rec_206 v0 v1 v2 v3 v4 v5 D = some r → xfr Rg D r.2) {v0 : Nat} {v1 : Int32} {v2 : Int32} {v3 : Int32} {v4 : Int32} {v5 : Int32} {D : xDt} {r : Int32 × xDt} (k0 : xK S v0 12) (r0 : Rg v0) (h : f_X12_happen_206s F P S rec_145 rec_156 rec_206 v0 v1 v2 v3 v4 v5 D = some r) : xfr Rg D r.2 := by
  unfold f_X12_happen_206s at h
  refine xif_p h (fun c h => ?_) (fun c h => ?_)
  · skip
    refine xlet_e h (fun v2_1 ev2_1 h => ?_)
    exact u_X12_happen_261 hS hR hrec_145 hrec_156 k0 r0 h
  · skip
    refine xgrd_e h (fun g2 h => ?_)
    refine xgrd_e h (fun g3 h => ?_)
    refine xif_n h (fun c h => ?_) (fun c h => ?_)
    · skip
      exact u_X12_happen_250 hS hR hrec_145 hrec_156 hrec_206 k0 ((hS.f k0 33 100 rfl).2) r0 (hR.1 k0 r0 33 100 rfl) h
    · skip
      exact u_X12_happen_250 hS hR hrec_145 hrec_156 hrec_206 k0 ((hS.f k0 33 100 rfl).2) r0 (hR.1 k0 r0 33 100 rfl) h
theorem u_X12_happen_206 {F P : Nat} {S : xSt} (hS : xWF S) {Rg : Nat → Prop} (hR : xRC S Rg) {rec_145 : Nat → Int32 → Int32 → Int32 → xDt → Option (Int32 × xDt)} (hrec_145 : ∀ {v0 : Nat} {v1 : Int32} {v2 : Int32} {v3 : Int32} {D : xDt} {r : Int32 × xDt}, xK S v0 12 → Rg v0 → rec_145 v0 v1 v2 v3 D = some r → xfr Rg D r.2) {rec_156 : Nat → Int32 → Int32 → Int32 → Int32 → xDt → Option (Int32 × xDt)} (hrec_156 : ∀ {v0 : Nat} {v1 : Int32} {v2 : Int32} {v3 : Int32} {v4 : Int32} {D : xDt} {r : Int32 × xDt}, xK S v0 12 → Rg v0 → rec_156 v0 v1 v2 v3 v4 D = some r → xfr Rg D r.2) : ∀ (n : Nat) {v0 : Nat} {v1 : Int32} {v2 : Int32} {v3 : Int32} {v4 : Int32} {v5 : Int32} {D : xDt} {r : Int32 × xDt}, xK S v0 12 → Rg v0 → f_X12_happen_206 F P S rec_145 rec_156 n v0 v1 v2 v3 v4 v5 D = some r → xfr Rg D r.2 := by
  intro n
  induction n with
  | zero => intros; rename_i h; cases h
  | succ n ih =>
    intro v0 v1 v2 v3 v4 v5 D r k0 r0 h
    exact u_X12_happen_206s hS hR hrec_145 hrec_156 (fun k0 r0 h => ih k0 r0 h) k0 r0 h

theorem u_X12_happen_156s {F P : Nat} {S : xSt} (hS : xWF S) {Rg : Nat → Prop} (hR : xRC S Rg) {rec_145 : Nat → Int32 → Int32 → Int32 → xDt → Option (Int32 × xDt)} (hrec_145 : ∀ {v0 : Nat} {v1 : Int32} {v2 : Int32} {v3 : Int32} {D : xDt} {r : Int32 × xDt}, xK S v0 12 → Rg v0 → rec_145 v0 v1 v2 v3 D = some r → xfr Rg D r.2) {rec_156 : Nat → Int32 → Int32 → Int32 → Int32 → xDt → Option (Int32 × xDt)} (hrec_156 : ∀ {v0 : Nat} {v1 : Int32} {v2 : Int32} {v3 : Int32} {v4 : Int32} {D : xDt} {r : Int32 × xDt}, xK S v0 12 → Rg v0 → rec_156 v0 v1 v2 v3 v4 D = some r → xfr Rg D r.2) {v0 : Nat} {v1 : Int32} {v2 : Int32} {v3 : Int32} {v4 : Int32} {D : xDt} {r : Int32 × xDt} (k0 : xK S v0 12) (r0 : Rg v0) (h : f_X12_happen_156s F P S rec_145 rec_156 v0 v1 v2 v3 v4 D = some r) : xfr Rg D r.2 := by
  unfold f_X12_happen_156s at h
  refine xif_p h (fun c h => ?_) (fun c h => ?_)
  · skip
    refine xlet_e h (fun v3_1 ev3_1 h => ?_)
    exact hrec_145 k0 r0 h
  · skip
    refine xgrd_e h (fun g2 h => ?_)
    refine xif_n h (fun c h => ?_) (fun c h => ?_)
    · skip
      exact u_X12_happen_261 hS hR hrec_145 hrec_156 k0 r0 h
    · skip
      refine xgrd_e h (fun g3 h => ?_)
      refine xlet_e h (fun D4 eD4 h => ?_)
      refine xfr_i (hR.1 k0 r0 31 100 rfl) eD4 ?_
      refine xgrd_e h (fun g5 h => ?_)
      refine xlet_e h (fun D6 eD6 h => ?_)
      refine xfr_i (hR.1 k0 r0 32 100 rfl) eD6 ?_
      refine xgrd_e h (fun g7 h => ?_)
      refine xlet_e h (fun D8 eD8 h => ?_)
      refine xfr_i (hR.1 k0 r0 33 100 rfl) eD8 ?_
      exact u_X12_happen_206 hS hR hrec_145 hrec_156 F k0 r0 h
theorem u_X12_happen_156 {F P : Nat} {S : xSt} (hS : xWF S) {Rg : Nat → Prop} (hR : xRC S Rg) {rec_145 : Nat → Int32 → Int32 → Int32 → xDt → Option (Int32 × xDt)} (hrec_145 : ∀ {v0 : Nat} {v1 : Int32} {v2 : Int32} {v3 : Int32} {D : xDt} {r : Int32 × xDt}, xK S v0 12 → Rg v0 → rec_145 v0 v1 v2 v3 D = some r → xfr Rg D r.2) : ∀ (n : Nat) {v0 : Nat} {v1 : Int32} {v2 : Int32} {v3 : Int32} {v4 : Int32} {D : xDt} {r : Int32 × xDt}, xK S v0 12 → Rg v0 → f_X12_happen_156 F P S rec_145 n v0 v1 v2 v3 v4 D = some r → xfr Rg D r.2 := by
  intro n
  induction n with
  | zero => intros; rename_i h; cases h
  | succ n ih =>
    intro v0 v1 v2 v3 v4 D r k0 r0 h
    exact u_X12_happen_156s hS hR hrec_145 (fun k0 r0 h => ih k0 r0 h) k0 r0 h

theorem u_X12_happen_395 {F P : Nat} {S : xSt} (hS : xWF S) {Rg : Nat → Prop} (hR : xRC S Rg) {rec_275 : Nat → Int32 → Int32 → xDt → Option (Int32 × xDt)} (hrec_275 : ∀ {v0 : Nat} {v1 : Int32} {v3 : Int32} {D : xDt} {r : Int32 × xDt}, xK S v0 12 → Rg v0 → rec_275 v0 v1 v3 D = some r → xfr Rg D r.2) {rec_283 : Nat → Int32 → Int32 → Int32 → xDt → Option (Int32 × xDt)} (hrec_283 : ∀ {v0 : Nat} {v1 : Int32} {v3 : Int32} {v4 : Int32} {D : xDt} {r : Int32 × xDt}, xK S v0 12 → Rg v0 → rec_283 v0 v1 v3 v4 D = some r → xfr Rg D r.2) {rec_297 : Nat → Int32 → Int32 → Int32 → Int32 → Int32 → xDt → Option (Int32 × xDt)} (hrec_297 : ∀ {v0 : Nat} {v1 : Int32} {v3 : Int32} {v4 : Int32} {v5 : Int32} {v6 : Int32} {D : xDt} {r : Int32 × xDt}, xK S v0 12 → Rg v0 → rec_297 v0 v1 v3 v4 v5 v6 D = some r → xfr Rg D r.2) {v0 : Nat} {v1 : Int32} {v3 : Int32} {v4 : Int32} {v6 : Int32} {s0 : Int32} {D : xDt} {r : Int32 × xDt} (k0 : xK S v0 12) (r0 : Rg v0) (h : f_X12_happen_395 F P S rec_275 rec_283 rec_297 v0 v1 v3 v4 v6 s0 D = some r) : xfr Rg D r.2 := by
  unfold f_X12_happen_395 at h
  refine xlet_e h (fun v6_1 ev6_1 h => ?_)
  exact hrec_297 k0 r0 h

theorem u_X12_happen_381 {F P : Nat} {S : xSt} (hS : xWF S) {Rg : Nat → Prop} (hR : xRC S Rg) {rec_275 : Nat → Int32 → Int32 → xDt → Option (Int32 × xDt)} (hrec_275 : ∀ {v0 : Nat} {v1 : Int32} {v3 : Int32} {D : xDt} {r : Int32 × xDt}, xK S v0 12 → Rg v0 → rec_275 v0 v1 v3 D = some r → xfr Rg D r.2) {rec_283 : Nat → Int32 → Int32 → Int32 → xDt → Option (Int32 × xDt)} (hrec_283 : ∀ {v0 : Nat} {v1 : Int32} {v3 : Int32} {v4 : Int32} {D : xDt} {r : Int32 × xDt}, xK S v0 12 → Rg v0 → rec_283 v0 v1 v3 v4 D = some r → xfr Rg D r.2) {rec_297 : Nat → Int32 → Int32 → Int32 → Int32 → Int32 → xDt → Option (Int32 × xDt)} (hrec_297 : ∀ {v0 : Nat} {v1 : Int32} {v3 : Int32} {v4 : Int32} {v5 : Int32} {v6 : Int32} {D : xDt} {r : Int32 × xDt}, xK S v0 12 → Rg v0 → rec_297 v0 v1 v3 v4 v5 v6 D = some r → xfr Rg D r.2) {v0 : Nat} {v1 : Int32} {v3 : Int32} {v4 : Int32} {v5 : Int32} {v6 : Int32} {s0 : Int32} {D : xDt} {r : Int32 × xDt} (k0 : xK S v0 12) (r0 : Rg v0) (h : f_X12_happen_381 F P S rec_275 rec_283 rec_297 v0 v1 v3 v4 v5 v6 s0 D = some r) : xfr Rg D r.2 := by
  unfold f_X12_happen_381 at h
  refine xif_p h (fun c h => ?_) (fun c h => ?_)
  · skip
    exact u_X12_happen_395 hS hR hrec_275 hrec_283 hrec_297 k0 r0 h
  · skip
    exact u_X12_happen_395 hS hR hrec_275 hrec_283 hrec_297 k0 r0 h

theorem u_X12_happen_380 {F P : Nat} {S : xSt} (hS : xWF S) {Rg : Nat → Prop} (hR : xRC S Rg) {rec_275 : Nat → Int32 → Int32 → xDt → Option (Int32 × xDt)} (hrec_275 : ∀ {v0 : Nat} {v1 : Int32} {v3 : Int32} {D : xDt} {r : Int32 × xDt}, xK S v0 12 → Rg v0 → rec_275 v0 v1 v3 D = some r → xfr Rg D r.2) {rec_283 : Nat → Int32 → Int32 → Int32 → xDt → Option (Int32 × xDt)} (hrec_283 : ∀ {v0 : Nat} {v1 : Int32} {v3 : Int32} {v4 : Int32} {D : xDt} {r : Int32 × xDt}, xK S v0 12 → Rg v0 → rec_283 v0 v1 v3 v4 D = some r → xfr Rg D r.2) {rec_297 : Nat → Int32 → Int32 → Int32 → Int32 → Int32 → xDt → Option (Int32 × xDt)} (hrec_297 : ∀ {v0 : Nat} {v1 : Int32} {v3 : Int32} {v4 : Int32} {v5 : Int32} {v6 : Int32} {D : xDt} {r : Int32 × xDt}, xK S v0 12 → Rg v0 → rec_297 v0 v1 v3 v4 v5 v6 D = some r → xfr Rg D r.2) {v0 : Nat} {v1 : Int32} {v3 : Int32} {v4 : Int32} {v5 : Int32} {v6 : Int32} {D : xDt} {r : Int32 × xDt} (k0 : xK S v0 12) (r0 : Rg v0) (h : f_X12_happen_380 F P S rec_275 rec_283 rec_297 v0 v1 v3 v4 v5 v6 D = some r) : xfr Rg D r.2 := by
  unfold f_X12_happen_380 at h
  exact u_X12_happen_381 hS hR hrec_275 hrec_283 hrec_297 k0 r0 h

theorem u_X12_happen_297s {F P : Nat} {S : xSt} (hS : xWF S) {Rg : Nat → Prop} (hR : xRC S Rg) {rec_275 : Nat → Int32 → Int32 → xDt → Option (Int32 × xDt)} (hrec_275 : ∀ {v0 : Nat} {v1 : Int32} {v3 : Int32} {D : xDt} {r : Int32 × xDt}, xK S v0 12 → Rg v0 → rec_275 v0 v1 v3 D = some r → xfr Rg D r.2) {rec_283 : Nat → Int32 → Int32 → Int32 → xDt → Option (Int32 × xDt)} (hrec_283 : ∀ {v0 : Nat} {v1 : Int32} {v3 : Int32} {v4 : Int32} {D : xDt} {r : Int32 × xDt}, xK S v0 12 → Rg v0 → rec_283 v0 v1 v3 v4 D = some r → xfr Rg D r.2) {rec_297 : Nat → Int32 → Int32 → Int32 → Int32 → Int32 → xDt → Option (Int32 × xDt)} (hrec_297 : ∀ {v0 : Nat} {v1 : Int32} {v3 : Int32} {v4 : Int32} {v5 : Int32} {v6 : Int32} {D : xDt} {r : Int32 × xDt}, xK S v0 12 → Rg v0 → rec_297 v0 v1 v3 v4 v5 v6 D = some r → xfr Rg D r.2) {v0 : Nat} {v1 : Int32} {v3 : Int32} {v4 : Int32} {v5 : Int32} {v6 : Int32} {D : xDt} {r : Int32 × xDt} (k0 : xK S v0 12) (r0 : Rg v0) (h : f_X12_happen_297s F P S rec_275 rec_283 rec_297 v0 v1 v3 v4 v5 v6 D = some r) : xfr Rg D r.2 := by
  unfold f_X12_happen_297s at h
  refine xif_p h (fun c h => ?_) (fun c h => ?_)
  · skip
    refine xgrd_e h (fun g1 h => ?_)
    refine xlet_e h (fun D2 eD2 h => ?_)
    refine xfr_i (hR.1 k0 r0 24 100 rfl) eD2 ?_
    refine xlet_e h (fun v4_3 ev4_3 h => ?_)
    exact hrec_283 k0 r0 h
  · skip
    refine xgrd_e h (fun g4 h => ?_)
    refine xgrd_e h (fun g5 h => ?_)
    refine xgrd_e h (fun g6 h => ?_)
    refine xgrd_e h (fun g7 h => ?_)
    refine xif_n h (fun c h => ?_) (fun c h => ?_)
    · skip
      exact u_X12_happen_380 hS hR hrec_275 hrec_283 hrec_297 k0 r0 h
    · skip
      refine xgrd_e h (fun g8 h => ?_)
      refine xgrd_e h (fun g9 h => ?_)
      refine xgrd_e h (fun g10 h => ?_)
      refine xgrd_e h (fun g11 h => ?_)
      refine xif_n h (fun c h => ?_) (fun c h => ?_)
      · skip
        exact u_X12_happen_380 hS hR hrec_275 hrec_283 hrec_297 k0 r0 h
      · skip
        exact u_X12_happen_381 hS hR hrec_275 hrec_283 hrec_297 k0 r0 h
theorem u_X12_happen_297 {F P : Nat} {S : xSt} (hS : xWF S) {Rg : Nat → Prop} (hR : xRC S Rg) {rec_275 : Nat → Int32 → Int32 → xDt → Option (Int32 × xDt)} (hrec_275 : ∀ {v0 : Nat} {v1 : Int32} {v3 : Int32} {D : xDt} {r : Int32 × xDt}, xK S v0 12 → Rg v0 → rec_275 v0 v1 v3 D = some r → xfr Rg D r.2) {rec_283 : Nat → Int32 → Int32 → Int32 → xDt → Option (Int32 × xDt)} (hrec_283 : ∀ {v0 : Nat} {v1 : Int32} {v3 : Int32} {v4 : Int32} {D : xDt} {r : Int32 × xDt}, xK S v0 12 → Rg v0 → rec_283 v0 v1 v3 v4 D = some r → xfr Rg D r.2) : ∀ (n : Nat) {v0 : Nat} {v1 : Int32} {v3 : Int32} {v4 : Int32} {v5 : Int32} {v6 : Int32} {D : xDt} {r : Int32 × xDt}, xK S v0 12 → Rg v0 → f_X12_happen_297 F P S rec_275 rec_283 n v0 v1 v3 v4 v5 v6 D = some r → xfr Rg D r.2 := by
  intro n
  induction n with
  | zero => intros; rename_i h; cases h
  | succ n ih =>
    intro v0 v1 v3 v4 v5 v6 D r k0 r0 h
    exact u_X12_happen_297s hS hR hrec_275 hrec_283 (fun k0 r0 h => ih k0 r0 h) k0 r0 h

theorem u_X12_happen_283s {F P : Nat} {S : xSt} (hS : xWF S) {Rg : Nat → Prop} (hR : xRC S Rg) {rec_275 : Nat → Int32 → Int32 → xDt → Option (Int32 × xDt)} (hrec_275 : ∀ {v0 : Nat} {v1 : Int32} {v3 : Int32} {D : xDt} {r : Int32 × xDt}, xK S v0 12 → Rg v0 → rec_275 v0 v1 v3 D = some r → xfr Rg D r.2) {rec_283 : Nat → Int32 → Int32 → Int32 → xDt → Option (Int32 × xDt)} (hrec_283 : ∀ {v0 : Nat} {v1 : Int32} {v3 : Int32} {v4 : Int32} {D : xDt} {r : Int32 × xDt}, xK S v0 12 → Rg v0 → rec_283 v0 v1 v3 v4 D = some r → xfr Rg D r.2) {v0 : Nat} {v1 : Int32} {v3 : Int32} {v4 : Int32} {D : xDt} {r : Int32 × xDt} (k0 : xK S v0 12) (r0 : Rg v0) (h : f_X12_happen_283s F P S rec_275 rec_283 v0 v1 v3 v4 D = some r) : xfr Rg D r.2 := by
  unfold f_X12_happen_283s at h
  refine xif_p h (fun c h => ?_) (fun c h => ?_)
  · skip
    refine xlet_e h (fun v3_1 ev3_1 h => ?_)
    exact hrec_275 k0 r0 h
  · skip
    exact u_X12_happen_297 hS hR hrec_275 hrec_283 F k0 r0 h
theorem u_X12_happen_283 {F P : Nat} {S : xSt} (hS : xWF S) {Rg : Nat → Prop} (hR : xRC S Rg) {rec_275 : Nat → Int32 → Int32 → xDt → Option (Int32 × xDt)} (hrec_275 : ∀ {v0 : Nat} {v1 : Int32} {v3 : Int32} {D : xDt} {r : Int32 × xDt}, xK S v0 12 → Rg v0 → rec_275 v0 v1 v3 D = some r → xfr Rg D r.2) : ∀ (n : Nat) {v0 : Nat} {v1 : Int32} {v3 : Int32} {v4 : Int32} {D : xDt} {r : Int32 × xDt}, xK S v0 12 → Rg v0 → f_X12_happen_283 F P S rec_275 n v0 v1 v3 v4 D = some r → xfr Rg D r.2 := by
  intro n
  induction n with
  | zero => intros; rename_i h; cases h
  | succ n ih =>
    intro v0 v1 v3 v4 D r k0 r0 h
    exact u_X12_happen_283s hS hR hrec_275 (fun k0 r0 h => ih k0 r0 h) k0 r0 h

theorem u_X12_happen_463s {F P : Nat} {S : xSt} (hS : xWF S) {Rg : Nat → Prop} (hR : xRC S Rg) {rec_463 : Nat → Int32 → Int32 → xDt → Option (Int32 × xDt)} (hrec_463 : ∀ {v0 : Nat} {v1 : Int32} {v3 : Int32} {D : xDt} {r : Int32 × xDt}, xK S v0 12 → Rg v0 → rec_463 v0 v1 v3 D = some r → xfr Rg D r.2) {v0 : Nat} {v1 : Int32} {v3 : Int32} {D : xDt} {r : Int32 × xDt} (k0 : xK S v0 12) (r0 : Rg v0) (h : f_X12_happen_463s F P S rec_463 v0 v1 v3 D = some r) : xfr Rg D r.2 := by
  unfold f_X12_happen_463s at h
  refine xif_p h (fun c h => ?_) (fun c h => ?_)
  · skip
    obtain rfl := Option.some.inj h
    exact xfr_rf
  · skip
    refine xgrd_e h (fun g1 h => ?_)
    refine xgrd_e h (fun g2 h => ?_)
    refine xlet_e h (fun D3 eD3 h => ?_)
    refine xfr_i (hR.1 k0 r0 2 100 rfl) eD3 ?_
    refine xlet_e h (fun v3_4 ev3_4 h => ?_)
    exact hrec_463 k0 r0 h
theorem u_X12_happen_463 {F P : Nat} {S : xSt} (hS : xWF S) {Rg : Nat → Prop} (hR : xRC S Rg) : ∀ (n : Nat) {v0 : Nat} {v1 : Int32} {v3 : Int32} {D : xDt} {r : Int32 × xDt}, xK S v0 12 → Rg v0 → f_X12_happen_463 F P S n v0 v1 v3 D = some r → xfr Rg D r.2 := by
  intro n
  induction n with
  | zero => intros; rename_i h; cases h
  | succ n ih =>
    intro v0 v1 v3 D r k0 r0 h
    exact u_X12_happen_463s hS hR (fun k0 r0 h => ih k0 r0 h) k0 r0 h

theorem u_X12_happen_436s {F P : Nat} {S : xSt} (hS : xWF S) {Rg : Nat → Prop} (hR : xRC S Rg) {rec_436 : Nat → Int32 → Int32 → xDt → Option (Int32 × xDt)} (hrec_436 : ∀ {v0 : Nat} {v1 : Int32} {v3 : Int32} {D : xDt} {r : Int32 × xDt}, xK S v0 12 → Rg v0 → rec_436 v0 v1 v3 D = some r → xfr Rg D r.2) {v0 : Nat} {v1 : Int32} {v3 : Int32} {D : xDt} {r : Int32 × xDt} (k0 : xK S v0 12) (r0 : Rg v0) (h : f_X12_happen_436s F P S rec_436 v0 v1 v3 D = some r) : xfr Rg D r.2 := by
  unfold f_X12_happen_436s at h
  refine xif_p h (fun c h => ?_) (fun c h => ?_)
  · skip
    exact u_X12_happen_463 hS hR F k0 r0 h
  · skip
    refine xgrd_e h (fun g1 h => ?_)
    refine xgrd_e h (fun g2 h => ?_)
    refine xlet_e h (fun D3 eD3 h => ?_)
    refine xfr_i (hR.1 k0 r0 3 100 rfl) eD3 ?_
    refine xlet_e h (fun v3_4 ev3_4 h => ?_)
    exact hrec_436 k0 r0 h
theorem u_X12_happen_436 {F P : Nat} {S : xSt} (hS : xWF S) {Rg : Nat → Prop} (hR : xRC S Rg) : ∀ (n : Nat) {v0 : Nat} {v1 : Int32} {v3 : Int32} {D : xDt} {r : Int32 × xDt}, xK S v0 12 → Rg v0 → f_X12_happen_436 F P S n v0 v1 v3 D = some r → xfr Rg D r.2 := by
  intro n
  induction n with
  | zero => intros; rename_i h; cases h
  | succ n ih =>
    intro v0 v1 v3 D r k0 r0 h
    exact u_X12_happen_436s hS hR (fun k0 r0 h => ih k0 r0 h) k0 r0 h

theorem u_X12_happen_275s {F P : Nat} {S : xSt} (hS : xWF S) {Rg : Nat → Prop} (hR : xRC S Rg) {rec_275 : Nat → Int32 → Int32 → xDt → Option (Int32 × xDt)} (hrec_275 : ∀ {v0 : Nat} {v1 : Int32} {v3 : Int32} {D : xDt} {r : Int32 × xDt}, xK S v0 12 → Rg v0 → rec_275 v0 v1 v3 D = some r → xfr Rg D r.2) {v0 : Nat} {v1 : Int32} {v3 : Int32} {D : xDt} {r : Int32 × xDt} (k0 : xK S v0 12) (r0 : Rg v0) (h : f_X12_happen_275s F P S rec_275 v0 v1 v3 D = some r) : xfr Rg D r.2 := by
  unfold f_X12_happen_275s at h
  refine xif_p h (fun c h => ?_) (fun c h => ?_)
  · skip
    refine xlet_e h (fun D1 eD1 h => ?_)
    refine xfr_i r0 eD1 ?_
    exact u_X12_happen_436 hS hR F k0 r0 h
  · skip
    exact u_X12_happen_283 hS hR hrec_275 F k0 r0 h
theorem u_X12_happen_275 {F P : Nat} {S : xSt} (hS : xWF S) {Rg : Nat → Prop} (hR : xRC S Rg) : ∀ (n : Nat) {v0 : Nat} {v1 : Int32} {v3 : Int32} {D : xDt} {r : Int32 × xDt}, xK S v0 12 → Rg v0 → f_X12_happen_275 F P S n v0 v1 v3 D = some r → xfr Rg D r.2 := by
  intro n
  induction n with
  | zero => intros; rename_i h; cases h
  | succ n ih =>
    intro v0 v1 v3 D r k0 r0 h
    exact u_X12_happen_275s hS hR (fun k0 r0 h => ih k0 r0 h) k0 r0 h

theorem u_X12_happen_145s {F P : Nat} {S : xSt} (hS : xWF S) {Rg : Nat → Prop} (hR : xRC S Rg) {rec_145 : Nat → Int32 → Int32 → Int32 → xDt → Option (Int32 × xDt)} (hrec_145 : ∀ {v0 : Nat} {v1 : Int32} {v2 : Int32} {v3 : Int32} {D : xDt} {r : Int32 × xDt}, xK S v0 12 → Rg v0 → rec_145 v0 v1 v2 v3 D = some r → xfr Rg D r.2) {v0 : Nat} {v1 : Int32} {v2 : Int32} {v3 : Int32} {D : xDt} {r : Int32 × xDt} (k0 : xK S v0 12) (r0 : Rg v0) (h : f_X12_happen_145s F P S rec_145 v0 v1 v2 v3 D = some r) : xfr Rg D r.2 := by
  unfold f_X12_happen_145s at h
  refine xif_p h (fun c h => ?_) (fun c h => ?_)
  · skip
    exact u_X12_happen_275 hS hR F k0 r0 h
  · skip
    exact u_X12_happen_156 hS hR hrec_145 F k0 r0 h
theorem u_X12_happen_145 {F P : Nat} {S : xSt} (hS : xWF S) {Rg : Nat → Prop} (hR : xRC S Rg) : ∀ (n : Nat) {v0 : Nat} {v1 : Int32} {v2 : Int32} {v3 : Int32} {D : xDt} {r : Int32 × xDt}, xK S v0 12 → Rg v0 → f_X12_happen_145 F P S n v0 v1 v2 v3 D = some r → xfr Rg D r.2 := by
  intro n
  induction n with
  | zero => intros; rename_i h; cases h
  | succ n ih =>
    intro v0 v1 v2 v3 D r k0 r0 h
    exact u_X12_happen_145s hS hR (fun k0 r0 h => ih k0 r0 h) k0 r0 h

theorem u_X12_happen_4s {F P : Nat} {S : xSt} (hS : xWF S) {Rg : Nat → Prop} (hR : xRC S Rg) {rec_4 : Nat → Int32 → Int32 → xDt → Option (Int32 × xDt)} (hrec_4 : ∀ {v0 : Nat} {v1 : Int32} {v2 : Int32} {D : xDt} {r : Int32 × xDt}, xK S v0 12 → Rg v0 → rec_4 v0 v1 v2 D = some r → xfr Rg D r.2) {v0 : Nat} {v1 : Int32} {v2 : Int32} {D : xDt} {r : Int32 × xDt} (k0 : xK S v0 12) (r0 : Rg v0) (h : f_X12_happen_4s F P S rec_4 v0 v1 v2 D = some r) : xfr Rg D r.2 := by
  unfold f_X12_happen_4s at h
  refine xif_p h (fun c h => ?_) (fun c h => ?_)
  · skip
    refine xif_p h (fun c h => ?_) (fun c h => ?_)
    · skip
      exact u_X12_happen_126 hS hR h
    · skip
      refine xif_p h (fun c h => ?_) (fun c h => ?_)
      · skip
        refine xbnd_e h (fun q1 e1 h => ?_)
        refine xfr_tr (U_X12_keep hS hR k0 r0 e1) ?_
        exact u_X12_happen_145 hS hR F k0 r0 h
      · skip
        exact u_X12_happen_126 hS hR h
  · skip
    refine xgrd_e h (fun g2 h => ?_)
    refine xbnd_e h (fun q3 e3 h => ?_)
    refine xfr_tr (U_X12_all hS hR k0 e3) ?_
    refine xbnd_e h (fun q4 e4 h => ?_)
    refine xfr_tr (U_X12_where hS hR P k0 e4) ?_
    refine xgrd_e h (fun g5 h => ?_)
    refine xlet_e h (fun D6 eD6 h => ?_)
    refine xfr_l (hR.1 k0 r0 29 101 rfl) eD6 ?_
    refine xgrd_e h (fun g7 h => ?_)
    refine xbnd_e h (fun q8 e8 h => ?_)
    refine xfr_tr (U_X12_size hS hR e8) ?_
    refine xlet_e h (fun v1_9 ev1_9 h => ?_)
    exact u_X12_happen_46 hS hR hrec_4 F k0 r0 h
theorem u_X12_happen_4 {F P : Nat} {S : xSt} (hS : xWF S) {Rg : Nat → Prop} (hR : xRC S Rg) : ∀ (n : Nat) {v0 : Nat} {v1 : Int32} {v2 : Int32} {D : xDt} {r : Int32 × xDt}, xK S v0 12 → Rg v0 → f_X12_happen_4 F P S n v0 v1 v2 D = some r → xfr Rg D r.2 := by
  intro n
  induction n with
  | zero => intros; rename_i h; cases h
  | succ n ih =>
    intro v0 v1 v2 D r k0 r0 h
    exact u_X12_happen_4s hS hR (fun k0 r0 h => ih k0 r0 h) k0 r0 h

theorem U_X12_happen {F P : Nat} {S : xSt} (hS : xWF S) {Rg : Nat → Prop} (hR : xRC S Rg) {v0 : Nat} {D : xDt} {r : Int32 × xDt} (k0 : xK S v0 12) (r0 : Rg v0) (h : f_X12_happen F P S v0 D = some r) : xfr Rg D r.2 := by
  unfold f_X12_happen at h
  exact u_X12_happen_4 hS hR F k0 r0 h

theorem u_X12_sortsIn_44 {F P : Nat} {S : xSt} (hS : xWF S) {Rg : Nat → Prop} (hR : xRC S Rg) {rec_5 : Nat → Int32 → Int32 → Int64 → Int32 → xDt → Option (Int64 × xDt)} (hrec_5 : ∀ {v0 : Nat} {v1 : Int32} {v2 : Int32} {v3 : Int64} {v5 : Int32} {D : xDt} {r : Int64 × xDt}, xK S v0 12 → rec_5 v0 v1 v2 v3 v5 D = some r → xfr Rg D r.2) {v0 : Nat} {v1 : Int32} {v2 : Int32} {v5 : Int32} {s0 : Int64} {s1 : Int64} {D : xDt} {r : Int64 × xDt} (k0 : xK S v0 12) (h : f_X12_sortsIn_44 F P S rec_5 v0 v1 v2 v5 s0 s1 D = some r) : xfr Rg D r.2 := by
  unfold f_X12_sortsIn_44 at h
  refine xlet_e h (fun v3_1 ev3_1 h => ?_)
  refine xlet_e h (fun v5_2 ev5_2 h => ?_)
  exact hrec_5 k0 h

theorem u_X12_sortsIn_5s {F P : Nat} {S : xSt} (hS : xWF S) {Rg : Nat → Prop} (hR : xRC S Rg) {rec_5 : Nat → Int32 → Int32 → Int64 → Int32 → xDt → Option (Int64 × xDt)} (hrec_5 : ∀ {v0 : Nat} {v1 : Int32} {v2 : Int32} {v3 : Int64} {v5 : Int32} {D : xDt} {r : Int64 × xDt}, xK S v0 12 → rec_5 v0 v1 v2 v3 v5 D = some r → xfr Rg D r.2) {v0 : Nat} {v1 : Int32} {v2 : Int32} {v3 : Int64} {v5 : Int32} {D : xDt} {r : Int64 × xDt} (k0 : xK S v0 12) (h : f_X12_sortsIn_5s F P S rec_5 v0 v1 v2 v3 v5 D = some r) : xfr Rg D r.2 := by
  unfold f_X12_sortsIn_5s at h
  refine xif_p h (fun c h => ?_) (fun c h => ?_)
  · skip
    obtain rfl := Option.some.inj h
    exact xfr_rf
  · skip
    refine xbnd_e h (fun q1 e1 h => ?_)
    refine xfr_tr (U_X12_cell hS hR k0 e1) ?_
    refine xbnd_e h (fun q2 e2 h => ?_)
    refine xfr_tr (U_X12_cell hS hR k0 e2) ?_
    refine xif_n h (fun c h => ?_) (fun c h => ?_)
    · skip
      exact u_X12_sortsIn_44 hS hR hrec_5 k0 h
    · skip
      refine xgrd_e h (fun g3 h => ?_)
      exact u_X12_sortsIn_44 hS hR hrec_5 k0 h
theorem u_X12_sortsIn_5 {F P : Nat} {S : xSt} (hS : xWF S) {Rg : Nat → Prop} (hR : xRC S Rg) : ∀ (n : Nat) {v0 : Nat} {v1 : Int32} {v2 : Int32} {v3 : Int64} {v5 : Int32} {D : xDt} {r : Int64 × xDt}, xK S v0 12 → f_X12_sortsIn_5 F P S n v0 v1 v2 v3 v5 D = some r → xfr Rg D r.2 := by
  intro n
  induction n with
  | zero => intros; rename_i h; cases h
  | succ n ih =>
    intro v0 v1 v2 v3 v5 D r k0 h
    exact u_X12_sortsIn_5s hS hR (fun k0 h => ih k0 h) k0 h

theorem U_X12_sortsIn {F P : Nat} {S : xSt} (hS : xWF S) {Rg : Nat → Prop} (hR : xRC S Rg) {v0 : Nat} {v1 : Int32} {v2 : Int32} {D : xDt} {r : Int64 × xDt} (k0 : xK S v0 12) (h : f_X12_sortsIn F P S v0 v1 v2 D = some r) : xfr Rg D r.2 := by
  unfold f_X12_sortsIn at h
  exact u_X12_sortsIn_5 hS hR F k0 h

theorem u_X12_areAsBefore_57 {F P : Nat} {S : xSt} (hS : xWF S) {Rg : Nat → Prop} (hR : xRC S Rg) {rec_24 : Nat → Int32 → Int32 → Int32 → Int32 → xDt → Option (Int32 × xDt)} (hrec_24 : ∀ {v0 : Nat} {v1 : Int32} {v2 : Int32} {v3 : Int32} {v4 : Int32} {D : xDt} {r : Int32 × xDt}, xK S v0 12 → rec_24 v0 v1 v2 v3 v4 D = some r → xfr Rg D r.2) {v0 : Nat} {v1 : Int32} {v2 : Int32} {v4 : Int32} {s0 : Int32} {D : xDt} {r : Int32 × xDt} (k0 : xK S v0 12) (h : f_X12_areAsBefore_57 F P S rec_24 v0 v1 v2 v4 s0 D = some r) : xfr Rg D r.2 := by
  unfold f_X12_areAsBefore_57 at h
  refine xlet_e h (fun v4_1 ev4_1 h => ?_)
  exact hrec_24 k0 h

theorem u_X12_areAsBefore_24s {F P : Nat} {S : xSt} (hS : xWF S) {Rg : Nat → Prop} (hR : xRC S Rg) {rec_24 : Nat → Int32 → Int32 → Int32 → Int32 → xDt → Option (Int32 × xDt)} (hrec_24 : ∀ {v0 : Nat} {v1 : Int32} {v2 : Int32} {v3 : Int32} {v4 : Int32} {D : xDt} {r : Int32 × xDt}, xK S v0 12 → rec_24 v0 v1 v2 v3 v4 D = some r → xfr Rg D r.2) {v0 : Nat} {v1 : Int32} {v2 : Int32} {v3 : Int32} {v4 : Int32} {D : xDt} {r : Int32 × xDt} (k0 : xK S v0 12) (h : f_X12_areAsBefore_24s F P S rec_24 v0 v1 v2 v3 v4 D = some r) : xfr Rg D r.2 := by
  unfold f_X12_areAsBefore_24s at h
  refine xif_p h (fun c h => ?_) (fun c h => ?_)
  · skip
    refine xgrd_e h (fun g1 h => ?_)
    obtain rfl := Option.some.inj h
    exact xfr_rf
  · skip
    refine xif_p h (fun c h => ?_) (fun c h => ?_)
    · skip
      refine xgrd_e h (fun g2 h => ?_)
      obtain rfl := Option.some.inj h
      exact xfr_rf
    · skip
      refine xbnd_e h (fun q3 e3 h => ?_)
      refine xfr_tr (U_X12_sortsIn hS hR k0 e3) ?_
      refine xbnd_e h (fun q4 e4 h => ?_)
      refine xfr_tr (U_X12_sortsIn hS hR k0 e4) ?_
      refine xif_n h (fun c h => ?_) (fun c h => ?_)
      · skip
        exact u_X12_areAsBefore_57 hS hR hrec_24 k0 h
      · skip
        exact u_X12_areAsBefore_57 hS hR hrec_24 k0 h
theorem u_X12_areAsBefore_24 {F P : Nat} {S : xSt} (hS : xWF S) {Rg : Nat → Prop} (hR : xRC S Rg) : ∀ (n : Nat) {v0 : Nat} {v1 : Int32} {v2 : Int32} {v3 : Int32} {v4 : Int32} {D : xDt} {r : Int32 × xDt}, xK S v0 12 → f_X12_areAsBefore_24 F P S n v0 v1 v2 v3 v4 D = some r → xfr Rg D r.2 := by
  intro n
  induction n with
  | zero => intros; rename_i h; cases h
  | succ n ih =>
    intro v0 v1 v2 v3 v4 D r k0 h
    exact u_X12_areAsBefore_24s hS hR (fun k0 h => ih k0 h) k0 h

theorem u_X12_areAsBefore_20 {F P : Nat} {S : xSt} (hS : xWF S) {Rg : Nat → Prop} (hR : xRC S Rg) {v0 : Nat} {v1 : Int32} {v2 : Int32} {s0 : Int32} {D : xDt} {r : Int32 × xDt} (k0 : xK S v0 12) (h : f_X12_areAsBefore_20 F P S v0 v1 v2 s0 D = some r) : xfr Rg D r.2 := by
  unfold f_X12_areAsBefore_20 at h
  exact u_X12_areAsBefore_24 hS hR F k0 h

theorem U_X12_areAsBefore {F P : Nat} {S : xSt} (hS : xWF S) {Rg : Nat → Prop} (hR : xRC S Rg) {v0 : Nat} {v1 : Int32} {v2 : Int32} {D : xDt} {r : Int32 × xDt} (k0 : xK S v0 12) (h : f_X12_areAsBefore F P S v0 v1 v2 D = some r) : xfr Rg D r.2 := by
  unfold f_X12_areAsBefore at h
  refine xgrd_e h (fun g1 h => ?_)
  refine xgrd_e h (fun g2 h => ?_)
  refine xif_n h (fun c h => ?_) (fun c h => ?_)
  · skip
    exact u_X12_areAsBefore_20 hS hR k0 h
  · skip
    exact u_X12_areAsBefore_20 hS hR k0 h

theorem u_X12_beginLike_38 {F P : Nat} {S : xSt} (hS : xWF S) {Rg : Nat → Prop} (hR : xRC S Rg) {rec_2 : Nat → Int32 → xDt → Option (xDt)} (hrec_2 : ∀ {v0 : Nat} {v1 : Int32} {D : xDt} {r : xDt}, xK S v0 12 → Rg v0 → rec_2 v0 v1 D = some r → xfr Rg D r) {rec_14 : Nat → Int32 → Int32 → Int32 → xDt → Option (xDt)} (hrec_14 : ∀ {v0 : Nat} {v1 : Int32} {v2 : Int32} {v3 : Int32} {D : xDt} {r : xDt}, xK S v0 12 → Rg v0 → rec_14 v0 v1 v2 v3 D = some r → xfr Rg D r) {v0 : Nat} {v1 : Int32} {v3 : Int32} {s0 : Int32} {D : xDt} {r : xDt} (k0 : xK S v0 12) (r0 : Rg v0) (h : f_X12_beginLike_38 F P S rec_2 rec_14 v0 v1 v3 s0 D = some r) : xfr Rg D r := by
  unfold f_X12_beginLike_38 at h
  refine xlet_e h (fun v3_1 ev3_1 h => ?_)
  exact hrec_14 k0 r0 h

theorem u_X12_beginLike_14s {F P : Nat} {S : xSt} (hS : xWF S) {Rg : Nat → Prop} (hR : xRC S Rg) {rec_2 : Nat → Int32 → xDt → Option (xDt)} (hrec_2 : ∀ {v0 : Nat} {v1 : Int32} {D : xDt} {r : xDt}, xK S v0 12 → Rg v0 → rec_2 v0 v1 D = some r → xfr Rg D r) {rec_14 : Nat → Int32 → Int32 → Int32 → xDt → Option (xDt)} (hrec_14 : ∀ {v0 : Nat} {v1 : Int32} {v2 : Int32} {v3 : Int32} {D : xDt} {r : xDt}, xK S v0 12 → Rg v0 → rec_14 v0 v1 v2 v3 D = some r → xfr Rg D r) {v0 : Nat} {v1 : Int32} {v2 : Int32} {v3 : Int32} {D : xDt} {r : xDt} (k0 : xK S v0 12) (r0 : Rg v0) (h : f_X12_beginLike_14s F P S rec_2 rec_14 v0 v1 v2 v3 D = some r) : xfr Rg D r := by
  unfold f_X12_beginLike_14s at h
  refine xif_p h (fun c h => ?_) (fun c h => ?_)
  · skip
    refine xgrd_e h (fun g1 h => ?_)
    refine xlet_e h (fun D2 eD2 h => ?_)
    refine xfr_i (hR.1 k0 r0 34 100 rfl) eD2 ?_
    refine xlet_e h (fun v1_3 ev1_3 h => ?_)
    exact hrec_2 k0 r0 h
  · skip
    refine xgrd_e h (fun g4 h => ?_)
    refine xgrd_e h (fun g5 h => ?_)
    refine xif_n h (fun c h => ?_) (fun c h => ?_)
    · skip
      exact u_X12_beginLike_38 hS hR hrec_2 hrec_14 k0 r0 h
    · skip
      exact u_X12_beginLike_38 hS hR hrec_2 hrec_14 k0 r0 h
theorem u_X12_beginLike_14 {F P : Nat} {S : xSt} (hS : xWF S) {Rg : Nat → Prop} (hR : xRC S Rg) {rec_2 : Nat → Int32 → xDt → Option (xDt)} (hrec_2 : ∀ {v0 : Nat} {v1 : Int32} {D : xDt} {r : xDt}, xK S v0 12 → Rg v0 → rec_2 v0 v1 D = some r → xfr Rg D r) : ∀ (n : Nat) {v0 : Nat} {v1 : Int32} {v2 : Int32} {v3 : Int32} {D : xDt} {r : xDt}, xK S v0 12 → Rg v0 → f_X12_beginLike_14 F P S rec_2 n v0 v1 v2 v3 D = some r → xfr Rg D r := by
  intro n
  induction n with
  | zero => intros; rename_i h; cases h
  | succ n ih =>
    intro v0 v1 v2 v3 D r k0 r0 h
    exact u_X12_beginLike_14s hS hR hrec_2 (fun k0 r0 h => ih k0 r0 h) k0 r0 h

theorem u_X12_beginLike_2s {F P : Nat} {S : xSt} (hS : xWF S) {Rg : Nat → Prop} (hR : xRC S Rg) {rec_2 : Nat → Int32 → xDt → Option (xDt)} (hrec_2 : ∀ {v0 : Nat} {v1 : Int32} {D : xDt} {r : xDt}, xK S v0 12 → Rg v0 → rec_2 v0 v1 D = some r → xfr Rg D r) {v0 : Nat} {v1 : Int32} {D : xDt} {r : xDt} (k0 : xK S v0 12) (r0 : Rg v0) (h : f_X12_beginLike_2s F P S rec_2 v0 v1 D = some r) : xfr Rg D r := by
  unfold f_X12_beginLike_2s at h
  refine xif_p h (fun c h => ?_) (fun c h => ?_)
  · skip
    obtain rfl := Option.some.inj h
    exact xfr_rf
  · skip
    exact u_X12_beginLike_14 hS hR hrec_2 F k0 r0 h
theorem u_X12_beginLike_2 {F P : Nat} {S : xSt} (hS : xWF S) {Rg : Nat → Prop} (hR : xRC S Rg) : ∀ (n : Nat) {v0 : Nat} {v1 : Int32} {D : xDt} {r : xDt}, xK S v0 12 → Rg v0 → f_X12_beginLike_2 F P S n v0 v1 D = some r → xfr Rg D r := by
  intro n
  induction n with
  | zero => intros; rename_i h; cases h
  | succ n ih =>
    intro v0 v1 D r k0 r0 h
    exact u_X12_beginLike_2s hS hR (fun k0 r0 h => ih k0 r0 h) k0 r0 h

theorem U_X12_beginLike {F P : Nat} {S : xSt} (hS : xWF S) {Rg : Nat → Prop} (hR : xRC S Rg) {v0 : Nat} {D : xDt} {r : xDt} (k0 : xK S v0 12) (r0 : Rg v0) (h : f_X12_beginLike F P S v0 D = some r) : xfr Rg D r := by
  unfold f_X12_beginLike at h
  exact u_X12_beginLike_2 hS hR F k0 r0 h

theorem u_X12_refine_32 {F P : Nat} {S : xSt} (hS : xWF S) {Rg : Nat → Prop} (hR : xRC S Rg) {rec_2 : Nat → Int32 → xDt → Option (Int32 × xDt)} (hrec_2 : ∀ {v0 : Nat} {v1 : Int32} {D : xDt} {r : Int32 × xDt}, xK S v0 12 → Rg v0 → rec_2 v0 v1 D = some r → xfr Rg D r.2) {rec_14 : Nat → Int32 → Int32 → Int32 → xDt → Option (Int32 × xDt)} (hrec_14 : ∀ {v0 : Nat} {v1 : Int32} {v2 : Int32} {v3 : Int32} {D : xDt} {r : Int32 × xDt}, xK S v0 12 → Rg v0 → rec_14 v0 v1 v2 v3 D = some r → xfr Rg D r.2) {v0 : Nat} {v1 : Int32} {v3 : Int32} {s0 : Int32} {D : xDt} {r : Int32 × xDt} (k0 : xK S v0 12) (r0 : Rg v0) (h : f_X12_refine_32 F P S rec_2 rec_14 v0 v1 v3 s0 D = some r) : xfr Rg D r.2 := by
  unfold f_X12_refine_32 at h
  refine xlet_e h (fun v3_1 ev3_1 h => ?_)
  exact hrec_14 k0 r0 h

theorem u_X12_refine_14s {F P : Nat} {S : xSt} (hS : xWF S) {Rg : Nat → Prop} (hR : xRC S Rg) {rec_2 : Nat → Int32 → xDt → Option (Int32 × xDt)} (hrec_2 : ∀ {v0 : Nat} {v1 : Int32} {D : xDt} {r : Int32 × xDt}, xK S v0 12 → Rg v0 → rec_2 v0 v1 D = some r → xfr Rg D r.2) {rec_14 : Nat → Int32 → Int32 → Int32 → xDt → Option (Int32 × xDt)} (hrec_14 : ∀ {v0 : Nat} {v1 : Int32} {v2 : Int32} {v3 : Int32} {D : xDt} {r : Int32 × xDt}, xK S v0 12 → Rg v0 → rec_14 v0 v1 v2 v3 D = some r → xfr Rg D r.2) {v0 : Nat} {v1 : Int32} {v2 : Int32} {v3 : Int32} {D : xDt} {r : Int32 × xDt} (k0 : xK S v0 12) (r0 : Rg v0) (h : f_X12_refine_14s F P S rec_2 rec_14 v0 v1 v2 v3 D = some r) : xfr Rg D r.2 := by
  unfold f_X12_refine_14s at h
  refine xif_p h (fun c h => ?_) (fun c h => ?_)
  · skip
    refine xgrd_e h (fun g1 h => ?_)
    refine xlet_e h (fun D2 eD2 h => ?_)
    refine xfr_i (hR.1 k0 r0 35 100 rfl) eD2 ?_
    refine xlet_e h (fun v1_3 ev1_3 h => ?_)
    exact hrec_2 k0 r0 h
  · skip
    refine xbnd_e h (fun q4 e4 h => ?_)
    refine xfr_tr (U_X12_areAsBefore hS hR k0 e4) ?_
    refine xif_p h (fun c h => ?_) (fun c h => ?_)
    · skip
      exact u_X12_refine_32 hS hR hrec_2 hrec_14 k0 r0 h
    · skip
      exact u_X12_refine_32 hS hR hrec_2 hrec_14 k0 r0 h
theorem u_X12_refine_14 {F P : Nat} {S : xSt} (hS : xWF S) {Rg : Nat → Prop} (hR : xRC S Rg) {rec_2 : Nat → Int32 → xDt → Option (Int32 × xDt)} (hrec_2 : ∀ {v0 : Nat} {v1 : Int32} {D : xDt} {r : Int32 × xDt}, xK S v0 12 → Rg v0 → rec_2 v0 v1 D = some r → xfr Rg D r.2) : ∀ (n : Nat) {v0 : Nat} {v1 : Int32} {v2 : Int32} {v3 : Int32} {D : xDt} {r : Int32 × xDt}, xK S v0 12 → Rg v0 → f_X12_refine_14 F P S rec_2 n v0 v1 v2 v3 D = some r → xfr Rg D r.2 := by
  intro n
  induction n with
  | zero => intros; rename_i h; cases h
  | succ n ih =>
    intro v0 v1 v2 v3 D r k0 r0 h
    exact u_X12_refine_14s hS hR hrec_2 (fun k0 r0 h => ih k0 r0 h) k0 r0 h

theorem u_X12_refine_88 {F P : Nat} {S : xSt} (hS : xWF S) {Rg : Nat → Prop} (hR : xRC S Rg) {rec_56 : Nat → Int32 → Int32 → xDt → Option (Int32 × xDt)} (hrec_56 : ∀ {v0 : Nat} {v1 : Int32} {v2 : Int32} {D : xDt} {r : Int32 × xDt}, xK S v0 12 → Rg v0 → rec_56 v0 v1 v2 D = some r → xfr Rg D r.2) {v0 : Nat} {v2 : Int32} {s0 : Int32} {D : xDt} {r : Int32 × xDt} (k0 : xK S v0 12) (r0 : Rg v0) (h : f_X12_refine_88 F P S rec_56 v0 v2 s0 D = some r) : xfr Rg D r.2 := by
  unfold f_X12_refine_88 at h
  refine xgrd_e h (fun g1 h => ?_)
  refine xgrd_e h (fun g2 h => ?_)
  refine xlet_e h (fun D3 eD3 h => ?_)
  refine xfr_i (hR.1 k0 r0 34 100 rfl) eD3 ?_
  refine xlet_e h (fun v2_4 ev2_4 h => ?_)
  exact hrec_56 k0 r0 h

theorem u_X12_refine_83 {F P : Nat} {S : xSt} (hS : xWF S) {Rg : Nat → Prop} (hR : xRC S Rg) {rec_56 : Nat → Int32 → Int32 → xDt → Option (Int32 × xDt)} (hrec_56 : ∀ {v0 : Nat} {v1 : Int32} {v2 : Int32} {D : xDt} {r : Int32 × xDt}, xK S v0 12 → Rg v0 → rec_56 v0 v1 v2 D = some r → xfr Rg D r.2) {v0 : Nat} {v2 : Int32} {D : xDt} {r : Int32 × xDt} (k0 : xK S v0 12) (r0 : Rg v0) (h : f_X12_refine_83 F P S rec_56 v0 v2 D = some r) : xfr Rg D r.2 := by
  unfold f_X12_refine_83 at h
  exact u_X12_refine_88 hS hR hrec_56 k0 r0 h

theorem u_X12_refine_56s {F P : Nat} {S : xSt} (hS : xWF S) {Rg : Nat → Prop} (hR : xRC S Rg) {rec_56 : Nat → Int32 → Int32 → xDt → Option (Int32 × xDt)} (hrec_56 : ∀ {v0 : Nat} {v1 : Int32} {v2 : Int32} {D : xDt} {r : Int32 × xDt}, xK S v0 12 → Rg v0 → rec_56 v0 v1 v2 D = some r → xfr Rg D r.2) {v0 : Nat} {v1 : Int32} {v2 : Int32} {D : xDt} {r : Int32 × xDt} (k0 : xK S v0 12) (r0 : Rg v0) (h : f_X12_refine_56s F P S rec_56 v0 v1 v2 D = some r) : xfr Rg D r.2 := by
  unfold f_X12_refine_56s at h
  refine xif_p h (fun c h => ?_) (fun c h => ?_)
  · skip
    refine xgrd_e h (fun g1 h => ?_)
    obtain rfl := Option.some.inj h
    exact xfr_rf
  · skip
    refine xif_n h (fun c h => ?_) (fun c h => ?_)
    · skip
      exact u_X12_refine_83 hS hR hrec_56 k0 r0 h
    · skip
      refine xgrd_e h (fun g2 h => ?_)
      refine xgrd_e h (fun g3 h => ?_)
      refine xif_p h (fun c h => ?_) (fun c h => ?_)
      · skip
        exact u_X12_refine_88 hS hR hrec_56 k0 r0 h
      · skip
        exact u_X12_refine_83 hS hR hrec_56 k0 r0 h
theorem u_X12_refine_56 {F P : Nat} {S : xSt} (hS : xWF S) {Rg : Nat → Prop} (hR : xRC S Rg) : ∀ (n : Nat) {v0 : Nat} {v1 : Int32} {v2 : Int32} {D : xDt} {r : Int32 × xDt}, xK S v0 12 → Rg v0 → f_X12_refine_56 F P S n v0 v1 v2 D = some r → xfr Rg D r.2 := by
  intro n
  induction n with
  | zero => intros; rename_i h; cases h
  | succ n ih =>
    intro v0 v1 v2 D r k0 r0 h
    exact u_X12_refine_56s hS hR (fun k0 r0 h => ih k0 r0 h) k0 r0 h

theorem u_X12_refine_2s {F P : Nat} {S : xSt} (hS : xWF S) {Rg : Nat → Prop} (hR : xRC S Rg) {rec_2 : Nat → Int32 → xDt → Option (Int32 × xDt)} (hrec_2 : ∀ {v0 : Nat} {v1 : Int32} {D : xDt} {r : Int32 × xDt}, xK S v0 12 → Rg v0 → rec_2 v0 v1 D = some r → xfr Rg D r.2) {v0 : Nat} {v1 : Int32} {D : xDt} {r : Int32 × xDt} (k0 : xK S v0 12) (r0 : Rg v0) (h : f_X12_refine_2s F P S rec_2 v0 v1 D = some r) : xfr Rg D r.2 := by
  unfold f_X12_refine_2s at h
  refine xif_p h (fun c h => ?_) (fun c h => ?_)
  · skip
    exact u_X12_refine_56 hS hR F k0 r0 h
  · skip
    exact u_X12_refine_14 hS hR hrec_2 F k0 r0 h
theorem u_X12_refine_2 {F P : Nat} {S : xSt} (hS : xWF S) {Rg : Nat → Prop} (hR : xRC S Rg) : ∀ (n : Nat) {v0 : Nat} {v1 : Int32} {D : xDt} {r : Int32 × xDt}, xK S v0 12 → Rg v0 → f_X12_refine_2 F P S n v0 v1 D = some r → xfr Rg D r.2 := by
  intro n
  induction n with
  | zero => intros; rename_i h; cases h
  | succ n ih =>
    intro v0 v1 D r k0 r0 h
    exact u_X12_refine_2s hS hR (fun k0 r0 h => ih k0 r0 h) k0 r0 h

theorem U_X12_refine {F P : Nat} {S : xSt} (hS : xWF S) {Rg : Nat → Prop} (hR : xRC S Rg) {v0 : Nat} {D : xDt} {r : Int32 × xDt} (k0 : xK S v0 12) (r0 : Rg v0) (h : f_X12_refine F P S v0 D = some r) : xfr Rg D r.2 := by
  unfold f_X12_refine at h
  exact u_X12_refine_2 hS hR F k0 r0 h

theorem u_X12_contract_53 {F P : Nat} {S : xSt} (hS : xWF S) {Rg : Nat → Prop} (hR : xRC S Rg) {rec_23 : Nat → Int64 → Int32 → xDt → Option (Int32 × xDt)} (hrec_23 : ∀ {v0 : Nat} {v2 : Int64} {v4 : Int32} {D : xDt} {r : Int32 × xDt}, xK S v0 12 → Rg v0 → rec_23 v0 v2 v4 D = some r → xfr Rg D r.2) {v0 : Nat} {v4 : Int32} {s0 : Int64} {s1 : Int64} {D : xDt} {r : Int32 × xDt} (k0 : xK S v0 12) (r0 : Rg v0) (h : f_X12_contract_53 F P S rec_23 v0 v4 s0 s1 D = some r) : xfr Rg D r.2 := by
  unfold f_X12_contract_53 at h
  refine xlet_e h (fun v2_1 ev2_1 h => ?_)
  refine xlet_e h (fun v4_2 ev4_2 h => ?_)
  exact hrec_23 k0 r0 h

theorem u_X12_contract_91s {F P : Nat} {S : xSt} (hS : xWF S) {Rg : Nat → Prop} (hR : xRC S Rg) {rec_82 : Nat → Int64 → Int32 → xDt → Option (Int32 × xDt)} (hrec_82 : ∀ {v0 : Nat} {v2 : Int64} {v4 : Int32} {D : xDt} {r : Int32 × xDt}, xK S v0 12 → Rg v0 → rec_82 v0 v2 v4 D = some r → xfr Rg D r.2) {rec_91 : Nat → Int64 → Int32 → Int32 → xDt → Option (Int32 × xDt)} (hrec_91 : ∀ {v0 : Nat} {v2 : Int64} {v4 : Int32} {v5 : Int32} {D : xDt} {r : Int32 × xDt}, xK S v0 12 → Rg v0 → rec_91 v0 v2 v4 v5 D = some r → xfr Rg D r.2) {v0 : Nat} {v2 : Int64} {v4 : Int32} {v5 : Int32} {D : xDt} {r : Int32 × xDt} (k0 : xK S v0 12) (r0 : Rg v0) (h : f_X12_contract_91s F P S rec_82 rec_91 v0 v2 v4 v5 D = some r) : xfr Rg D r.2 := by
  unfold f_X12_contract_91s at h
  refine xif_p h (fun c h => ?_) (fun c h => ?_)
  · skip
    refine xlet_e h (fun v4_1 ev4_1 h => ?_)
    exact hrec_82 k0 r0 h
  · skip
    refine xbnd_e h (fun q2 e2 h => ?_)
    refine xfr_tr (U_X12_sortsIn hS hR k0 e2) ?_
    refine xbnd_e h (fun q3 e3 h => ?_)
    refine xfr_tr (U_X12_least hS hR e3) ?_
    refine xgrd_e h (fun g4 h => ?_)
    refine xlet_e h (fun D5 eD5 h => ?_)
    refine xfr_i (hR.1 k0 r0 24 100 rfl) eD5 ?_
    refine xlet_e h (fun v5_6 ev5_6 h => ?_)
    exact hrec_91 k0 r0 h
theorem u_X12_contract_91 {F P : Nat} {S : xSt} (hS : xWF S) {Rg : Nat → Prop} (hR : xRC S Rg) {rec_82 : Nat → Int64 → Int32 → xDt → Option (Int32 × xDt)} (hrec_82 : ∀ {v0 : Nat} {v2 : Int64} {v4 : Int32} {D : xDt} {r : Int32 × xDt}, xK S v0 12 → Rg v0 → rec_82 v0 v2 v4 D = some r → xfr Rg D r.2) : ∀ (n : Nat) {v0 : Nat} {v2 : Int64} {v4 : Int32} {v5 : Int32} {D : xDt} {r : Int32 × xDt}, xK S v0 12 → Rg v0 → f_X12_contract_91 F P S rec_82 n v0 v2 v4 v5 D = some r → xfr Rg D r.2 := by
  intro n
  induction n with
  | zero => intros; rename_i h; cases h
  | succ n ih =>
    intro v0 v2 v4 v5 D r k0 r0 h
    exact u_X12_contract_91s hS hR hrec_82 (fun k0 r0 h => ih k0 r0 h) k0 r0 h

theorem u_X12_contract_141s {F P : Nat} {S : xSt} (hS : xWF S) {Rg : Nat → Prop} (hR : xRC S Rg) {rec_141 : Nat → Int64 → Int32 → xDt → Option (Int32 × xDt)} (hrec_141 : ∀ {v0 : Nat} {v2 : Int64} {v4 : Int32} {D : xDt} {r : Int32 × xDt}, xK S v0 12 → Rg v0 → rec_141 v0 v2 v4 D = some r → xfr Rg D r.2) {v0 : Nat} {v2 : Int64} {v4 : Int32} {D : xDt} {r : Int32 × xDt} (k0 : xK S v0 12) (r0 : Rg v0) (h : f_X12_contract_141s F P S rec_141 v0 v2 v4 D = some r) : xfr Rg D r.2 := by
  unfold f_X12_contract_141s at h
  refine xif_p h (fun c h => ?_) (fun c h => ?_)
  · skip
    refine xbnd_e h (fun q1 e1 h => ?_)
    refine xfr_tr (U_X12_shrink hS hR k0 r0 e1) ?_
    obtain rfl := Option.some.inj h
    exact xfr_rf
  · skip
    refine xgrd_e h (fun g2 h => ?_)
    refine xgrd_e h (fun g3 h => ?_)
    refine xlet_e h (fun D4 eD4 h => ?_)
    refine xfr_i (hR.1 k0 r0 3 100 rfl) eD4 ?_
    refine xlet_e h (fun v4_5 ev4_5 h => ?_)
    exact hrec_141 k0 r0 h
theorem u_X12_contract_141 {F P : Nat} {S : xSt} (hS : xWF S) {Rg : Nat → Prop} (hR : xRC S Rg) : ∀ (n : Nat) {v0 : Nat} {v2 : Int64} {v4 : Int32} {D : xDt} {r : Int32 × xDt}, xK S v0 12 → Rg v0 → f_X12_contract_141 F P S n v0 v2 v4 D = some r → xfr Rg D r.2 := by
  intro n
  induction n with
  | zero => intros; rename_i h; cases h
  | succ n ih =>
    intro v0 v2 v4 D r k0 r0 h
    exact u_X12_contract_141s hS hR (fun k0 r0 h => ih k0 r0 h) k0 r0 h

theorem u_X12_contract_82s {F P : Nat} {S : xSt} (hS : xWF S) {Rg : Nat → Prop} (hR : xRC S Rg) {rec_82 : Nat → Int64 → Int32 → xDt → Option (Int32 × xDt)} (hrec_82 : ∀ {v0 : Nat} {v2 : Int64} {v4 : Int32} {D : xDt} {r : Int32 × xDt}, xK S v0 12 → Rg v0 → rec_82 v0 v2 v4 D = some r → xfr Rg D r.2) {v0 : Nat} {v2 : Int64} {v4 : Int32} {D : xDt} {r : Int32 × xDt} (k0 : xK S v0 12) (r0 : Rg v0) (h : f_X12_contract_82s F P S rec_82 v0 v2 v4 D = some r) : xfr Rg D r.2 := by
  unfold f_X12_contract_82s at h
  refine xif_p h (fun c h => ?_) (fun c h => ?_)
  · skip
    exact u_X12_contract_141 hS hR F k0 r0 h
  · skip
    exact u_X12_contract_91 hS hR hrec_82 F k0 r0 h
theorem u_X12_contract_82 {F P : Nat} {S : xSt} (hS : xWF S) {Rg : Nat → Prop} (hR : xRC S Rg) : ∀ (n : Nat) {v0 : Nat} {v2 : Int64} {v4 : Int32} {D : xDt} {r : Int32 × xDt}, xK S v0 12 → Rg v0 → f_X12_contract_82 F P S n v0 v2 v4 D = some r → xfr Rg D r.2 := by
  intro n
  induction n with
  | zero => intros; rename_i h; cases h
  | succ n ih =>
    intro v0 v2 v4 D r k0 r0 h
    exact u_X12_contract_82s hS hR (fun k0 r0 h => ih k0 r0 h) k0 r0 h

theorem u_X12_contract_23s {F P : Nat} {S : xSt} (hS : xWF S) {Rg : Nat → Prop} (hR : xRC S Rg) {rec_23 : Nat → Int64 → Int32 → xDt → Option (Int32 × xDt)} (hrec_23 : ∀ {v0 : Nat} {v2 : Int64} {v4 : Int32} {D : xDt} {r : Int32 × xDt}, xK S v0 12 → Rg v0 → rec_23 v0 v2 v4 D = some r → xfr Rg D r.2) {v0 : Nat} {v2 : Int64} {v4 : Int32} {D : xDt} {r : Int32 × xDt} (k0 : xK S v0 12) (r0 : Rg v0) (h : f_X12_contract_23s F P S rec_23 v0 v2 v4 D = some r) : xfr Rg D r.2 := by
  unfold f_X12_contract_23s at h
  refine xif_p h (fun c h => ?_) (fun c h => ?_)
  · skip
    refine xbnd_e h (fun q1 e1 h => ?_)
    refine xfr_tr (U_X12_all hS hR k0 e1) ?_
    refine xif_n h (fun c h => ?_) (fun c h => ?_)
    · skip
      refine xbnd_e h (fun q2 e2 h => ?_)
      refine xfr_tr (U_X12_keep hS hR k0 r0 e2) ?_
      exact u_X12_contract_82 hS hR F k0 r0 h
    · skip
      obtain rfl := Option.some.inj h
      exact xfr_rf
  · skip
    refine xgrd_e h (fun g3 h => ?_)
    refine xif_n h (fun c h => ?_) (fun c h => ?_)
    · skip
      exact u_X12_contract_53 hS hR hrec_23 k0 r0 h
    · skip
      exact u_X12_contract_53 hS hR hrec_23 k0 r0 h
theorem u_X12_contract_23 {F P : Nat} {S : xSt} (hS : xWF S) {Rg : Nat → Prop} (hR : xRC S Rg) : ∀ (n : Nat) {v0 : Nat} {v2 : Int64} {v4 : Int32} {D : xDt} {r : Int32 × xDt}, xK S v0 12 → Rg v0 → f_X12_contract_23 F P S n v0 v2 v4 D = some r → xfr Rg D r.2 := by
  intro n
  induction n with
  | zero => intros; rename_i h; cases h
  | succ n ih =>
    intro v0 v2 v4 D r k0 r0 h
    exact u_X12_contract_23s hS hR (fun k0 r0 h => ih k0 r0 h) k0 r0 h

theorem u_X12_contract_6s {F P : Nat} {S : xSt} (hS : xWF S) {Rg : Nat → Prop} (hR : xRC S Rg) {rec_6 : Nat → Int32 → xDt → Option (Int32 × xDt)} (hrec_6 : ∀ {v0 : Nat} {v1 : Int32} {D : xDt} {r : Int32 × xDt}, xK S v0 12 → Rg v0 → rec_6 v0 v1 D = some r → xfr Rg D r.2) {v0 : Nat} {v1 : Int32} {D : xDt} {r : Int32 × xDt} (k0 : xK S v0 12) (r0 : Rg v0) (h : f_X12_contract_6s F P S rec_6 v0 v1 D = some r) : xfr Rg D r.2 := by
  unfold f_X12_contract_6s at h
  refine xif_p h (fun c h => ?_) (fun c h => ?_)
  · skip
    exact u_X12_contract_23 hS hR F k0 r0 h
  · skip
    refine xbnd_e h (fun q1 e1 h => ?_)
    refine xfr_tr (U_X12_refine hS hR k0 r0 e1) ?_
    exact hrec_6 k0 r0 h
theorem u_X12_contract_6 {F P : Nat} {S : xSt} (hS : xWF S) {Rg : Nat → Prop} (hR : xRC S Rg) : ∀ (n : Nat) {v0 : Nat} {v1 : Int32} {D : xDt} {r : Int32 × xDt}, xK S v0 12 → Rg v0 → f_X12_contract_6 F P S n v0 v1 D = some r → xfr Rg D r.2 := by
  intro n
  induction n with
  | zero => intros; rename_i h; cases h
  | succ n ih =>
    intro v0 v1 D r k0 r0 h
    exact u_X12_contract_6s hS hR (fun k0 r0 h => ih k0 r0 h) k0 r0 h

theorem U_X12_contract {F P : Nat} {S : xSt} (hS : xWF S) {Rg : Nat → Prop} (hR : xRC S Rg) {v0 : Nat} {D : xDt} {r : Int32 × xDt} (k0 : xK S v0 12) (r0 : Rg v0) (h : f_X12_contract F P S v0 D = some r) : xfr Rg D r.2 := by
  unfold f_X12_contract at h
  refine xbnd_e h (fun q1 e1 h => ?_)
  refine xfr_tr (U_X12_beginLike hS hR k0 r0 e1) ?_
  exact u_X12_contract_6 hS hR F k0 r0 h

theorem u_X12_differ_46s {F P : Nat} {S : xSt} (hS : xWF S) {Rg : Nat → Prop} (hR : xRC S Rg) {rec_46 : Nat → Int32 → Int32 → Int32 → Int32 → xDt → Option (Int32 × xDt)} (hrec_46 : ∀ {v0 : Nat} {v1 : Int32} {v2 : Int32} {v3 : Int32} {v4 : Int32} {D : xDt} {r : Int32 × xDt}, xK S v0 12 → Rg v0 → rec_46 v0 v1 v2 v3 v4 D = some r → xfr Rg D r.2) {v0 : Nat} {v1 : Int32} {v2 : Int32} {v3 : Int32} {v4 : Int32} {D : xDt} {r : Int32 × xDt} (k0 : xK S v0 12) (r0 : Rg v0) (h : f_X12_differ_46s F P S rec_46 v0 v1 v2 v3 v4 D = some r) : xfr Rg D r.2 := by
  unfold f_X12_differ_46s at h
  refine xif_p h (fun c h => ?_) (fun c h => ?_)
  · skip
    refine xgrd_e h (fun g1 h => ?_)
    refine xgrd_e h (fun g2 h => ?_)
    refine xif_n h (fun c h => ?_) (fun c h => ?_)
    · skip
      obtain rfl := Option.some.inj h
      exact xfr_rf
    · skip
      obtain rfl := Option.some.inj h
      exact xfr_rf
  · skip
    refine xbnd_e h (fun q3 e3 h => ?_)
    refine xfr_tr (U_X12_refine hS hR k0 r0 e3) ?_
    refine xlet_e h (fun v3_4 ev3_4 h => ?_)
    refine xgrd_e h (fun g5 h => ?_)
    refine xgrd_e h (fun g6 h => ?_)
    refine xif_p h (fun c h => ?_) (fun c h => ?_)
    · skip
      exact hrec_46 k0 r0 h
    · skip
      obtain rfl := Option.some.inj h
      exact xfr_rf
theorem u_X12_differ_46 {F P : Nat} {S : xSt} (hS : xWF S) {Rg : Nat → Prop} (hR : xRC S Rg) : ∀ (n : Nat) {v0 : Nat} {v1 : Int32} {v2 : Int32} {v3 : Int32} {v4 : Int32} {D : xDt} {r : Int32 × xDt}, xK S v0 12 → Rg v0 → f_X12_differ_46 F P S n v0 v1 v2 v3 v4 D = some r → xfr Rg D r.2 := by
  intro n
  induction n with
  | zero => intros; rename_i h; cases h
  | succ n ih =>
    intro v0 v1 v2 v3 v4 D r k0 r0 h
    exact u_X12_differ_46s hS hR (fun k0 r0 h => ih k0 r0 h) k0 r0 h

theorem u_X12_differ_44 {F P : Nat} {S : xSt} (hS : xWF S) {Rg : Nat → Prop} (hR : xRC S Rg) {v0 : Nat} {v1 : Int32} {v2 : Int32} {v3 : Int32} {s0 : Int32} {D : xDt} {r : Int32 × xDt} (k0 : xK S v0 12) (r0 : Rg v0) (h : f_X12_differ_44 F P S v0 v1 v2 v3 s0 D = some r) : xfr Rg D r.2 := by
  unfold f_X12_differ_44 at h
  exact u_X12_differ_46 hS hR F k0 r0 h

theorem U_X12_differ {F P : Nat} {S : xSt} (hS : xWF S) {Rg : Nat → Prop} (hR : xRC S Rg) {v0 : Nat} {v1 : Int32} {v2 : Int32} {D : xDt} {r : Int32 × xDt} (k0 : xK S v0 12) (r0 : Rg v0) (h : f_X12_differ F P S v0 v1 v2 D = some r) : xfr Rg D r.2 := by
  unfold f_X12_differ at h
  refine xbnd_e h (fun q1 e1 h => ?_)
  refine xfr_tr (U_X12_isWorld hS hR k0 e1) ?_
  refine xif_p h (fun c h => ?_) (fun c h => ?_)
  · skip
    obtain rfl := Option.some.inj h
    exact xfr_rf
  · skip
    refine xbnd_e h (fun q2 e2 h => ?_)
    refine xfr_tr (U_X12_isWorld hS hR k0 e2) ?_
    refine xif_n h (fun c h => ?_) (fun c h => ?_)
    · skip
      refine xbnd_e h (fun q3 e3 h => ?_)
      refine xfr_tr (U_X12_beginLike hS hR k0 r0 e3) ?_
      refine xgrd_e h (fun g4 h => ?_)
      refine xgrd_e h (fun g5 h => ?_)
      refine xif_n h (fun c h => ?_) (fun c h => ?_)
      · skip
        exact u_X12_differ_44 hS hR k0 r0 h
      · skip
        exact u_X12_differ_44 hS hR k0 r0 h
    · skip
      obtain rfl := Option.some.inj h
      exact xfr_rf

theorem u_X12_has_60 {F P : Nat} {S : xSt} (hS : xWF S) {Rg : Nat → Prop} (hR : xRC S Rg) {self_X12_has : Nat → Int32 → Int32 → xDt → Option (Int32 × xDt)} (hself_X12_has : ∀ {v0 : Nat} {v1 : Int32} {v2 : Int32} {D : xDt} {r : Int32 × xDt}, xK S v0 12 → self_X12_has v0 v1 v2 D = some r → xfr Rg D r.2) {D : xDt} {r : Int32 × xDt} (h : f_X12_has_60 F P S self_X12_has D = some r) : xfr Rg D r.2 := by
  unfold f_X12_has_60 at h
  obtain rfl := Option.some.inj h
  exact xfr_rf

theorem u_X12_has_64 {F P : Nat} {S : xSt} (hS : xWF S) {Rg : Nat → Prop} (hR : xRC S Rg) {self_X12_has : Nat → Int32 → Int32 → xDt → Option (Int32 × xDt)} (hself_X12_has : ∀ {v0 : Nat} {v1 : Int32} {v2 : Int32} {D : xDt} {r : Int32 × xDt}, xK S v0 12 → self_X12_has v0 v1 v2 D = some r → xfr Rg D r.2) {D : xDt} {r : Int32 × xDt} (h : f_X12_has_64 F P S self_X12_has D = some r) : xfr Rg D r.2 := by
  unfold f_X12_has_64 at h
  obtain rfl := Option.some.inj h
  exact xfr_rf

theorem u_X12_has_37 {F P : Nat} {S : xSt} (hS : xWF S) {Rg : Nat → Prop} (hR : xRC S Rg) {self_X12_has : Nat → Int32 → Int32 → xDt → Option (Int32 × xDt)} (hself_X12_has : ∀ {v0 : Nat} {v1 : Int32} {v2 : Int32} {D : xDt} {r : Int32 × xDt}, xK S v0 12 → self_X12_has v0 v1 v2 D = some r → xfr Rg D r.2) {v0 : Nat} {v1 : Int32} {v2 : Int32} {D : xDt} {r : Int32 × xDt} (k0 : xK S v0 12) (h : f_X12_has_37 F P S self_X12_has v0 v1 v2 D = some r) : xfr Rg D r.2 := by
  unfold f_X12_has_37 at h
  refine xgrd_e h (fun g1 h => ?_)
  refine xif_p h (fun c h => ?_) (fun c h => ?_)
  · skip
    exact u_X12_has_64 hS hR hself_X12_has h
  · skip
    refine xgrd_e h (fun g2 h => ?_)
    refine xbnd_e h (fun q3 e3 h => ?_)
    refine xfr_tr (hself_X12_has k0 e3) ?_
    refine xif_p h (fun c h => ?_) (fun c h => ?_)
    · skip
      exact u_X12_has_64 hS hR hself_X12_has h
    · skip
      exact u_X12_has_60 hS hR hself_X12_has h

theorem U_X12_has_o {F P : Nat} {S : xSt} (hS : xWF S) {Rg : Nat → Prop} (hR : xRC S Rg) {self_X12_has : Nat → Int32 → Int32 → xDt → Option (Int32 × xDt)} (hself_X12_has : ∀ {v0 : Nat} {v1 : Int32} {v2 : Int32} {D : xDt} {r : Int32 × xDt}, xK S v0 12 → self_X12_has v0 v1 v2 D = some r → xfr Rg D r.2) {v0 : Nat} {v1 : Int32} {v2 : Int32} {D : xDt} {r : Int32 × xDt} (k0 : xK S v0 12) (h : f_X12_has_o F P S self_X12_has v0 v1 v2 D = some r) : xfr Rg D r.2 := by
  unfold f_X12_has_o at h
  refine xgrd_e h (fun g1 h => ?_)
  refine xif_p h (fun c h => ?_) (fun c h => ?_)
  · skip
    exact u_X12_has_60 hS hR hself_X12_has h
  · skip
    refine xgrd_e h (fun g2 h => ?_)
    refine xif_p h (fun c h => ?_) (fun c h => ?_)
    · skip
      exact u_X12_has_37 hS hR hself_X12_has k0 h
    · skip
      refine xgrd_e h (fun g3 h => ?_)
      refine xbnd_e h (fun q4 e4 h => ?_)
      refine xfr_tr (hself_X12_has k0 e4) ?_
      refine xif_n h (fun c h => ?_) (fun c h => ?_)
      · skip
        exact u_X12_has_60 hS hR hself_X12_has h
      · skip
        exact u_X12_has_37 hS hR hself_X12_has k0 h

theorem U_X12_has {F P : Nat} {S : xSt} (hS : xWF S) {Rg : Nat → Prop} (hR : xRC S Rg) : ∀ (n : Nat), ∀ {v0 : Nat} {v1 : Int32} {v2 : Int32} {D : xDt} {r : Int32 × xDt}, xK S v0 12 → f_X12_has F P S n v0 v1 v2 D = some r → xfr Rg D r.2 := by
  intro n
  induction n with
  | zero => intros; rename_i h; cases h
  | succ n ih =>
    intro v0 v1 v2 D r k0 h
    exact U_X12_has_o hS hR (fun k0 h => ih k0 h) k0 h

theorem U_X12_made {F P : Nat} {S : xSt} (hS : xWF S) {Rg : Nat → Prop} (hR : xRC S Rg) {v0 : Nat} {v1 : Int32} {v2 : Int32} {v3 : Int32} {v4 : Int32} {D : xDt} {r : Int32 × xDt} (k0 : xK S v0 12) (r0 : Rg v0) (h : f_X12_made F P S v0 v1 v2 v3 v4 D = some r) : xfr Rg D r.2 := by
  unfold f_X12_made at h
  refine xif_n h (fun c h => ?_) (fun c h => ?_)
  · skip
    refine xlet_e h (fun D1 eD1 h => ?_)
    refine xfr_i r0 eD1 ?_
    obtain rfl := Option.some.inj h
    exact xfr_rf
  · skip
    refine xif_n h (fun c h => ?_) (fun c h => ?_)
    · skip
      refine xbnd_e h (fun q2 e2 h => ?_)
      refine xfr_tr (U_X12_node hS hR k0 r0 e2) ?_
      refine xgrd_e h (fun g3 h => ?_)
      refine xif_p h (fun c h => ?_) (fun c h => ?_)
      · skip
        refine xlet_e h (fun D4 eD4 h => ?_)
        refine xfr_i r0 eD4 ?_
        obtain rfl := Option.some.inj h
        exact xfr_rf
      · skip
        refine xlet_e h (fun D5 eD5 h => ?_)
        refine xfr_i r0 eD5 ?_
        obtain rfl := Option.some.inj h
        exact xfr_rf
    · skip
      refine xlet_e h (fun D6 eD6 h => ?_)
      refine xfr_i r0 eD6 ?_
      obtain rfl := Option.some.inj h
      exact xfr_rf

theorem u_X12_reduced_81 {F P : Nat} {S : xSt} (hS : xWF S) {Rg : Nat → Prop} (hR : xRC S Rg) {self_X12_reduced : Nat → Int32 → xDt → Option (Int32 × xDt)} (hself_X12_reduced : ∀ {v0 : Nat} {v1 : Int32} {D : xDt} {r : Int32 × xDt}, xK S v0 12 → Rg v0 → self_X12_reduced v0 v1 D = some r → xfr Rg D r.2) {self_X12_pushed : Nat → Int32 → Int32 → xDt → Option (Int32 × xDt)} (hself_X12_pushed : ∀ {v0 : Nat} {v1 : Int32} {v2 : Int32} {D : xDt} {r : Int32 × xDt}, xK S v0 12 → Rg v0 → self_X12_pushed v0 v1 v2 D = some r → xfr Rg D r.2) {v0 : Nat} {v1 : Int32} {v2 : Int32} {v3 : Int32} {s0 : Int32} {D : xDt} {r : Int32 × xDt} (k0 : xK S v0 12) (r0 : Rg v0) (h : f_X12_reduced_81 F P S self_X12_reduced self_X12_pushed v0 v1 v2 v3 s0 D = some r) : xfr Rg D r.2 := by
  unfold f_X12_reduced_81 at h
  refine xif_n h (fun c h => ?_) (fun c h => ?_)
  · skip
    refine xif_n h (fun c h => ?_) (fun c h => ?_)
    · skip
      refine xgrd_e h (fun g1 h => ?_)
      refine xbnd_e h (fun q2 e2 h => ?_)
      refine xfr_tr (U_X12_made hS hR k0 r0 e2) ?_
      obtain rfl := Option.some.inj h
      exact xfr_rf
    · skip
      refine xbnd_e h (fun q3 e3 h => ?_)
      refine xfr_tr (hself_X12_pushed k0 r0 e3) ?_
      refine xbnd_e h (fun q4 e4 h => ?_)
      refine xfr_tr (U_X12_made hS hR k0 r0 e4) ?_
      refine xbnd_e h (fun q5 e5 h => ?_)
      refine xfr_tr (U_X12_made hS hR k0 r0 e5) ?_
      refine xbnd_e h (fun q6 e6 h => ?_)
      refine xfr_tr (U_X12_made hS hR k0 r0 e6) ?_
      obtain rfl := Option.some.inj h
      exact xfr_rf
  · skip
    refine xbnd_e h (fun q7 e7 h => ?_)
    refine xfr_tr (hself_X12_pushed k0 r0 e7) ?_
    obtain rfl := Option.some.inj h
    exact xfr_rf

theorem u_X12_reduced_66 {F P : Nat} {S : xSt} (hS : xWF S) {Rg : Nat → Prop} (hR : xRC S Rg) {self_X12_reduced : Nat → Int32 → xDt → Option (Int32 × xDt)} (hself_X12_reduced : ∀ {v0 : Nat} {v1 : Int32} {D : xDt} {r : Int32 × xDt}, xK S v0 12 → Rg v0 → self_X12_reduced v0 v1 D = some r → xfr Rg D r.2) {self_X12_pushed : Nat → Int32 → Int32 → xDt → Option (Int32 × xDt)} (hself_X12_pushed : ∀ {v0 : Nat} {v1 : Int32} {v2 : Int32} {D : xDt} {r : Int32 × xDt}, xK S v0 12 → Rg v0 → self_X12_pushed v0 v1 v2 D = some r → xfr Rg D r.2) {v0 : Nat} {v1 : Int32} {v2 : Int32} {v3 : Int32} {D : xDt} {r : Int32 × xDt} (k0 : xK S v0 12) (r0 : Rg v0) (h : f_X12_reduced_66 F P S self_X12_reduced self_X12_pushed v0 v1 v2 v3 D = some r) : xfr Rg D r.2 := by
  unfold f_X12_reduced_66 at h
  exact u_X12_reduced_81 hS hR hself_X12_reduced hself_X12_pushed k0 r0 h

theorem U_X12_reduced_o {F P : Nat} {S : xSt} (hS : xWF S) {Rg : Nat → Prop} (hR : xRC S Rg) {self_X12_reduced : Nat → Int32 → xDt → Option (Int32 × xDt)} (hself_X12_reduced : ∀ {v0 : Nat} {v1 : Int32} {D : xDt} {r : Int32 × xDt}, xK S v0 12 → Rg v0 → self_X12_reduced v0 v1 D = some r → xfr Rg D r.2) {self_X12_pushed : Nat → Int32 → Int32 → xDt → Option (Int32 × xDt)} (hself_X12_pushed : ∀ {v0 : Nat} {v1 : Int32} {v2 : Int32} {D : xDt} {r : Int32 × xDt}, xK S v0 12 → Rg v0 → self_X12_pushed v0 v1 v2 D = some r → xfr Rg D r.2) {v0 : Nat} {v1 : Int32} {D : xDt} {r : Int32 × xDt} (k0 : xK S v0 12) (r0 : Rg v0) (h : f_X12_reduced_o F P S self_X12_reduced self_X12_pushed v0 v1 D = some r) : xfr Rg D r.2 := by
  unfold f_X12_reduced_o at h
  refine xif_p h (fun c h => ?_) (fun c h => ?_)
  · skip
    refine xgrd_e h (fun g1 h => ?_)
    refine xlet_e h (fun v2_2 ev2_2 h => ?_)
    refine xif_p h (fun c h => ?_) (fun c h => ?_)
    · skip
      refine xgrd_e h (fun g3 h => ?_)
      refine xbnd_e h (fun q4 e4 h => ?_)
      refine xfr_tr (hself_X12_reduced k0 r0 e4) ?_
      refine xgrd_e h (fun g5 h => ?_)
      refine xif_p h (fun c h => ?_) (fun c h => ?_)
      · skip
        exact u_X12_reduced_66 hS hR hself_X12_reduced hself_X12_pushed k0 r0 h
      · skip
        refine xif_p h (fun c h => ?_) (fun c h => ?_)
        · skip
          refine xgrd_e h (fun g6 h => ?_)
          refine xbnd_e h (fun q7 e7 h => ?_)
          refine xfr_tr (hself_X12_reduced k0 r0 e7) ?_
          exact u_X12_reduced_81 hS hR hself_X12_reduced hself_X12_pushed k0 r0 h
        · skip
          exact u_X12_reduced_66 hS hR hself_X12_reduced hself_X12_pushed k0 r0 h
    · skip
      refine xgrd_e h (fun g8 h => ?_)
      refine xbnd_e h (fun q9 e9 h => ?_)
      refine xfr_tr (U_X12_made hS hR k0 r0 e9) ?_
      obtain rfl := Option.some.inj h
      exact xfr_rf
  · skip
    obtain rfl := Option.some.inj h
    exact xfr_rf

theorem U_X12_pushed_o {F P : Nat} {S : xSt} (hS : xWF S) {Rg : Nat → Prop} (hR : xRC S Rg) {self_X12_pushed : Nat → Int32 → Int32 → xDt → Option (Int32 × xDt)} (hself_X12_pushed : ∀ {v0 : Nat} {v1 : Int32} {v2 : Int32} {D : xDt} {r : Int32 × xDt}, xK S v0 12 → Rg v0 → self_X12_pushed v0 v1 v2 D = some r → xfr Rg D r.2) {v0 : Nat} {v1 : Int32} {v2 : Int32} {D : xDt} {r : Int32 × xDt} (k0 : xK S v0 12) (r0 : Rg v0) (h : f_X12_pushed_o F P S self_X12_pushed v0 v1 v2 D = some r) : xfr Rg D r.2 := by
  unfold f_X12_pushed_o at h
  refine xif_p h (fun c h => ?_) (fun c h => ?_)
  · skip
    refine xgrd_e h (fun g1 h => ?_)
    by_cases c0 : (D.1 (xr S v0 8) (v2).toNatClampNeg) = 4
    · rw [if_pos c0] at h
      refine xgrd_e h (fun g2 h => ?_)
      refine xbnd_e h (fun q3 e3 h => ?_)
      refine xfr_tr (hself_X12_pushed k0 r0 e3) ?_
      refine xbnd_e h (fun q4 e4 h => ?_)
      refine xfr_tr (U_X12_made hS hR k0 r0 e4) ?_
      refine xbnd_e h (fun q5 e5 h => ?_)
      refine xfr_tr (U_X12_made hS hR k0 r0 e5) ?_
      obtain rfl := Option.some.inj h
      exact xfr_rf
    · rw [if_neg c0] at h
      by_cases c1 : (D.1 (xr S v0 8) (v2).toNatClampNeg) = 5
      · rw [if_pos c1] at h
        refine xgrd_e h (fun g6 h => ?_)
        refine xbnd_e h (fun q7 e7 h => ?_)
        refine xfr_tr (hself_X12_pushed k0 r0 e7) ?_
        refine xgrd_e h (fun g8 h => ?_)
        refine xbnd_e h (fun q9 e9 h => ?_)
        refine xfr_tr (U_X12_made hS hR k0 r0 e9) ?_
        refine xbnd_e h (fun q10 e10 h => ?_)
        refine xfr_tr (U_X12_made hS hR k0 r0 e10) ?_
        obtain rfl := Option.some.inj h
        exact xfr_rf
      · rw [if_neg c1] at h
        by_cases c2 : (D.1 (xr S v0 8) (v2).toNatClampNeg) = 6
        · rw [if_pos c2] at h
          refine xgrd_e h (fun g11 h => ?_)
          refine xbnd_e h (fun q12 e12 h => ?_)
          refine xfr_tr (hself_X12_pushed k0 r0 e12) ?_
          refine xbnd_e h (fun q13 e13 h => ?_)
          refine xfr_tr (U_X12_made hS hR k0 r0 e13) ?_
          refine xgrd_e h (fun g14 h => ?_)
          refine xbnd_e h (fun q15 e15 h => ?_)
          refine xfr_tr (U_X12_made hS hR k0 r0 e15) ?_
          refine xbnd_e h (fun q16 e16 h => ?_)
          refine xfr_tr (U_X12_made hS hR k0 r0 e16) ?_
          obtain rfl := Option.some.inj h
          exact xfr_rf
        · rw [if_neg c2] at h
          by_cases c3 : (D.1 (xr S v0 8) (v2).toNatClampNeg) = 7
          · rw [if_pos c3] at h
            refine xbnd_e h (fun q17 e17 h => ?_)
            refine xfr_tr (U_X12_made hS hR k0 r0 e17) ?_
            obtain rfl := Option.some.inj h
            exact xfr_rf
          · rw [if_neg c3] at h
            by_cases c4 : (D.1 (xr S v0 8) (v2).toNatClampNeg) = 8
            · rw [if_pos c4] at h
              refine xbnd_e h (fun q18 e18 h => ?_)
              refine xfr_tr (U_X12_made hS hR k0 r0 e18) ?_
              obtain rfl := Option.some.inj h
              exact xfr_rf
            · rw [if_neg c4] at h
              by_cases c5 : (D.1 (xr S v0 8) (v2).toNatClampNeg) = 9
              · rw [if_pos c5] at h
                refine xbnd_e h (fun q19 e19 h => ?_)
                refine xfr_tr (U_X12_made hS hR k0 r0 e19) ?_
                obtain rfl := Option.some.inj h
                exact xfr_rf
              · rw [if_neg c5] at h
                by_cases c6 : (D.1 (xr S v0 8) (v2).toNatClampNeg) = 10
                · rw [if_pos c6] at h
                  refine xgrd_e h (fun g20 h => ?_)
                  refine xbnd_e h (fun q21 e21 h => ?_)
                  refine xfr_tr (hself_X12_pushed k0 r0 e21) ?_
                  refine xgrd_e h (fun g22 h => ?_)
                  refine xgrd_e h (fun g23 h => ?_)
                  refine xbnd_e h (fun q24 e24 h => ?_)
                  refine xfr_tr (hself_X12_pushed k0 r0 e24) ?_
                  refine xbnd_e h (fun q25 e25 h => ?_)
                  refine xfr_tr (U_X12_made hS hR k0 r0 e25) ?_
                  obtain rfl := Option.some.inj h
                  exact xfr_rf
                · rw [if_neg c6] at h
                  by_cases c7 : (D.1 (xr S v0 8) (v2).toNatClampNeg) = 11
                  · rw [if_pos c7] at h
                    refine xgrd_e h (fun g26 h => ?_)
                    refine xbnd_e h (fun q27 e27 h => ?_)
                    refine xfr_tr (hself_X12_pushed k0 r0 e27) ?_
                    refine xgrd_e h (fun g28 h => ?_)
                    refine xgrd_e h (fun g29 h => ?_)
                    refine xbnd_e h (fun q30 e30 h => ?_)
                    refine xfr_tr (hself_X12_pushed k0 r0 e30) ?_
                    refine xbnd_e h (fun q31 e31 h => ?_)
                    refine xfr_tr (U_X12_made hS hR k0 r0 e31) ?_
                    obtain rfl := Option.some.inj h
                    exact xfr_rf
                  · rw [if_neg c7] at h
                    by_cases c8 : (D.1 (xr S v0 8) (v2).toNatClampNeg) = 12
                    · rw [if_pos c8] at h
                      refine xgrd_e h (fun g32 h => ?_)
                      refine xbnd_e h (fun q33 e33 h => ?_)
                      refine xfr_tr (hself_X12_pushed k0 r0 e33) ?_
                      refine xgrd_e h (fun g34 h => ?_)
                      refine xgrd_e h (fun g35 h => ?_)
                      refine xbnd_e h (fun q36 e36 h => ?_)
                      refine xfr_tr (hself_X12_pushed k0 r0 e36) ?_
                      refine xbnd_e h (fun q37 e37 h => ?_)
                      refine xfr_tr (U_X12_made hS hR k0 r0 e37) ?_
                      obtain rfl := Option.some.inj h
                      exact xfr_rf
                    · rw [if_neg c8] at h
                      by_cases c9 : (D.1 (xr S v0 8) (v2).toNatClampNeg) = 13
                      · rw [if_pos c9] at h
                        refine xgrd_e h (fun g38 h => ?_)
                        refine xbnd_e h (fun q39 e39 h => ?_)
                        refine xfr_tr (hself_X12_pushed k0 r0 e39) ?_
                        refine xgrd_e h (fun g40 h => ?_)
                        refine xgrd_e h (fun g41 h => ?_)
                        refine xbnd_e h (fun q42 e42 h => ?_)
                        refine xfr_tr (hself_X12_pushed k0 r0 e42) ?_
                        refine xbnd_e h (fun q43 e43 h => ?_)
                        refine xfr_tr (U_X12_made hS hR k0 r0 e43) ?_
                        obtain rfl := Option.some.inj h
                        exact xfr_rf
                      · rw [if_neg c9] at h
                        refine xbnd_e h (fun q44 e44 h => ?_)
                        refine xfr_tr (U_X12_made hS hR k0 r0 e44) ?_
                        obtain rfl := Option.some.inj h
                        exact xfr_rf
  · skip
    obtain rfl := Option.some.inj h
    exact xfr_rf

theorem U_X12_reduced_all {F P : Nat} {S : xSt} (hS : xWF S) {Rg : Nat → Prop} (hR : xRC S Rg) : ∀ (n : Nat), (∀ {v0 : Nat} {v1 : Int32} {D : xDt} {r : Int32 × xDt}, xK S v0 12 → Rg v0 → f_X12_reduced F P S n v0 v1 D = some r → xfr Rg D r.2) ∧ (∀ {v0 : Nat} {v1 : Int32} {v2 : Int32} {D : xDt} {r : Int32 × xDt}, xK S v0 12 → Rg v0 → f_X12_pushed F P S n v0 v1 v2 D = some r → xfr Rg D r.2) := by
  intro n
  induction n with
  | zero => exact ⟨(by intros; rename_i h; cases h), (by intros; rename_i h; cases h)⟩
  | succ n ih =>
    obtain ⟨ih_X12_reduced, ih_X12_pushed⟩ := ih
    exact ⟨fun k0 r0 h => U_X12_reduced_o (F := F) (P := P) (self_X12_reduced := f_X12_reduced F P S n) (self_X12_pushed := f_X12_pushed F P S n) hS hR (fun k0 r0 h => ih_X12_reduced k0 r0 h) (fun k0 r0 h => ih_X12_pushed k0 r0 h) k0 r0 h, fun k0 r0 h => U_X12_pushed_o (F := F) (P := P) (self_X12_pushed := f_X12_pushed F P S n) hS hR (fun k0 r0 h => ih_X12_pushed k0 r0 h) k0 r0 h⟩
theorem U_X12_reduced {F P : Nat} {S : xSt} (hS : xWF S) {Rg : Nat → Prop} (hR : xRC S Rg) (n : Nat) {v0 : Nat} {v1 : Int32} {D : xDt} {r : Int32 × xDt} (k0 : xK S v0 12) (r0 : Rg v0) (h : f_X12_reduced F P S n v0 v1 D = some r) : xfr Rg D r.2 := (U_X12_reduced_all hS hR n).1 k0 r0 h
theorem U_X12_pushed {F P : Nat} {S : xSt} (hS : xWF S) {Rg : Nat → Prop} (hR : xRC S Rg) (n : Nat) {v0 : Nat} {v1 : Int32} {v2 : Int32} {D : xDt} {r : Int32 × xDt} (k0 : xK S v0 12) (r0 : Rg v0) (h : f_X12_pushed F P S n v0 v1 v2 D = some r) : xfr Rg D r.2 := (U_X12_reduced_all hS hR n).2 k0 r0 h

theorem U_X12_reduce {F P : Nat} {S : xSt} (hS : xWF S) {Rg : Nat → Prop} (hR : xRC S Rg) {v0 : Nat} {D : xDt} {r : Int32 × xDt} (k0 : xK S v0 12) (r0 : Rg v0) (h : f_X12_reduce F P S v0 D = some r) : xfr Rg D r.2 := by
  unfold f_X12_reduce at h
  refine xbnd_e h (fun q1 e1 h => ?_)
  refine xfr_tr (U_X12_has hS hR P k0 e1) ?_
  refine xif_p h (fun c h => ?_) (fun c h => ?_)
  · skip
    refine xlet_e h (fun D2 eD2 h => ?_)
    refine xfr_i r0 eD2 ?_
    refine xlet_e h (fun D3 eD3 h => ?_)
    refine xfr_i r0 eD3 ?_
    refine xbnd_e h (fun q4 e4 h => ?_)
    refine xfr_tr (U_X12_reduced hS hR P k0 r0 e4) ?_
    refine xif_n h (fun c h => ?_) (fun c h => ?_)
    · skip
      obtain rfl := Option.some.inj h
      exact xfr_rf
    · skip
      refine xgrd_e h (fun g5 h => ?_)
      refine xif_p h (fun c h => ?_) (fun c h => ?_)
      · skip
        refine xlet_e h (fun v2_6 ev2_6 h => ?_)
        refine xgrd_e h (fun g7 h => ?_)
        refine xlet_e h (fun v3_8 ev3_8 h => ?_)
        refine xbnd_e h (fun q9 e9 h => ?_)
        refine xfr_tr (U_X12_moved hS hR k0 r0 e9) ?_
        refine xlet_e h (fun D10 eD10 h => ?_)
        refine xfr_i r0 eD10 ?_
        obtain rfl := Option.some.inj h
        exact xfr_rf
      · skip
        obtain rfl := Option.some.inj h
        exact xfr_rf
  · skip
    obtain rfl := Option.some.inj h
    exact xfr_rf

theorem u_X12_shared_62 {F P : Nat} {S : xSt} (hS : xWF S) {Rg : Nat → Prop} (hR : xRC S Rg) {rec_5 : Nat → Int32 → Int32 → Int32 → Int32 → Int32 → xDt → Option (Int32 × xDt)} (hrec_5 : ∀ {v0 : Nat} {v1 : Int32} {v2 : Int32} {v3 : Int32} {v4 : Int32} {v5 : Int32} {D : xDt} {r : Int32 × xDt}, xK S v0 12 → Rg v0 → rec_5 v0 v1 v2 v3 v4 v5 D = some r → xfr Rg D r.2) {v0 : Nat} {v1 : Int32} {v2 : Int32} {v3 : Int32} {v4 : Int32} {v5 : Int32} {D : xDt} {r : Int32 × xDt} (k0 : xK S v0 12) (r0 : Rg v0) (h : f_X12_shared_62 F P S rec_5 v0 v1 v2 v3 v4 v5 D = some r) : xfr Rg D r.2 := by
  unfold f_X12_shared_62 at h
  refine xlet_e h (fun v5_1 ev5_1 h => ?_)
  exact hrec_5 k0 r0 h

theorem u_X12_shared_5s {F P : Nat} {S : xSt} (hS : xWF S) {Rg : Nat → Prop} (hR : xRC S Rg) {rec_5 : Nat → Int32 → Int32 → Int32 → Int32 → Int32 → xDt → Option (Int32 × xDt)} (hrec_5 : ∀ {v0 : Nat} {v1 : Int32} {v2 : Int32} {v3 : Int32} {v4 : Int32} {v5 : Int32} {D : xDt} {r : Int32 × xDt}, xK S v0 12 → Rg v0 → rec_5 v0 v1 v2 v3 v4 v5 D = some r → xfr Rg D r.2) {v0 : Nat} {v1 : Int32} {v2 : Int32} {v3 : Int32} {v4 : Int32} {v5 : Int32} {D : xDt} {r : Int32 × xDt} (k0 : xK S v0 12) (r0 : Rg v0) (h : f_X12_shared_5s F P S rec_5 v0 v1 v2 v3 v4 v5 D = some r) : xfr Rg D r.2 := by
  unfold f_X12_shared_5s at h
  refine xif_p h (fun c h => ?_) (fun c h => ?_)
  · skip
    refine xbnd_e h (fun q1 e1 h => ?_)
    refine xfr_tr (U_X12_node hS hR k0 r0 e1) ?_
    obtain rfl := Option.some.inj h
    exact xfr_rf
  · skip
    refine xgrd_e h (fun g2 h => ?_)
    refine xif_n h (fun c h => ?_) (fun c h => ?_)
    · skip
      exact u_X12_shared_62 hS hR hrec_5 k0 r0 h
    · skip
      refine xgrd_e h (fun g3 h => ?_)
      refine xif_n h (fun c h => ?_) (fun c h => ?_)
      · skip
        exact u_X12_shared_62 hS hR hrec_5 k0 r0 h
      · skip
        refine xgrd_e h (fun g4 h => ?_)
        refine xif_n h (fun c h => ?_) (fun c h => ?_)
        · skip
          exact u_X12_shared_62 hS hR hrec_5 k0 r0 h
        · skip
          refine xgrd_e h (fun g5 h => ?_)
          refine xif_n h (fun c h => ?_) (fun c h => ?_)
          · skip
            exact u_X12_shared_62 hS hR hrec_5 k0 r0 h
          · skip
            obtain rfl := Option.some.inj h
            exact xfr_rf
theorem u_X12_shared_5 {F P : Nat} {S : xSt} (hS : xWF S) {Rg : Nat → Prop} (hR : xRC S Rg) : ∀ (n : Nat) {v0 : Nat} {v1 : Int32} {v2 : Int32} {v3 : Int32} {v4 : Int32} {v5 : Int32} {D : xDt} {r : Int32 × xDt}, xK S v0 12 → Rg v0 → f_X12_shared_5 F P S n v0 v1 v2 v3 v4 v5 D = some r → xfr Rg D r.2 := by
  intro n
  induction n with
  | zero => intros; rename_i h; cases h
  | succ n ih =>
    intro v0 v1 v2 v3 v4 v5 D r k0 r0 h
    exact u_X12_shared_5s hS hR (fun k0 r0 h => ih k0 r0 h) k0 r0 h

theorem U_X12_shared {F P : Nat} {S : xSt} (hS : xWF S) {Rg : Nat → Prop} (hR : xRC S Rg) {v0 : Nat} {v1 : Int32} {v2 : Int32} {v3 : Int32} {v4 : Int32} {D : xDt} {r : Int32 × xDt} (k0 : xK S v0 12) (r0 : Rg v0) (h : f_X12_shared F P S v0 v1 v2 v3 v4 D = some r) : xfr Rg D r.2 := by
  unfold f_X12_shared at h
  exact u_X12_shared_5 hS hR F k0 r0 h

theorem u_X12_plain_181 {F P : Nat} {S : xSt} (hS : xWF S) {Rg : Nat → Prop} (hR : xRC S Rg) {self_X12_plain : Nat → Int32 → xDt → Option (Int32 × xDt)} (hself_X12_plain : ∀ {v0 : Nat} {v1 : Int32} {D : xDt} {r : Int32 × xDt}, xK S v0 12 → Rg v0 → self_X12_plain v0 v1 D = some r → xfr Rg D r.2) {rec_123 : Nat → Int32 → Int32 → Int32 → Int32 → xDt → Option (Int32 × xDt)} (hrec_123 : ∀ {v0 : Nat} {v1 : Int32} {v3 : Int32} {v5 : Int32} {v6 : Int32} {D : xDt} {r : Int32 × xDt}, xK S v0 12 → Rg v0 → rec_123 v0 v1 v3 v5 v6 D = some r → xfr Rg D r.2) {v0 : Nat} {v1 : Int32} {v3 : Int32} {v5 : Int32} {v6 : Int32} {D : xDt} {r : Int32 × xDt} (k0 : xK S v0 12) (r0 : Rg v0) (h : f_X12_plain_181 F P S self_X12_plain rec_123 v0 v1 v3 v5 v6 D = some r) : xfr Rg D r.2 := by
  unfold f_X12_plain_181 at h
  refine xlet_e h (fun v6_1 ev6_1 h => ?_)
  exact hrec_123 k0 r0 h

theorem u_X12_plain_179 {F P : Nat} {S : xSt} (hS : xWF S) {Rg : Nat → Prop} (hR : xRC S Rg) {self_X12_plain : Nat → Int32 → xDt → Option (Int32 × xDt)} (hself_X12_plain : ∀ {v0 : Nat} {v1 : Int32} {D : xDt} {r : Int32 × xDt}, xK S v0 12 → Rg v0 → self_X12_plain v0 v1 D = some r → xfr Rg D r.2) {rec_123 : Nat → Int32 → Int32 → Int32 → Int32 → xDt → Option (Int32 × xDt)} (hrec_123 : ∀ {v0 : Nat} {v1 : Int32} {v3 : Int32} {v5 : Int32} {v6 : Int32} {D : xDt} {r : Int32 × xDt}, xK S v0 12 → Rg v0 → rec_123 v0 v1 v3 v5 v6 D = some r → xfr Rg D r.2) {v0 : Nat} {v1 : Int32} {v3 : Int32} {v6 : Int32} {s0 : Int32} {D : xDt} {r : Int32 × xDt} (k0 : xK S v0 12) (r0 : Rg v0) (h : f_X12_plain_179 F P S self_X12_plain rec_123 v0 v1 v3 v6 s0 D = some r) : xfr Rg D r.2 := by
  unfold f_X12_plain_179 at h
  exact u_X12_plain_181 hS hR hself_X12_plain hrec_123 k0 r0 h

theorem u_X12_plain_123s {F P : Nat} {S : xSt} (hS : xWF S) {Rg : Nat → Prop} (hR : xRC S Rg) {self_X12_plain : Nat → Int32 → xDt → Option (Int32 × xDt)} (hself_X12_plain : ∀ {v0 : Nat} {v1 : Int32} {D : xDt} {r : Int32 × xDt}, xK S v0 12 → Rg v0 → self_X12_plain v0 v1 D = some r → xfr Rg D r.2) {rec_123 : Nat → Int32 → Int32 → Int32 → Int32 → xDt → Option (Int32 × xDt)} (hrec_123 : ∀ {v0 : Nat} {v1 : Int32} {v3 : Int32} {v5 : Int32} {v6 : Int32} {D : xDt} {r : Int32 × xDt}, xK S v0 12 → Rg v0 → rec_123 v0 v1 v3 v5 v6 D = some r → xfr Rg D r.2) {v0 : Nat} {v1 : Int32} {v3 : Int32} {v5 : Int32} {v6 : Int32} {D : xDt} {r : Int32 × xDt} (k0 : xK S v0 12) (r0 : Rg v0) (h : f_X12_plain_123s F P S self_X12_plain rec_123 v0 v1 v3 v5 v6 D = some r) : xfr Rg D r.2 := by
  unfold f_X12_plain_123s at h
  refine xif_p h (fun c h => ?_) (fun c h => ?_)
  · skip
    obtain rfl := Option.some.inj h
    exact xfr_rf
  · skip
    refine xgrd_e h (fun g1 h => ?_)
    refine xif_n h (fun c h => ?_) (fun c h => ?_)
    · skip
      exact u_X12_plain_181 hS hR hself_X12_plain hrec_123 k0 r0 h
    · skip
      refine xbnd_e h (fun q2 e2 h => ?_)
      refine xfr_tr (U_X12_shared hS hR k0 r0 e2) ?_
      refine xif_p h (fun c h => ?_) (fun c h => ?_)
      · skip
        refine xbnd_e h (fun q3 e3 h => ?_)
        refine xfr_tr (U_X12_shared hS hR k0 r0 e3) ?_
        exact u_X12_plain_179 hS hR hself_X12_plain hrec_123 k0 r0 h
      · skip
        exact u_X12_plain_179 hS hR hself_X12_plain hrec_123 k0 r0 h
theorem u_X12_plain_123 {F P : Nat} {S : xSt} (hS : xWF S) {Rg : Nat → Prop} (hR : xRC S Rg) {self_X12_plain : Nat → Int32 → xDt → Option (Int32 × xDt)} (hself_X12_plain : ∀ {v0 : Nat} {v1 : Int32} {D : xDt} {r : Int32 × xDt}, xK S v0 12 → Rg v0 → self_X12_plain v0 v1 D = some r → xfr Rg D r.2) : ∀ (n : Nat) {v0 : Nat} {v1 : Int32} {v3 : Int32} {v5 : Int32} {v6 : Int32} {D : xDt} {r : Int32 × xDt}, xK S v0 12 → Rg v0 → f_X12_plain_123 F P S self_X12_plain n v0 v1 v3 v5 v6 D = some r → xfr Rg D r.2 := by
  intro n
  induction n with
  | zero => intros; rename_i h; cases h
  | succ n ih =>
    intro v0 v1 v3 v5 v6 D r k0 r0 h
    exact u_X12_plain_123s hS hR hself_X12_plain (fun k0 r0 h => ih k0 r0 h) k0 r0 h

theorem u_X12_plain_56 {F P : Nat} {S : xSt} (hS : xWF S) {Rg : Nat → Prop} (hR : xRC S Rg) {self_X12_plain : Nat → Int32 → xDt → Option (Int32 × xDt)} (hself_X12_plain : ∀ {v0 : Nat} {v1 : Int32} {D : xDt} {r : Int32 × xDt}, xK S v0 12 → Rg v0 → self_X12_plain v0 v1 D = some r → xfr Rg D r.2) {v0 : Nat} {v1 : Int32} {v2 : Int32} {v3 : Int32} {s0 : Int32} {D : xDt} {r : Int32 × xDt} (k0 : xK S v0 12) (r0 : Rg v0) (h : f_X12_plain_56 F P S self_X12_plain v0 v1 v2 v3 s0 D = some r) : xfr Rg D r.2 := by
  unfold f_X12_plain_56 at h
  refine xif_n h (fun c h => ?_) (fun c h => ?_)
  · skip
    refine xif_p h (fun c h => ?_) (fun c h => ?_)
    · skip
      exact u_X12_plain_123 hS hR hself_X12_plain F k0 r0 h
    · skip
      refine xgrd_e h (fun g1 h => ?_)
      refine xbnd_e h (fun q2 e2 h => ?_)
      refine xfr_tr (U_X12_shared hS hR k0 r0 e2) ?_
      obtain rfl := Option.some.inj h
      exact xfr_rf
  · skip
    refine xbnd_e h (fun q3 e3 h => ?_)
    refine xfr_tr (U_X12_shared hS hR k0 r0 e3) ?_
    refine xgrd_e h (fun g4 h => ?_)
    refine xbnd_e h (fun q5 e5 h => ?_)
    refine xfr_tr (U_X12_shared hS hR k0 r0 e5) ?_
    refine xbnd_e h (fun q6 e6 h => ?_)
    refine xfr_tr (U_X12_shared hS hR k0 r0 e6) ?_
    obtain rfl := Option.some.inj h
    exact xfr_rf

theorem u_X12_plain_31 {F P : Nat} {S : xSt} (hS : xWF S) {Rg : Nat → Prop} (hR : xRC S Rg) {self_X12_plain : Nat → Int32 → xDt → Option (Int32 × xDt)} (hself_X12_plain : ∀ {v0 : Nat} {v1 : Int32} {D : xDt} {r : Int32 × xDt}, xK S v0 12 → Rg v0 → self_X12_plain v0 v1 D = some r → xfr Rg D r.2) {v0 : Nat} {v1 : Int32} {v2 : Int32} {s0 : Int32} {D : xDt} {r : Int32 × xDt} (k0 : xK S v0 12) (r0 : Rg v0) (h : f_X12_plain_31 F P S self_X12_plain v0 v1 v2 s0 D = some r) : xfr Rg D r.2 := by
  unfold f_X12_plain_31 at h
  refine xgrd_e h (fun g1 h => ?_)
  refine xif_p h (fun c h => ?_) (fun c h => ?_)
  · skip
    refine xgrd_e h (fun g2 h => ?_)
    refine xbnd_e h (fun q3 e3 h => ?_)
    refine xfr_tr (hself_X12_plain k0 r0 e3) ?_
    exact u_X12_plain_56 hS hR hself_X12_plain k0 r0 h
  · skip
    exact u_X12_plain_56 hS hR hself_X12_plain k0 r0 h

theorem U_X12_plain_o {F P : Nat} {S : xSt} (hS : xWF S) {Rg : Nat → Prop} (hR : xRC S Rg) {self_X12_plain : Nat → Int32 → xDt → Option (Int32 × xDt)} (hself_X12_plain : ∀ {v0 : Nat} {v1 : Int32} {D : xDt} {r : Int32 × xDt}, xK S v0 12 → Rg v0 → self_X12_plain v0 v1 D = some r → xfr Rg D r.2) {v0 : Nat} {v1 : Int32} {D : xDt} {r : Int32 × xDt} (k0 : xK S v0 12) (r0 : Rg v0) (h : f_X12_plain_o F P S self_X12_plain v0 v1 D = some r) : xfr Rg D r.2 := by
  unfold f_X12_plain_o at h
  refine xgrd_e h (fun g1 h => ?_)
  refine xlet_e h (fun v2_2 ev2_2 h => ?_)
  refine xgrd_e h (fun g3 h => ?_)
  refine xif_p h (fun c h => ?_) (fun c h => ?_)
  · skip
    refine xgrd_e h (fun g4 h => ?_)
    refine xbnd_e h (fun q5 e5 h => ?_)
    refine xfr_tr (hself_X12_plain k0 r0 e5) ?_
    exact u_X12_plain_31 hS hR hself_X12_plain k0 r0 h
  · skip
    exact u_X12_plain_31 hS hR hself_X12_plain k0 r0 h

theorem U_X12_plain {F P : Nat} {S : xSt} (hS : xWF S) {Rg : Nat → Prop} (hR : xRC S Rg) : ∀ (n : Nat), ∀ {v0 : Nat} {v1 : Int32} {D : xDt} {r : Int32 × xDt}, xK S v0 12 → Rg v0 → f_X12_plain F P S n v0 v1 D = some r → xfr Rg D r.2 := by
  intro n
  induction n with
  | zero => intros; rename_i h; cases h
  | succ n ih =>
    intro v0 v1 D r k0 r0 h
    exact U_X12_plain_o hS hR (fun k0 r0 h => ih k0 r0 h) k0 r0 h

theorem u_X12_inBase_2s {F P : Nat} {S : xSt} (hS : xWF S) {Rg : Nat → Prop} (hR : xRC S Rg) {rec_2 : Nat → Int32 → Int32 → xDt → Option (xDt)} (hrec_2 : ∀ {v0 : Nat} {v1 : Int32} {v2 : Int32} {D : xDt} {r : xDt}, xK S v0 12 → Rg v0 → rec_2 v0 v1 v2 D = some r → xfr Rg D r) {v0 : Nat} {v1 : Int32} {v2 : Int32} {D : xDt} {r : xDt} (k0 : xK S v0 12) (r0 : Rg v0) (h : f_X12_inBase_2s F P S rec_2 v0 v1 v2 D = some r) : xfr Rg D r := by
  unfold f_X12_inBase_2s at h
  refine xif_p h (fun c h => ?_) (fun c h => ?_)
  · skip
    refine xgrd_e h (fun g1 h => ?_)
    refine xlet_e h (fun D2 eD2 h => ?_)
    refine xfr_i (hR.1 k0 r0 37 100 rfl) eD2 ?_
    refine xlet_e h (fun D3 eD3 h => ?_)
    refine xfr_i r0 eD3 ?_
    obtain rfl := Option.some.inj h
    exact xfr_rf
  · skip
    refine xgrd_e h (fun g4 h => ?_)
    refine xif_n h (fun c h => ?_) (fun c h => ?_)
    · skip
      refine xlet_e h (fun v2_5 ev2_5 h => ?_)
      exact hrec_2 k0 r0 h
    · skip
      obtain rfl := Option.some.inj h
      exact xfr_rf
theorem u_X12_inBase_2 {F P : Nat} {S : xSt} (hS : xWF S) {Rg : Nat → Prop} (hR : xRC S Rg) : ∀ (n : Nat) {v0 : Nat} {v1 : Int32} {v2 : Int32} {D : xDt} {r : xDt}, xK S v0 12 → Rg v0 → f_X12_inBase_2 F P S n v0 v1 v2 D = some r → xfr Rg D r := by
  intro n
  induction n with
  | zero => intros; rename_i h; cases h
  | succ n ih =>
    intro v0 v1 v2 D r k0 r0 h
    exact u_X12_inBase_2s hS hR (fun k0 r0 h => ih k0 r0 h) k0 r0 h

theorem U_X12_inBase {F P : Nat} {S : xSt} (hS : xWF S) {Rg : Nat → Prop} (hR : xRC S Rg) {v0 : Nat} {v1 : Int32} {D : xDt} {r : xDt} (k0 : xK S v0 12) (r0 : Rg v0) (h : f_X12_inBase F P S v0 v1 D = some r) : xfr Rg D r := by
  unfold f_X12_inBase at h
  exact u_X12_inBase_2 hS hR F k0 r0 h

theorem u_X12_placeInBase_28 {F P : Nat} {S : xSt} (hS : xWF S) {Rg : Nat → Prop} (hR : xRC S Rg) {rec_5 : Nat → Int32 → Int32 → Int32 → xDt → Option (Int32 × xDt)} (hrec_5 : ∀ {v0 : Nat} {v1 : Int32} {v2 : Int32} {v3 : Int32} {D : xDt} {r : Int32 × xDt}, xK S v0 12 → rec_5 v0 v1 v2 v3 D = some r → xfr Rg D r.2) {v0 : Nat} {v1 : Int32} {v3 : Int32} {s0 : Int32} {D : xDt} {r : Int32 × xDt} (k0 : xK S v0 12) (h : f_X12_placeInBase_28 F P S rec_5 v0 v1 v3 s0 D = some r) : xfr Rg D r.2 := by
  unfold f_X12_placeInBase_28 at h
  refine xlet_e h (fun v3_1 ev3_1 h => ?_)
  exact hrec_5 k0 h

theorem u_X12_placeInBase_5s {F P : Nat} {S : xSt} (hS : xWF S) {Rg : Nat → Prop} (hR : xRC S Rg) {rec_5 : Nat → Int32 → Int32 → Int32 → xDt → Option (Int32 × xDt)} (hrec_5 : ∀ {v0 : Nat} {v1 : Int32} {v2 : Int32} {v3 : Int32} {D : xDt} {r : Int32 × xDt}, xK S v0 12 → rec_5 v0 v1 v2 v3 D = some r → xfr Rg D r.2) {v0 : Nat} {v1 : Int32} {v2 : Int32} {v3 : Int32} {D : xDt} {r : Int32 × xDt} (k0 : xK S v0 12) (h : f_X12_placeInBase_5s F P S rec_5 v0 v1 v2 v3 D = some r) : xfr Rg D r.2 := by
  unfold f_X12_placeInBase_5s at h
  refine xif_p h (fun c h => ?_) (fun c h => ?_)
  · skip
    obtain rfl := Option.some.inj h
    exact xfr_rf
  · skip
    refine xgrd_e h (fun g1 h => ?_)
    refine xif_n h (fun c h => ?_) (fun c h => ?_)
    · skip
      exact u_X12_placeInBase_28 hS hR hrec_5 k0 h
    · skip
      exact u_X12_placeInBase_28 hS hR hrec_5 k0 h
theorem u_X12_placeInBase_5 {F P : Nat} {S : xSt} (hS : xWF S) {Rg : Nat → Prop} (hR : xRC S Rg) : ∀ (n : Nat) {v0 : Nat} {v1 : Int32} {v2 : Int32} {v3 : Int32} {D : xDt} {r : Int32 × xDt}, xK S v0 12 → f_X12_placeInBase_5 F P S n v0 v1 v2 v3 D = some r → xfr Rg D r.2 := by
  intro n
  induction n with
  | zero => intros; rename_i h; cases h
  | succ n ih =>
    intro v0 v1 v2 v3 D r k0 h
    exact u_X12_placeInBase_5s hS hR (fun k0 h => ih k0 h) k0 h

theorem U_X12_placeInBase {F P : Nat} {S : xSt} (hS : xWF S) {Rg : Nat → Prop} (hR : xRC S Rg) {v0 : Nat} {v1 : Int32} {D : xDt} {r : Int32 × xDt} (k0 : xK S v0 12) (h : f_X12_placeInBase F P S v0 v1 D = some r) : xfr Rg D r.2 := by
  unfold f_X12_placeInBase at h
  exact u_X12_placeInBase_5 hS hR F k0 h

theorem u_X12_reckon_213 {F P : Nat} {S : xSt} (hS : xWF S) {Rg : Nat → Prop} (hR : xRC S Rg) {rec_4 : Nat → Int32 → Int32 → Int32 → xDt → Option (xDt)} (hrec_4 : ∀ {v0 : Nat} {v1 : Int32} {v2 : Int32} {v3 : Int32} {D : xDt} {r : xDt}, xK S v0 12 → Rg v0 → rec_4 v0 v1 v2 v3 D = some r → xfr Rg D r) {v0 : Nat} {v1 : Int32} {v2 : Int32} {v3 : Int32} {v7 : Int32} {D : xDt} {r : xDt} (k0 : xK S v0 12) (r0 : Rg v0) (h : f_X12_reckon_213 F P S rec_4 v0 v1 v2 v3 v7 D = some r) : xfr Rg D r := by
  unfold f_X12_reckon_213 at h
  refine xgrd_e h (fun g1 h => ?_)
  refine xlet_e h (fun D2 eD2 h => ?_)
  refine xfr_i (hR.1 k0 r0 43 104 rfl) eD2 ?_
  refine xlet_e h (fun v3_3 ev3_3 h => ?_)
  exact hrec_4 k0 r0 h

theorem u_X12_reckon_211 {F P : Nat} {S : xSt} (hS : xWF S) {Rg : Nat → Prop} (hR : xRC S Rg) {rec_4 : Nat → Int32 → Int32 → Int32 → xDt → Option (xDt)} (hrec_4 : ∀ {v0 : Nat} {v1 : Int32} {v2 : Int32} {v3 : Int32} {D : xDt} {r : xDt}, xK S v0 12 → Rg v0 → rec_4 v0 v1 v2 v3 D = some r → xfr Rg D r) {v0 : Nat} {v1 : Int32} {v2 : Int32} {v3 : Int32} {s0 : Int32} {D : xDt} {r : xDt} (k0 : xK S v0 12) (r0 : Rg v0) (h : f_X12_reckon_211 F P S rec_4 v0 v1 v2 v3 s0 D = some r) : xfr Rg D r := by
  unfold f_X12_reckon_211 at h
  exact u_X12_reckon_213 hS hR hrec_4 k0 r0 h

theorem u_X12_reckon_193 {F P : Nat} {S : xSt} (hS : xWF S) {Rg : Nat → Prop} (hR : xRC S Rg) {rec_4 : Nat → Int32 → Int32 → Int32 → xDt → Option (xDt)} (hrec_4 : ∀ {v0 : Nat} {v1 : Int32} {v2 : Int32} {v3 : Int32} {D : xDt} {r : xDt}, xK S v0 12 → Rg v0 → rec_4 v0 v1 v2 v3 D = some r → xfr Rg D r) {v0 : Nat} {v1 : Int32} {v2 : Int32} {v3 : Int32} {D : xDt} {r : xDt} (k0 : xK S v0 12) (r0 : Rg v0) (h : f_X12_reckon_193 F P S rec_4 v0 v1 v2 v3 D = some r) : xfr Rg D r := by
  unfold f_X12_reckon_193 at h
  refine xbnd_e h (fun q1 e1 h => ?_)
  refine xfr_tr (U_X12_placeInBase hS hR k0 e1) ?_
  refine xif_n h (fun c h => ?_) (fun c h => ?_)
  · skip
    exact u_X12_reckon_211 hS hR hrec_4 k0 r0 h
  · skip
    exact u_X12_reckon_211 hS hR hrec_4 k0 r0 h

theorem u_X12_reckon_172 {F P : Nat} {S : xSt} (hS : xWF S) {Rg : Nat → Prop} (hR : xRC S Rg) {rec_4 : Nat → Int32 → Int32 → Int32 → xDt → Option (xDt)} (hrec_4 : ∀ {v0 : Nat} {v1 : Int32} {v2 : Int32} {v3 : Int32} {D : xDt} {r : xDt}, xK S v0 12 → Rg v0 → rec_4 v0 v1 v2 v3 D = some r → xfr Rg D r) {v0 : Nat} {v1 : Int32} {v2 : Int32} {v3 : Int32} {v6 : Int32} {s0 : Int32} {D : xDt} {r : xDt} (k0 : xK S v0 12) (r0 : Rg v0) (h : f_X12_reckon_172 F P S rec_4 v0 v1 v2 v3 v6 s0 D = some r) : xfr Rg D r := by
  unfold f_X12_reckon_172 at h
  refine xif_p h (fun c h => ?_) (fun c h => ?_)
  · skip
    exact u_X12_reckon_193 hS hR hrec_4 k0 r0 h
  · skip
    refine xif_p h (fun c h => ?_) (fun c h => ?_)
    · skip
      exact u_X12_reckon_193 hS hR hrec_4 k0 r0 h
    · skip
      refine xif_n h (fun c h => ?_) (fun c h => ?_)
      · skip
        exact u_X12_reckon_213 hS hR hrec_4 k0 r0 h
      · skip
        exact u_X12_reckon_193 hS hR hrec_4 k0 r0 h

theorem u_X12_reckon_167 {F P : Nat} {S : xSt} (hS : xWF S) {Rg : Nat → Prop} (hR : xRC S Rg) {rec_4 : Nat → Int32 → Int32 → Int32 → xDt → Option (xDt)} (hrec_4 : ∀ {v0 : Nat} {v1 : Int32} {v2 : Int32} {v3 : Int32} {D : xDt} {r : xDt}, xK S v0 12 → Rg v0 → rec_4 v0 v1 v2 v3 D = some r → xfr Rg D r) {v0 : Nat} {v1 : Int32} {v2 : Int32} {v3 : Int32} {v6 : Int32} {D : xDt} {r : xDt} (k0 : xK S v0 12) (r0 : Rg v0) (h : f_X12_reckon_167 F P S rec_4 v0 v1 v2 v3 v6 D = some r) : xfr Rg D r := by
  unfold f_X12_reckon_167 at h
  exact u_X12_reckon_172 hS hR hrec_4 k0 r0 h

theorem u_X12_reckon_171 {F P : Nat} {S : xSt} (hS : xWF S) {Rg : Nat → Prop} (hR : xRC S Rg) {rec_4 : Nat → Int32 → Int32 → Int32 → xDt → Option (xDt)} (hrec_4 : ∀ {v0 : Nat} {v1 : Int32} {v2 : Int32} {v3 : Int32} {D : xDt} {r : xDt}, xK S v0 12 → Rg v0 → rec_4 v0 v1 v2 v3 D = some r → xfr Rg D r) {v0 : Nat} {v1 : Int32} {v2 : Int32} {v3 : Int32} {v6 : Int32} {D : xDt} {r : xDt} (k0 : xK S v0 12) (r0 : Rg v0) (h : f_X12_reckon_171 F P S rec_4 v0 v1 v2 v3 v6 D = some r) : xfr Rg D r := by
  unfold f_X12_reckon_171 at h
  exact u_X12_reckon_172 hS hR hrec_4 k0 r0 h

theorem u_X12_reckon_150 {F P : Nat} {S : xSt} (hS : xWF S) {Rg : Nat → Prop} (hR : xRC S Rg) {rec_4 : Nat → Int32 → Int32 → Int32 → xDt → Option (xDt)} (hrec_4 : ∀ {v0 : Nat} {v1 : Int32} {v2 : Int32} {v3 : Int32} {D : xDt} {r : xDt}, xK S v0 12 → Rg v0 → rec_4 v0 v1 v2 v3 D = some r → xfr Rg D r) {v0 : Nat} {v1 : Int32} {v2 : Int32} {v3 : Int32} {v4 : Int32} {v5 : Int32} {v6 : Int32} {D : xDt} {r : xDt} (k0 : xK S v0 12) (r0 : Rg v0) (h : f_X12_reckon_150 F P S rec_4 v0 v1 v2 v3 v4 v5 v6 D = some r) : xfr Rg D r := by
  unfold f_X12_reckon_150 at h
  refine xif_n h (fun c h => ?_) (fun c h => ?_)
  · skip
    exact u_X12_reckon_171 hS hR hrec_4 k0 r0 h
  · skip
    refine xif_p h (fun c h => ?_) (fun c h => ?_)
    · skip
      exact u_X12_reckon_171 hS hR hrec_4 k0 r0 h
    · skip
      refine xif_p h (fun c h => ?_) (fun c h => ?_)
      · skip
        exact u_X12_reckon_171 hS hR hrec_4 k0 r0 h
      · skip
        exact u_X12_reckon_167 hS hR hrec_4 k0 r0 h

theorem u_X12_reckon_133 {F P : Nat} {S : xSt} (hS : xWF S) {Rg : Nat → Prop} (hR : xRC S Rg) {rec_4 : Nat → Int32 → Int32 → Int32 → xDt → Option (xDt)} (hrec_4 : ∀ {v0 : Nat} {v1 : Int32} {v2 : Int32} {v3 : Int32} {D : xDt} {r : xDt}, xK S v0 12 → Rg v0 → rec_4 v0 v1 v2 v3 D = some r → xfr Rg D r) {v0 : Nat} {v1 : Int32} {v2 : Int32} {v3 : Int32} {v4 : Int32} {v5 : Int32} {v6 : Int32} {D : xDt} {r : xDt} (k0 : xK S v0 12) (r0 : Rg v0) (h : f_X12_reckon_133 F P S rec_4 v0 v1 v2 v3 v4 v5 v6 D = some r) : xfr Rg D r := by
  unfold f_X12_reckon_133 at h
  refine xif_n h (fun c h => ?_) (fun c h => ?_)
  · skip
    exact u_X12_reckon_150 hS hR hrec_4 k0 r0 h
  · skip
    refine xif_n h (fun c h => ?_) (fun c h => ?_)
    · skip
      exact u_X12_reckon_167 hS hR hrec_4 k0 r0 h
    · skip
      refine xif_n h (fun c h => ?_) (fun c h => ?_)
      · skip
        exact u_X12_reckon_167 hS hR hrec_4 k0 r0 h
      · skip
        exact u_X12_reckon_150 hS hR hrec_4 k0 r0 h

theorem u_X12_reckon_116 {F P : Nat} {S : xSt} (hS : xWF S) {Rg : Nat → Prop} (hR : xRC S Rg) {rec_4 : Nat → Int32 → Int32 → Int32 → xDt → Option (xDt)} (hrec_4 : ∀ {v0 : Nat} {v1 : Int32} {v2 : Int32} {v3 : Int32} {D : xDt} {r : xDt}, xK S v0 12 → Rg v0 → rec_4 v0 v1 v2 v3 D = some r → xfr Rg D r) {v0 : Nat} {v1 : Int32} {v2 : Int32} {v3 : Int32} {v4 : Int32} {v5 : Int32} {v6 : Int32} {D : xDt} {r : xDt} (k0 : xK S v0 12) (r0 : Rg v0) (h : f_X12_reckon_116 F P S rec_4 v0 v1 v2 v3 v4 v5 v6 D = some r) : xfr Rg D r := by
  unfold f_X12_reckon_116 at h
  refine xif_n h (fun c h => ?_) (fun c h => ?_)
  · skip
    exact u_X12_reckon_133 hS hR hrec_4 k0 r0 h
  · skip
    refine xif_p h (fun c h => ?_) (fun c h => ?_)
    · skip
      exact u_X12_reckon_167 hS hR hrec_4 k0 r0 h
    · skip
      refine xif_n h (fun c h => ?_) (fun c h => ?_)
      · skip
        exact u_X12_reckon_167 hS hR hrec_4 k0 r0 h
      · skip
        exact u_X12_reckon_133 hS hR hrec_4 k0 r0 h

theorem u_X12_reckon_102 {F P : Nat} {S : xSt} (hS : xWF S) {Rg : Nat → Prop} (hR : xRC S Rg) {rec_4 : Nat → Int32 → Int32 → Int32 → xDt → Option (xDt)} (hrec_4 : ∀ {v0 : Nat} {v1 : Int32} {v2 : Int32} {v3 : Int32} {D : xDt} {r : xDt}, xK S v0 12 → Rg v0 → rec_4 v0 v1 v2 v3 D = some r → xfr Rg D r) {v0 : Nat} {v1 : Int32} {v2 : Int32} {v3 : Int32} {v4 : Int32} {v5 : Int32} {v6 : Int32} {D : xDt} {r : xDt} (k0 : xK S v0 12) (r0 : Rg v0) (h : f_X12_reckon_102 F P S rec_4 v0 v1 v2 v3 v4 v5 v6 D = some r) : xfr Rg D r := by
  unfold f_X12_reckon_102 at h
  refine xif_n h (fun c h => ?_) (fun c h => ?_)
  · skip
    exact u_X12_reckon_116 hS hR hrec_4 k0 r0 h
  · skip
    refine xif_p h (fun c h => ?_) (fun c h => ?_)
    · skip
      exact u_X12_reckon_167 hS hR hrec_4 k0 r0 h
    · skip
      exact u_X12_reckon_116 hS hR hrec_4 k0 r0 h

theorem u_X12_reckon_75 {F P : Nat} {S : xSt} (hS : xWF S) {Rg : Nat → Prop} (hR : xRC S Rg) {rec_4 : Nat → Int32 → Int32 → Int32 → xDt → Option (xDt)} (hrec_4 : ∀ {v0 : Nat} {v1 : Int32} {v2 : Int32} {v3 : Int32} {D : xDt} {r : xDt}, xK S v0 12 → Rg v0 → rec_4 v0 v1 v2 v3 D = some r → xfr Rg D r) {v0 : Nat} {v1 : Int32} {v2 : Int32} {v3 : Int32} {v4 : Int32} {s0 : Int32} {D : xDt} {r : xDt} (k0 : xK S v0 12) (r0 : Rg v0) (h : f_X12_reckon_75 F P S rec_4 v0 v1 v2 v3 v4 s0 D = some r) : xfr Rg D r := by
  unfold f_X12_reckon_75 at h
  refine xgrd_e h (fun g1 h => ?_)
  refine xlet_e h (fun v6_2 ev6_2 h => ?_)
  refine xif_p h (fun c h => ?_) (fun c h => ?_)
  · skip
    exact u_X12_reckon_167 hS hR hrec_4 k0 r0 h
  · skip
    refine xif_n h (fun c h => ?_) (fun c h => ?_)
    · skip
      exact u_X12_reckon_102 hS hR hrec_4 k0 r0 h
    · skip
      refine xif_p h (fun c h => ?_) (fun c h => ?_)
      · skip
        exact u_X12_reckon_167 hS hR hrec_4 k0 r0 h
      · skip
        exact u_X12_reckon_102 hS hR hrec_4 k0 r0 h

theorem u_X12_reckon_74 {F P : Nat} {S : xSt} (hS : xWF S) {Rg : Nat → Prop} (hR : xRC S Rg) {rec_4 : Nat → Int32 → Int32 → Int32 → xDt → Option (xDt)} (hrec_4 : ∀ {v0 : Nat} {v1 : Int32} {v2 : Int32} {v3 : Int32} {D : xDt} {r : xDt}, xK S v0 12 → Rg v0 → rec_4 v0 v1 v2 v3 D = some r → xfr Rg D r) {v0 : Nat} {v1 : Int32} {v2 : Int32} {v3 : Int32} {v4 : Int32} {D : xDt} {r : xDt} (k0 : xK S v0 12) (r0 : Rg v0) (h : f_X12_reckon_74 F P S rec_4 v0 v1 v2 v3 v4 D = some r) : xfr Rg D r := by
  unfold f_X12_reckon_74 at h
  exact u_X12_reckon_75 hS hR hrec_4 k0 r0 h

theorem u_X12_reckon_41 {F P : Nat} {S : xSt} (hS : xWF S) {Rg : Nat → Prop} (hR : xRC S Rg) {rec_4 : Nat → Int32 → Int32 → Int32 → xDt → Option (xDt)} (hrec_4 : ∀ {v0 : Nat} {v1 : Int32} {v2 : Int32} {v3 : Int32} {D : xDt} {r : xDt}, xK S v0 12 → Rg v0 → rec_4 v0 v1 v2 v3 D = some r → xfr Rg D r) {v0 : Nat} {v1 : Int32} {v2 : Int32} {v3 : Int32} {s0 : Int32} {D : xDt} {r : xDt} (k0 : xK S v0 12) (r0 : Rg v0) (h : f_X12_reckon_41 F P S rec_4 v0 v1 v2 v3 s0 D = some r) : xfr Rg D r := by
  unfold f_X12_reckon_41 at h
  refine xgrd_e h (fun g1 h => ?_)
  refine xif_p h (fun c h => ?_) (fun c h => ?_)
  · skip
    exact u_X12_reckon_74 hS hR hrec_4 k0 r0 h
  · skip
    refine xgrd_e h (fun g2 h => ?_)
    refine xgrd_e h (fun g3 h => ?_)
    refine xif_p h (fun c h => ?_) (fun c h => ?_)
    · skip
      exact u_X12_reckon_74 hS hR hrec_4 k0 r0 h
    · skip
      exact u_X12_reckon_75 hS hR hrec_4 k0 r0 h

theorem u_X12_reckon_40 {F P : Nat} {S : xSt} (hS : xWF S) {Rg : Nat → Prop} (hR : xRC S Rg) {rec_4 : Nat → Int32 → Int32 → Int32 → xDt → Option (xDt)} (hrec_4 : ∀ {v0 : Nat} {v1 : Int32} {v2 : Int32} {v3 : Int32} {D : xDt} {r : xDt}, xK S v0 12 → Rg v0 → rec_4 v0 v1 v2 v3 D = some r → xfr Rg D r) {v0 : Nat} {v1 : Int32} {v2 : Int32} {v3 : Int32} {D : xDt} {r : xDt} (k0 : xK S v0 12) (r0 : Rg v0) (h : f_X12_reckon_40 F P S rec_4 v0 v1 v2 v3 D = some r) : xfr Rg D r := by
  unfold f_X12_reckon_40 at h
  exact u_X12_reckon_41 hS hR hrec_4 k0 r0 h

theorem u_X12_reckon_4s {F P : Nat} {S : xSt} (hS : xWF S) {Rg : Nat → Prop} (hR : xRC S Rg) {rec_4 : Nat → Int32 → Int32 → Int32 → xDt → Option (xDt)} (hrec_4 : ∀ {v0 : Nat} {v1 : Int32} {v2 : Int32} {v3 : Int32} {D : xDt} {r : xDt}, xK S v0 12 → Rg v0 → rec_4 v0 v1 v2 v3 D = some r → xfr Rg D r) {v0 : Nat} {v1 : Int32} {v2 : Int32} {v3 : Int32} {D : xDt} {r : xDt} (k0 : xK S v0 12) (r0 : Rg v0) (h : f_X12_reckon_4s F P S rec_4 v0 v1 v2 v3 D = some r) : xfr Rg D r := by
  unfold f_X12_reckon_4s at h
  refine xif_p h (fun c h => ?_) (fun c h => ?_)
  · skip
    obtain rfl := Option.some.inj h
    exact xfr_rf
  · skip
    refine xgrd_e h (fun g1 h => ?_)
    refine xif_p h (fun c h => ?_) (fun c h => ?_)
    · skip
      exact u_X12_reckon_40 hS hR hrec_4 k0 r0 h
    · skip
      refine xgrd_e h (fun g2 h => ?_)
      refine xgrd_e h (fun g3 h => ?_)
      refine xif_p h (fun c h => ?_) (fun c h => ?_)
      · skip
        exact u_X12_reckon_40 hS hR hrec_4 k0 r0 h
      · skip
        exact u_X12_reckon_41 hS hR hrec_4 k0 r0 h
theorem u_X12_reckon_4 {F P : Nat} {S : xSt} (hS : xWF S) {Rg : Nat → Prop} (hR : xRC S Rg) : ∀ (n : Nat) {v0 : Nat} {v1 : Int32} {v2 : Int32} {v3 : Int32} {D : xDt} {r : xDt}, xK S v0 12 → Rg v0 → f_X12_reckon_4 F P S n v0 v1 v2 v3 D = some r → xfr Rg D r := by
  intro n
  induction n with
  | zero => intros; rename_i h; cases h
  | succ n ih =>
    intro v0 v1 v2 v3 D r k0 r0 h
    exact u_X12_reckon_4s hS hR (fun k0 r0 h => ih k0 r0 h) k0 r0 h

theorem U_X12_reckon {F P : Nat} {S : xSt} (hS : xWF S) {Rg : Nat → Prop} (hR : xRC S Rg) {v0 : Nat} {v1 : Int32} {v2 : Int32} {D : xDt} {r : xDt} (k0 : xK S v0 12) (r0 : Rg v0) (h : f_X12_reckon F P S v0 v1 v2 D = some r) : xfr Rg D r := by
  unfold f_X12_reckon at h
  exact u_X12_reckon_4 hS hR F k0 r0 h

theorem u_X12_agentsBits_52 {F P : Nat} {S : xSt} (hS : xWF S) {Rg : Nat → Prop} (hR : xRC S Rg) {rec_4 : Nat → Int32 → Int32 → Int32 → xDt → Option (Int32 × xDt)} (hrec_4 : ∀ {v0 : Nat} {v1 : Int32} {v2 : Int32} {v3 : Int32} {D : xDt} {r : Int32 × xDt}, xK S v0 12 → rec_4 v0 v1 v2 v3 D = some r → xfr Rg D r.2) {v0 : Nat} {v1 : Int32} {v3 : Int32} {s0 : Int32} {s1 : Int32} {D : xDt} {r : Int32 × xDt} (k0 : xK S v0 12) (h : f_X12_agentsBits_52 F P S rec_4 v0 v1 v3 s0 s1 D = some r) : xfr Rg D r.2 := by
  unfold f_X12_agentsBits_52 at h
  refine xlet_e h (fun v2_1 ev2_1 h => ?_)
  refine xlet_e h (fun v3_2 ev3_2 h => ?_)
  exact hrec_4 k0 h

theorem u_X12_agentsBits_51 {F P : Nat} {S : xSt} (hS : xWF S) {Rg : Nat → Prop} (hR : xRC S Rg) {rec_4 : Nat → Int32 → Int32 → Int32 → xDt → Option (Int32 × xDt)} (hrec_4 : ∀ {v0 : Nat} {v1 : Int32} {v2 : Int32} {v3 : Int32} {D : xDt} {r : Int32 × xDt}, xK S v0 12 → rec_4 v0 v1 v2 v3 D = some r → xfr Rg D r.2) {v0 : Nat} {v1 : Int32} {v3 : Int32} {s0 : Int32} {D : xDt} {r : Int32 × xDt} (k0 : xK S v0 12) (h : f_X12_agentsBits_51 F P S rec_4 v0 v1 v3 s0 D = some r) : xfr Rg D r.2 := by
  unfold f_X12_agentsBits_51 at h
  exact u_X12_agentsBits_52 hS hR hrec_4 k0 h

theorem u_X12_agentsBits_4s {F P : Nat} {S : xSt} (hS : xWF S) {Rg : Nat → Prop} (hR : xRC S Rg) {rec_4 : Nat → Int32 → Int32 → Int32 → xDt → Option (Int32 × xDt)} (hrec_4 : ∀ {v0 : Nat} {v1 : Int32} {v2 : Int32} {v3 : Int32} {D : xDt} {r : Int32 × xDt}, xK S v0 12 → rec_4 v0 v1 v2 v3 D = some r → xfr Rg D r.2) {v0 : Nat} {v1 : Int32} {v2 : Int32} {v3 : Int32} {D : xDt} {r : Int32 × xDt} (k0 : xK S v0 12) (h : f_X12_agentsBits_4s F P S rec_4 v0 v1 v2 v3 D = some r) : xfr Rg D r.2 := by
  unfold f_X12_agentsBits_4s at h
  refine xif_p h (fun c h => ?_) (fun c h => ?_)
  · skip
    obtain rfl := Option.some.inj h
    exact xfr_rf
  · skip
    refine xgrd_e h (fun g1 h => ?_)
    refine xgrd_e h (fun g2 h => ?_)
    refine xif_n h (fun c h => ?_) (fun c h => ?_)
    · skip
      exact u_X12_agentsBits_51 hS hR hrec_4 k0 h
    · skip
      refine xgrd_e h (fun g3 h => ?_)
      refine xgrd_e h (fun g4 h => ?_)
      refine xif_n h (fun c h => ?_) (fun c h => ?_)
      · skip
        exact u_X12_agentsBits_51 hS hR hrec_4 k0 h
      · skip
        exact u_X12_agentsBits_52 hS hR hrec_4 k0 h
theorem u_X12_agentsBits_4 {F P : Nat} {S : xSt} (hS : xWF S) {Rg : Nat → Prop} (hR : xRC S Rg) : ∀ (n : Nat) {v0 : Nat} {v1 : Int32} {v2 : Int32} {v3 : Int32} {D : xDt} {r : Int32 × xDt}, xK S v0 12 → f_X12_agentsBits_4 F P S n v0 v1 v2 v3 D = some r → xfr Rg D r.2 := by
  intro n
  induction n with
  | zero => intros; rename_i h; cases h
  | succ n ih =>
    intro v0 v1 v2 v3 D r k0 h
    exact u_X12_agentsBits_4s hS hR (fun k0 h => ih k0 h) k0 h

theorem U_X12_agentsBits {F P : Nat} {S : xSt} (hS : xWF S) {Rg : Nat → Prop} (hR : xRC S Rg) {v0 : Nat} {v1 : Int32} {D : xDt} {r : Int32 × xDt} (k0 : xK S v0 12) (h : f_X12_agentsBits F P S v0 v1 D = some r) : xfr Rg D r.2 := by
  unfold f_X12_agentsBits at h
  exact u_X12_agentsBits_4 hS hR F k0 h

theorem u_X12_isType_117 {F P : Nat} {S : xSt} (hS : xWF S) {Rg : Nat → Prop} (hR : xRC S Rg) {rec_2 : Nat → Int32 → Int32 → xDt → Option (Int32 × xDt)} (hrec_2 : ∀ {v0 : Nat} {v1 : Int32} {v2 : Int32} {D : xDt} {r : Int32 × xDt}, xK S v0 12 → Rg v0 → rec_2 v0 v1 v2 D = some r → xfr Rg D r.2) {rec_59 : Nat → Int32 → Int32 → Int32 → Int32 → xDt → Option (Int32 × xDt)} (hrec_59 : ∀ {v0 : Nat} {v1 : Int32} {v2 : Int32} {v3 : Int32} {v4 : Int32} {D : xDt} {r : Int32 × xDt}, xK S v0 12 → Rg v0 → rec_59 v0 v1 v2 v3 v4 D = some r → xfr Rg D r.2) {v0 : Nat} {v1 : Int32} {v2 : Int32} {v3 : Int32} {v4 : Int32} {D : xDt} {r : Int32 × xDt} (k0 : xK S v0 12) (r0 : Rg v0) (h : f_X12_isType_117 F P S rec_2 rec_59 v0 v1 v2 v3 v4 D = some r) : xfr Rg D r.2 := by
  unfold f_X12_isType_117 at h
  refine xlet_e h (fun v4_1 ev4_1 h => ?_)
  exact hrec_59 k0 r0 h

theorem u_X12_isType_123 {F P : Nat} {S : xSt} (hS : xWF S) {Rg : Nat → Prop} (hR : xRC S Rg) {rec_2 : Nat → Int32 → Int32 → xDt → Option (Int32 × xDt)} (hrec_2 : ∀ {v0 : Nat} {v1 : Int32} {v2 : Int32} {D : xDt} {r : Int32 × xDt}, xK S v0 12 → Rg v0 → rec_2 v0 v1 v2 D = some r → xfr Rg D r.2) {v0 : Nat} {v1 : Int32} {v2 : Int32} {D : xDt} {r : Int32 × xDt} (k0 : xK S v0 12) (r0 : Rg v0) (h : f_X12_isType_123 F P S rec_2 v0 v1 v2 D = some r) : xfr Rg D r.2 := by
  unfold f_X12_isType_123 at h
  refine xlet_e h (fun v2_1 ev2_1 h => ?_)
  exact hrec_2 k0 r0 h

theorem u_X12_isType_59s {F P : Nat} {S : xSt} (hS : xWF S) {Rg : Nat → Prop} (hR : xRC S Rg) {rec_2 : Nat → Int32 → Int32 → xDt → Option (Int32 × xDt)} (hrec_2 : ∀ {v0 : Nat} {v1 : Int32} {v2 : Int32} {D : xDt} {r : Int32 × xDt}, xK S v0 12 → Rg v0 → rec_2 v0 v1 v2 D = some r → xfr Rg D r.2) {rec_59 : Nat → Int32 → Int32 → Int32 → Int32 → xDt → Option (Int32 × xDt)} (hrec_59 : ∀ {v0 : Nat} {v1 : Int32} {v2 : Int32} {v3 : Int32} {v4 : Int32} {D : xDt} {r : Int32 × xDt}, xK S v0 12 → Rg v0 → rec_59 v0 v1 v2 v3 v4 D = some r → xfr Rg D r.2) {v0 : Nat} {v1 : Int32} {v2 : Int32} {v3 : Int32} {v4 : Int32} {D : xDt} {r : Int32 × xDt} (k0 : xK S v0 12) (r0 : Rg v0) (h : f_X12_isType_59s F P S rec_2 rec_59 v0 v1 v2 v3 v4 D = some r) : xfr Rg D r.2 := by
  unfold f_X12_isType_59s at h
  refine xif_p h (fun c h => ?_) (fun c h => ?_)
  · skip
    exact u_X12_isType_123 hS hR hrec_2 k0 r0 h
  · skip
    refine xgrd_e h (fun g1 h => ?_)
    refine xif_n h (fun c h => ?_) (fun c h => ?_)
    · skip
      exact u_X12_isType_123 hS hR hrec_2 k0 r0 h
    · skip
      refine xgrd_e h (fun g2 h => ?_)
      refine xif_n h (fun c h => ?_) (fun c h => ?_)
      · skip
        exact u_X12_isType_117 hS hR hrec_2 hrec_59 k0 r0 h
      · skip
        refine xbnd_e h (fun q3 e3 h => ?_)
        refine xfr_tr (U_X12_shared hS hR k0 r0 e3) ?_
        refine xgrd_e h (fun g4 h => ?_)
        refine xif_n h (fun c h => ?_) (fun c h => ?_)
        · skip
          exact u_X12_isType_117 hS hR hrec_2 hrec_59 k0 r0 h
        · skip
          obtain rfl := Option.some.inj h
          exact xfr_rf
theorem u_X12_isType_59 {F P : Nat} {S : xSt} (hS : xWF S) {Rg : Nat → Prop} (hR : xRC S Rg) {rec_2 : Nat → Int32 → Int32 → xDt → Option (Int32 × xDt)} (hrec_2 : ∀ {v0 : Nat} {v1 : Int32} {v2 : Int32} {D : xDt} {r : Int32 × xDt}, xK S v0 12 → Rg v0 → rec_2 v0 v1 v2 D = some r → xfr Rg D r.2) : ∀ (n : Nat) {v0 : Nat} {v1 : Int32} {v2 : Int32} {v3 : Int32} {v4 : Int32} {D : xDt} {r : Int32 × xDt}, xK S v0 12 → Rg v0 → f_X12_isType_59 F P S rec_2 n v0 v1 v2 v3 v4 D = some r → xfr Rg D r.2 := by
  intro n
  induction n with
  | zero => intros; rename_i h; cases h
  | succ n ih =>
    intro v0 v1 v2 v3 v4 D r k0 r0 h
    exact u_X12_isType_59s hS hR hrec_2 (fun k0 r0 h => ih k0 r0 h) k0 r0 h

theorem u_X12_isType_2s {F P : Nat} {S : xSt} (hS : xWF S) {Rg : Nat → Prop} (hR : xRC S Rg) {rec_2 : Nat → Int32 → Int32 → xDt → Option (Int32 × xDt)} (hrec_2 : ∀ {v0 : Nat} {v1 : Int32} {v2 : Int32} {D : xDt} {r : Int32 × xDt}, xK S v0 12 → Rg v0 → rec_2 v0 v1 v2 D = some r → xfr Rg D r.2) {v0 : Nat} {v1 : Int32} {v2 : Int32} {D : xDt} {r : Int32 × xDt} (k0 : xK S v0 12) (r0 : Rg v0) (h : f_X12_isType_2s F P S rec_2 v0 v1 v2 D = some r) : xfr Rg D r.2 := by
  unfold f_X12_isType_2s at h
  refine xif_p h (fun c h => ?_) (fun c h => ?_)
  · skip
    obtain rfl := Option.some.inj h
    exact xfr_rf
  · skip
    refine xgrd_e h (fun g1 h => ?_)
    refine xlet_e h (fun v3_2 ev3_2 h => ?_)
    refine xgrd_e h (fun g3 h => ?_)
    refine xif_p h (fun c h => ?_) (fun c h => ?_)
    · skip
      exact u_X12_isType_123 hS hR hrec_2 k0 r0 h
    · skip
      refine xif_n h (fun c h => ?_) (fun c h => ?_)
      · skip
        exact u_X12_isType_123 hS hR hrec_2 k0 r0 h
      · skip
        refine xgrd_e h (fun g4 h => ?_)
        refine xgrd_e h (fun g5 h => ?_)
        refine xif_n h (fun c h => ?_) (fun c h => ?_)
        · skip
          exact u_X12_isType_59 hS hR hrec_2 F k0 r0 h
        · skip
          obtain rfl := Option.some.inj h
          exact xfr_rf
theorem u_X12_isType_2 {F P : Nat} {S : xSt} (hS : xWF S) {Rg : Nat → Prop} (hR : xRC S Rg) : ∀ (n : Nat) {v0 : Nat} {v1 : Int32} {v2 : Int32} {D : xDt} {r : Int32 × xDt}, xK S v0 12 → Rg v0 → f_X12_isType_2 F P S n v0 v1 v2 D = some r → xfr Rg D r.2 := by
  intro n
  induction n with
  | zero => intros; rename_i h; cases h
  | succ n ih =>
    intro v0 v1 v2 D r k0 r0 h
    exact u_X12_isType_2s hS hR (fun k0 r0 h => ih k0 r0 h) k0 r0 h

theorem U_X12_isType {F P : Nat} {S : xSt} (hS : xWF S) {Rg : Nat → Prop} (hR : xRC S Rg) {v0 : Nat} {v1 : Int32} {D : xDt} {r : Int32 × xDt} (k0 : xK S v0 12) (r0 : Rg v0) (h : f_X12_isType F P S v0 v1 D = some r) : xfr Rg D r.2 := by
  unfold f_X12_isType at h
  exact u_X12_isType_2 hS hR F k0 r0 h

theorem u_X12_root_2s {F P : Nat} {S : xSt} (hS : xWF S) {Rg : Nat → Prop} (hR : xRC S Rg) {rec_2 : Nat → Int32 → xDt → Option (Int32 × xDt)} (hrec_2 : ∀ {v0 : Nat} {v2 : Int32} {D : xDt} {r : Int32 × xDt}, xK S v0 12 → Rg v0 → rec_2 v0 v2 D = some r → xfr Rg D r.2) {v0 : Nat} {v2 : Int32} {D : xDt} {r : Int32 × xDt} (k0 : xK S v0 12) (r0 : Rg v0) (h : f_X12_root_2s F P S rec_2 v0 v2 D = some r) : xfr Rg D r.2 := by
  unfold f_X12_root_2s at h
  refine xgrd_e h (fun g1 h => ?_)
  refine xif_p h (fun c h => ?_) (fun c h => ?_)
  · skip
    obtain rfl := Option.some.inj h
    exact xfr_rf
  · skip
    refine xgrd_e h (fun g2 h => ?_)
    refine xgrd_e h (fun g3 h => ?_)
    refine xgrd_e h (fun g4 h => ?_)
    refine xlet_e h (fun D5 eD5 h => ?_)
    refine xfr_i (hR.1 k0 r0 41 100 rfl) eD5 ?_
    refine xgrd_e h (fun g6 h => ?_)
    refine xlet_e h (fun v2_7 ev2_7 h => ?_)
    exact hrec_2 k0 r0 h
theorem u_X12_root_2 {F P : Nat} {S : xSt} (hS : xWF S) {Rg : Nat → Prop} (hR : xRC S Rg) : ∀ (n : Nat) {v0 : Nat} {v2 : Int32} {D : xDt} {r : Int32 × xDt}, xK S v0 12 → Rg v0 → f_X12_root_2 F P S n v0 v2 D = some r → xfr Rg D r.2 := by
  intro n
  induction n with
  | zero => intros; rename_i h; cases h
  | succ n ih =>
    intro v0 v2 D r k0 r0 h
    exact u_X12_root_2s hS hR (fun k0 r0 h => ih k0 r0 h) k0 r0 h

theorem U_X12_root {F P : Nat} {S : xSt} (hS : xWF S) {Rg : Nat → Prop} (hR : xRC S Rg) {v0 : Nat} {v1 : Int32} {D : xDt} {r : Int32 × xDt} (k0 : xK S v0 12) (r0 : Rg v0) (h : f_X12_root F P S v0 v1 D = some r) : xfr Rg D r.2 := by
  unfold f_X12_root at h
  exact u_X12_root_2 hS hR F k0 r0 h

theorem u_X12_unite_99 {F P : Nat} {S : xSt} (hS : xWF S) {Rg : Nat → Prop} (hR : xRC S Rg) {rec_33 : Nat → Int32 → Int32 → Int32 → xDt → Option (xDt)} (hrec_33 : ∀ {v0 : Nat} {v2 : Int32} {v3 : Int32} {v4 : Int32} {D : xDt} {r : xDt}, xK S v0 12 → Rg v0 → rec_33 v0 v2 v3 v4 D = some r → xfr Rg D r) {v0 : Nat} {v2 : Int32} {v3 : Int32} {v4 : Int32} {D : xDt} {r : xDt} (k0 : xK S v0 12) (r0 : Rg v0) (h : f_X12_unite_99 F P S rec_33 v0 v2 v3 v4 D = some r) : xfr Rg D r := by
  unfold f_X12_unite_99 at h
  refine xlet_e h (fun v4_1 ev4_1 h => ?_)
  exact hrec_33 k0 r0 h

theorem u_X12_unite_33s {F P : Nat} {S : xSt} (hS : xWF S) {Rg : Nat → Prop} (hR : xRC S Rg) {rec_33 : Nat → Int32 → Int32 → Int32 → xDt → Option (xDt)} (hrec_33 : ∀ {v0 : Nat} {v2 : Int32} {v3 : Int32} {v4 : Int32} {D : xDt} {r : xDt}, xK S v0 12 → Rg v0 → rec_33 v0 v2 v3 v4 D = some r → xfr Rg D r) {v0 : Nat} {v2 : Int32} {v3 : Int32} {v4 : Int32} {D : xDt} {r : xDt} (k0 : xK S v0 12) (r0 : Rg v0) (h : f_X12_unite_33s F P S rec_33 v0 v2 v3 v4 D = some r) : xfr Rg D r := by
  unfold f_X12_unite_33s at h
  refine xif_p h (fun c h => ?_) (fun c h => ?_)
  · skip
    obtain rfl := Option.some.inj h
    exact xfr_rf
  · skip
    refine xgrd_e h (fun g1 h => ?_)
    refine xif_p h (fun c h => ?_) (fun c h => ?_)
    · skip
      exact u_X12_unite_99 hS hR hrec_33 k0 r0 h
    · skip
      refine xlet_e h (fun v5_2 ev5_2 h => ?_)
      refine xgrd_e h (fun g3 h => ?_)
      refine xif_p h (fun c h => ?_) (fun c h => ?_)
      · skip
        refine xbnd_e h (fun q4 e4 h => ?_)
        refine xfr_tr (U_X12_root hS hR k0 r0 e4) ?_
        refine xgrd_e h (fun g5 h => ?_)
        refine xbnd_e h (fun q6 e6 h => ?_)
        refine xfr_tr (U_X12_root hS hR k0 r0 e6) ?_
        refine xgrd_e h (fun g7 h => ?_)
        refine xlet_e h (fun D8 eD8 h => ?_)
        refine xfr_i (hR.1 k0 r0 41 100 rfl) eD8 ?_
        exact u_X12_unite_99 hS hR hrec_33 k0 r0 h
      · skip
        refine xgrd_e h (fun g9 h => ?_)
        refine xlet_e h (fun D10 eD10 h => ?_)
        refine xfr_i (hR.1 k0 r0 42 100 rfl) eD10 ?_
        exact u_X12_unite_99 hS hR hrec_33 k0 r0 h
theorem u_X12_unite_33 {F P : Nat} {S : xSt} (hS : xWF S) {Rg : Nat → Prop} (hR : xRC S Rg) : ∀ (n : Nat) {v0 : Nat} {v2 : Int32} {v3 : Int32} {v4 : Int32} {D : xDt} {r : xDt}, xK S v0 12 → Rg v0 → f_X12_unite_33 F P S n v0 v2 v3 v4 D = some r → xfr Rg D r := by
  intro n
  induction n with
  | zero => intros; rename_i h; cases h
  | succ n ih =>
    intro v0 v2 v3 v4 D r k0 r0 h
    exact u_X12_unite_33s hS hR (fun k0 r0 h => ih k0 r0 h) k0 r0 h

theorem u_X12_unite_9s {F P : Nat} {S : xSt} (hS : xWF S) {Rg : Nat → Prop} (hR : xRC S Rg) {rec_9 : Nat → Int32 → Int32 → Int32 → xDt → Option (xDt)} (hrec_9 : ∀ {v0 : Nat} {v2 : Int32} {v3 : Int32} {v4 : Int32} {D : xDt} {r : xDt}, xK S v0 12 → Rg v0 → rec_9 v0 v2 v3 v4 D = some r → xfr Rg D r) {v0 : Nat} {v2 : Int32} {v3 : Int32} {v4 : Int32} {D : xDt} {r : xDt} (k0 : xK S v0 12) (r0 : Rg v0) (h : f_X12_unite_9s F P S rec_9 v0 v2 v3 v4 D = some r) : xfr Rg D r := by
  unfold f_X12_unite_9s at h
  refine xif_p h (fun c h => ?_) (fun c h => ?_)
  · skip
    exact u_X12_unite_33 hS hR F k0 r0 h
  · skip
    refine xgrd_e h (fun g1 h => ?_)
    refine xlet_e h (fun D2 eD2 h => ?_)
    refine xfr_i (hR.1 k0 r0 42 100 rfl) eD2 ?_
    refine xlet_e h (fun v4_3 ev4_3 h => ?_)
    exact hrec_9 k0 r0 h
theorem u_X12_unite_9 {F P : Nat} {S : xSt} (hS : xWF S) {Rg : Nat → Prop} (hR : xRC S Rg) : ∀ (n : Nat) {v0 : Nat} {v2 : Int32} {v3 : Int32} {v4 : Int32} {D : xDt} {r : xDt}, xK S v0 12 → Rg v0 → f_X12_unite_9 F P S n v0 v2 v3 v4 D = some r → xfr Rg D r := by
  intro n
  induction n with
  | zero => intros; rename_i h; cases h
  | succ n ih =>
    intro v0 v2 v3 v4 D r k0 r0 h
    exact u_X12_unite_9s hS hR (fun k0 r0 h => ih k0 r0 h) k0 r0 h

theorem U_X12_unite {F P : Nat} {S : xSt} (hS : xWF S) {Rg : Nat → Prop} (hR : xRC S Rg) {v0 : Nat} {v1 : Int32} {v2 : Int32} {D : xDt} {r : xDt} (k0 : xK S v0 12) (r0 : Rg v0) (h : f_X12_unite F P S v0 v1 v2 D = some r) : xfr Rg D r := by
  unfold f_X12_unite at h
  refine xbnd_e h (fun q1 e1 h => ?_)
  refine xfr_tr (U_X12_agentsBits hS hR k0 e1) ?_
  exact u_X12_unite_9 hS hR F k0 r0 h

theorem u_X12_sift_62 {F P : Nat} {S : xSt} (hS : xWF S) {Rg : Nat → Prop} (hR : xRC S Rg) {rec_34 : Nat → Int32 → Int32 → Int32 → Int32 → xDt → Option (Int32 × xDt)} (hrec_34 : ∀ {v0 : Nat} {v1 : Int32} {v2 : Int32} {v3 : Int32} {v4 : Int32} {D : xDt} {r : Int32 × xDt}, xK S v0 12 → Rg v0 → rec_34 v0 v1 v2 v3 v4 D = some r → xfr Rg D r.2) {v0 : Nat} {v1 : Int32} {v2 : Int32} {v3 : Int32} {v4 : Int32} {D : xDt} {r : Int32 × xDt} (k0 : xK S v0 12) (r0 : Rg v0) (h : f_X12_sift_62 F P S rec_34 v0 v1 v2 v3 v4 D = some r) : xfr Rg D r.2 := by
  unfold f_X12_sift_62 at h
  refine xlet_e h (fun v4_1 ev4_1 h => ?_)
  exact hrec_34 k0 r0 h

theorem u_X12_sift_138 {F P : Nat} {S : xSt} (hS : xWF S) {Rg : Nat → Prop} (hR : xRC S Rg) {rec_95 : Nat → Int32 → Int32 → Int32 → xDt → Option (Int32 × xDt)} (hrec_95 : ∀ {v0 : Nat} {v1 : Int32} {v2 : Int32} {v4 : Int32} {D : xDt} {r : Int32 × xDt}, xK S v0 12 → Rg v0 → rec_95 v0 v1 v2 v4 D = some r → xfr Rg D r.2) {v0 : Nat} {v1 : Int32} {v2 : Int32} {v4 : Int32} {D : xDt} {r : Int32 × xDt} (k0 : xK S v0 12) (r0 : Rg v0) (h : f_X12_sift_138 F P S rec_95 v0 v1 v2 v4 D = some r) : xfr Rg D r.2 := by
  unfold f_X12_sift_138 at h
  refine xlet_e h (fun v4_1 ev4_1 h => ?_)
  exact hrec_95 k0 r0 h

theorem u_X12_sift_200 {F P : Nat} {S : xSt} (hS : xWF S) {Rg : Nat → Prop} (hR : xRC S Rg) {rec_150 : Nat → Int32 → Int32 → Int32 → Int32 → xDt → Option (Int32 × xDt)} (hrec_150 : ∀ {v0 : Nat} {v1 : Int32} {v2 : Int32} {v4 : Int32} {v5 : Int32} {D : xDt} {r : Int32 × xDt}, xK S v0 12 → Rg v0 → rec_150 v0 v1 v2 v4 v5 D = some r → xfr Rg D r.2) {v0 : Nat} {v1 : Int32} {v2 : Int32} {v4 : Int32} {v5 : Int32} {D : xDt} {r : Int32 × xDt} (k0 : xK S v0 12) (r0 : Rg v0) (h : f_X12_sift_200 F P S rec_150 v0 v1 v2 v4 v5 D = some r) : xfr Rg D r.2 := by
  unfold f_X12_sift_200 at h
  refine xlet_e h (fun v5_1 ev5_1 h => ?_)
  exact hrec_150 k0 r0 h

theorem u_X12_sift_150s {F P : Nat} {S : xSt} (hS : xWF S) {Rg : Nat → Prop} (hR : xRC S Rg) {rec_150 : Nat → Int32 → Int32 → Int32 → Int32 → xDt → Option (Int32 × xDt)} (hrec_150 : ∀ {v0 : Nat} {v1 : Int32} {v2 : Int32} {v4 : Int32} {v5 : Int32} {D : xDt} {r : Int32 × xDt}, xK S v0 12 → Rg v0 → rec_150 v0 v1 v2 v4 v5 D = some r → xfr Rg D r.2) {v0 : Nat} {v1 : Int32} {v2 : Int32} {v4 : Int32} {v5 : Int32} {D : xDt} {r : Int32 × xDt} (k0 : xK S v0 12) (r0 : Rg v0) (h : f_X12_sift_150s F P S rec_150 v0 v1 v2 v4 v5 D = some r) : xfr Rg D r.2 := by
  unfold f_X12_sift_150s at h
  refine xif_p h (fun c h => ?_) (fun c h => ?_)
  · skip
    refine xgrd_e h (fun g1 h => ?_)
    obtain rfl := Option.some.inj h
    exact xfr_rf
  · skip
    refine xgrd_e h (fun g2 h => ?_)
    refine xif_p h (fun c h => ?_) (fun c h => ?_)
    · skip
      exact u_X12_sift_200 hS hR hrec_150 k0 r0 h
    · skip
      refine xif_n h (fun c h => ?_) (fun c h => ?_)
      · skip
        exact u_X12_sift_200 hS hR hrec_150 k0 r0 h
      · skip
        refine xbnd_e h (fun q3 e3 h => ?_)
        refine xfr_tr (U_X12_root hS hR k0 r0 e3) ?_
        refine xgrd_e h (fun g4 h => ?_)
        refine xif_p h (fun c h => ?_) (fun c h => ?_)
        · skip
          exact u_X12_sift_200 hS hR hrec_150 k0 r0 h
        · skip
          refine xgrd_e h (fun g5 h => ?_)
          refine xlet_e h (fun D6 eD6 h => ?_)
          refine xfr_i (hR.1 k0 r0 39 104 rfl) eD6 ?_
          exact u_X12_sift_200 hS hR hrec_150 k0 r0 h
theorem u_X12_sift_150 {F P : Nat} {S : xSt} (hS : xWF S) {Rg : Nat → Prop} (hR : xRC S Rg) : ∀ (n : Nat) {v0 : Nat} {v1 : Int32} {v2 : Int32} {v4 : Int32} {v5 : Int32} {D : xDt} {r : Int32 × xDt}, xK S v0 12 → Rg v0 → f_X12_sift_150 F P S n v0 v1 v2 v4 v5 D = some r → xfr Rg D r.2 := by
  intro n
  induction n with
  | zero => intros; rename_i h; cases h
  | succ n ih =>
    intro v0 v1 v2 v4 v5 D r k0 r0 h
    exact u_X12_sift_150s hS hR (fun k0 r0 h => ih k0 r0 h) k0 r0 h

theorem u_X12_sift_95s {F P : Nat} {S : xSt} (hS : xWF S) {Rg : Nat → Prop} (hR : xRC S Rg) {rec_95 : Nat → Int32 → Int32 → Int32 → xDt → Option (Int32 × xDt)} (hrec_95 : ∀ {v0 : Nat} {v1 : Int32} {v2 : Int32} {v4 : Int32} {D : xDt} {r : Int32 × xDt}, xK S v0 12 → Rg v0 → rec_95 v0 v1 v2 v4 D = some r → xfr Rg D r.2) {v0 : Nat} {v1 : Int32} {v2 : Int32} {v4 : Int32} {D : xDt} {r : Int32 × xDt} (k0 : xK S v0 12) (r0 : Rg v0) (h : f_X12_sift_95s F P S rec_95 v0 v1 v2 v4 D = some r) : xfr Rg D r.2 := by
  unfold f_X12_sift_95s at h
  refine xif_p h (fun c h => ?_) (fun c h => ?_)
  · skip
    exact u_X12_sift_150 hS hR F k0 r0 h
  · skip
    refine xgrd_e h (fun g1 h => ?_)
    refine xif_p h (fun c h => ?_) (fun c h => ?_)
    · skip
      exact u_X12_sift_138 hS hR hrec_95 k0 r0 h
    · skip
      refine xgrd_e h (fun g2 h => ?_)
      refine xif_n h (fun c h => ?_) (fun c h => ?_)
      · skip
        exact u_X12_sift_138 hS hR hrec_95 k0 r0 h
      · skip
        refine xbnd_e h (fun q3 e3 h => ?_)
        refine xfr_tr (U_X12_root hS hR k0 r0 e3) ?_
        refine xgrd_e h (fun g4 h => ?_)
        refine xlet_e h (fun D5 eD5 h => ?_)
        refine xfr_i (hR.1 k0 r0 42 100 rfl) eD5 ?_
        exact u_X12_sift_138 hS hR hrec_95 k0 r0 h
theorem u_X12_sift_95 {F P : Nat} {S : xSt} (hS : xWF S) {Rg : Nat → Prop} (hR : xRC S Rg) : ∀ (n : Nat) {v0 : Nat} {v1 : Int32} {v2 : Int32} {v4 : Int32} {D : xDt} {r : Int32 × xDt}, xK S v0 12 → Rg v0 → f_X12_sift_95 F P S n v0 v1 v2 v4 D = some r → xfr Rg D r.2 := by
  intro n
  induction n with
  | zero => intros; rename_i h; cases h
  | succ n ih =>
    intro v0 v1 v2 v4 D r k0 r0 h
    exact u_X12_sift_95s hS hR (fun k0 r0 h => ih k0 r0 h) k0 r0 h

theorem u_X12_sift_71s {F P : Nat} {S : xSt} (hS : xWF S) {Rg : Nat → Prop} (hR : xRC S Rg) {rec_71 : Nat → Int32 → Int32 → Int32 → xDt → Option (Int32 × xDt)} (hrec_71 : ∀ {v0 : Nat} {v1 : Int32} {v2 : Int32} {v4 : Int32} {D : xDt} {r : Int32 × xDt}, xK S v0 12 → Rg v0 → rec_71 v0 v1 v2 v4 D = some r → xfr Rg D r.2) {v0 : Nat} {v1 : Int32} {v2 : Int32} {v4 : Int32} {D : xDt} {r : Int32 × xDt} (k0 : xK S v0 12) (r0 : Rg v0) (h : f_X12_sift_71s F P S rec_71 v0 v1 v2 v4 D = some r) : xfr Rg D r.2 := by
  unfold f_X12_sift_71s at h
  refine xif_p h (fun c h => ?_) (fun c h => ?_)
  · skip
    exact u_X12_sift_95 hS hR F k0 r0 h
  · skip
    refine xgrd_e h (fun g1 h => ?_)
    refine xlet_e h (fun D2 eD2 h => ?_)
    refine xfr_i (hR.1 k0 r0 42 100 rfl) eD2 ?_
    refine xlet_e h (fun v4_3 ev4_3 h => ?_)
    exact hrec_71 k0 r0 h
theorem u_X12_sift_71 {F P : Nat} {S : xSt} (hS : xWF S) {Rg : Nat → Prop} (hR : xRC S Rg) : ∀ (n : Nat) {v0 : Nat} {v1 : Int32} {v2 : Int32} {v4 : Int32} {D : xDt} {r : Int32 × xDt}, xK S v0 12 → Rg v0 → f_X12_sift_71 F P S n v0 v1 v2 v4 D = some r → xfr Rg D r.2 := by
  intro n
  induction n with
  | zero => intros; rename_i h; cases h
  | succ n ih =>
    intro v0 v1 v2 v4 D r k0 r0 h
    exact u_X12_sift_71s hS hR (fun k0 r0 h => ih k0 r0 h) k0 r0 h

theorem u_X12_sift_34s {F P : Nat} {S : xSt} (hS : xWF S) {Rg : Nat → Prop} (hR : xRC S Rg) {rec_34 : Nat → Int32 → Int32 → Int32 → Int32 → xDt → Option (Int32 × xDt)} (hrec_34 : ∀ {v0 : Nat} {v1 : Int32} {v2 : Int32} {v3 : Int32} {v4 : Int32} {D : xDt} {r : Int32 × xDt}, xK S v0 12 → Rg v0 → rec_34 v0 v1 v2 v3 v4 D = some r → xfr Rg D r.2) {v0 : Nat} {v1 : Int32} {v2 : Int32} {v3 : Int32} {v4 : Int32} {D : xDt} {r : Int32 × xDt} (k0 : xK S v0 12) (r0 : Rg v0) (h : f_X12_sift_34s F P S rec_34 v0 v1 v2 v3 v4 D = some r) : xfr Rg D r.2 := by
  unfold f_X12_sift_34s at h
  refine xif_p h (fun c h => ?_) (fun c h => ?_)
  · skip
    exact u_X12_sift_71 hS hR F k0 r0 h
  · skip
    refine xgrd_e h (fun g1 h => ?_)
    refine xif_n h (fun c h => ?_) (fun c h => ?_)
    · skip
      exact u_X12_sift_62 hS hR hrec_34 k0 r0 h
    · skip
      refine xbnd_e h (fun q2 e2 h => ?_)
      refine xfr_tr (U_X12_unite hS hR k0 r0 e2) ?_
      exact u_X12_sift_62 hS hR hrec_34 k0 r0 h
theorem u_X12_sift_34 {F P : Nat} {S : xSt} (hS : xWF S) {Rg : Nat → Prop} (hR : xRC S Rg) : ∀ (n : Nat) {v0 : Nat} {v1 : Int32} {v2 : Int32} {v3 : Int32} {v4 : Int32} {D : xDt} {r : Int32 × xDt}, xK S v0 12 → Rg v0 → f_X12_sift_34 F P S n v0 v1 v2 v3 v4 D = some r → xfr Rg D r.2 := by
  intro n
  induction n with
  | zero => intros; rename_i h; cases h
  | succ n ih =>
    intro v0 v1 v2 v3 v4 D r k0 r0 h
    exact u_X12_sift_34s hS hR (fun k0 r0 h => ih k0 r0 h) k0 r0 h

theorem u_X12_sift_10s {F P : Nat} {S : xSt} (hS : xWF S) {Rg : Nat → Prop} (hR : xRC S Rg) {rec_10 : Nat → Int32 → Int32 → Int32 → Int32 → xDt → Option (Int32 × xDt)} (hrec_10 : ∀ {v0 : Nat} {v1 : Int32} {v2 : Int32} {v3 : Int32} {v4 : Int32} {D : xDt} {r : Int32 × xDt}, xK S v0 12 → Rg v0 → rec_10 v0 v1 v2 v3 v4 D = some r → xfr Rg D r.2) {v0 : Nat} {v1 : Int32} {v2 : Int32} {v3 : Int32} {v4 : Int32} {D : xDt} {r : Int32 × xDt} (k0 : xK S v0 12) (r0 : Rg v0) (h : f_X12_sift_10s F P S rec_10 v0 v1 v2 v3 v4 D = some r) : xfr Rg D r.2 := by
  unfold f_X12_sift_10s at h
  refine xif_p h (fun c h => ?_) (fun c h => ?_)
  · skip
    exact u_X12_sift_34 hS hR F k0 r0 h
  · skip
    refine xgrd_e h (fun g1 h => ?_)
    refine xlet_e h (fun D2 eD2 h => ?_)
    refine xfr_i (hR.1 k0 r0 41 100 rfl) eD2 ?_
    refine xlet_e h (fun v4_3 ev4_3 h => ?_)
    exact hrec_10 k0 r0 h
theorem u_X12_sift_10 {F P : Nat} {S : xSt} (hS : xWF S) {Rg : Nat → Prop} (hR : xRC S Rg) : ∀ (n : Nat) {v0 : Nat} {v1 : Int32} {v2 : Int32} {v3 : Int32} {v4 : Int32} {D : xDt} {r : Int32 × xDt}, xK S v0 12 → Rg v0 → f_X12_sift_10 F P S n v0 v1 v2 v3 v4 D = some r → xfr Rg D r.2 := by
  intro n
  induction n with
  | zero => intros; rename_i h; cases h
  | succ n ih =>
    intro v0 v1 v2 v3 v4 D r k0 r0 h
    exact u_X12_sift_10s hS hR (fun k0 r0 h => ih k0 r0 h) k0 r0 h

theorem U_X12_sift {F P : Nat} {S : xSt} (hS : xWF S) {Rg : Nat → Prop} (hR : xRC S Rg) {v0 : Nat} {v1 : Int32} {v2 : Int32} {D : xDt} {r : Int32 × xDt} (k0 : xK S v0 12) (r0 : Rg v0) (h : f_X12_sift F P S v0 v1 v2 D = some r) : xfr Rg D r.2 := by
  unfold f_X12_sift at h
  refine xgrd_e h (fun g1 h => ?_)
  refine xlet_e h (fun v3_2 ev3_2 h => ?_)
  exact u_X12_sift_10 hS hR F k0 r0 h

theorem u_X12_decide_145 {F P : Nat} {S : xSt} (hS : xWF S) {Rg : Nat → Prop} (hR : xRC S Rg) {rec_56 : Nat → Int32 → Int32 → Int32 → Int32 → xDt → Option (Int32 × xDt)} (hrec_56 : ∀ {v0 : Nat} {v1 : Int32} {v2 : Int32} {v3 : Int32} {v4 : Int32} {D : xDt} {r : Int32 × xDt}, xK S v0 12 → Rg v0 → rec_56 v0 v1 v2 v3 v4 D = some r → xfr Rg D r.2) {rec_99 : Nat → Int32 → Int32 → Int32 → Int32 → Int32 → Int32 → xDt → Option (Int32 × xDt)} (hrec_99 : ∀ {v0 : Nat} {v1 : Int32} {v2 : Int32} {v3 : Int32} {v4 : Int32} {v5 : Int32} {v6 : Int32} {D : xDt} {r : Int32 × xDt}, xK S v0 12 → Rg v0 → rec_99 v0 v1 v2 v3 v4 v5 v6 D = some r → xfr Rg D r.2) {v0 : Nat} {v1 : Int32} {v2 : Int32} {v3 : Int32} {v4 : Int32} {v5 : Int32} {v6 : Int32} {D : xDt} {r : Int32 × xDt} (k0 : xK S v0 12) (r0 : Rg v0) (h : f_X12_decide_145 F P S rec_56 rec_99 v0 v1 v2 v3 v4 v5 v6 D = some r) : xfr Rg D r.2 := by
  unfold f_X12_decide_145 at h
  refine xlet_e h (fun v6_1 ev6_1 h => ?_)
  exact hrec_99 k0 r0 h

theorem u_X12_decide_151 {F P : Nat} {S : xSt} (hS : xWF S) {Rg : Nat → Prop} (hR : xRC S Rg) {rec_56 : Nat → Int32 → Int32 → Int32 → Int32 → xDt → Option (Int32 × xDt)} (hrec_56 : ∀ {v0 : Nat} {v1 : Int32} {v2 : Int32} {v3 : Int32} {v4 : Int32} {D : xDt} {r : Int32 × xDt}, xK S v0 12 → Rg v0 → rec_56 v0 v1 v2 v3 v4 D = some r → xfr Rg D r.2) {v0 : Nat} {v1 : Int32} {v2 : Int32} {v3 : Int32} {v4 : Int32} {D : xDt} {r : Int32 × xDt} (k0 : xK S v0 12) (r0 : Rg v0) (h : f_X12_decide_151 F P S rec_56 v0 v1 v2 v3 v4 D = some r) : xfr Rg D r.2 := by
  unfold f_X12_decide_151 at h
  refine xlet_e h (fun v4_1 ev4_1 h => ?_)
  exact hrec_56 k0 r0 h

theorem u_X12_decide_99s {F P : Nat} {S : xSt} (hS : xWF S) {Rg : Nat → Prop} (hR : xRC S Rg) {rec_56 : Nat → Int32 → Int32 → Int32 → Int32 → xDt → Option (Int32 × xDt)} (hrec_56 : ∀ {v0 : Nat} {v1 : Int32} {v2 : Int32} {v3 : Int32} {v4 : Int32} {D : xDt} {r : Int32 × xDt}, xK S v0 12 → Rg v0 → rec_56 v0 v1 v2 v3 v4 D = some r → xfr Rg D r.2) {rec_99 : Nat → Int32 → Int32 → Int32 → Int32 → Int32 → Int32 → xDt → Option (Int32 × xDt)} (hrec_99 : ∀ {v0 : Nat} {v1 : Int32} {v2 : Int32} {v3 : Int32} {v4 : Int32} {v5 : Int32} {v6 : Int32} {D : xDt} {r : Int32 × xDt}, xK S v0 12 → Rg v0 → rec_99 v0 v1 v2 v3 v4 v5 v6 D = some r → xfr Rg D r.2) {v0 : Nat} {v1 : Int32} {v2 : Int32} {v3 : Int32} {v4 : Int32} {v5 : Int32} {v6 : Int32} {D : xDt} {r : Int32 × xDt} (k0 : xK S v0 12) (r0 : Rg v0) (h : f_X12_decide_99s F P S rec_56 rec_99 v0 v1 v2 v3 v4 v5 v6 D = some r) : xfr Rg D r.2 := by
  unfold f_X12_decide_99s at h
  refine xif_p h (fun c h => ?_) (fun c h => ?_)
  · skip
    exact u_X12_decide_151 hS hR hrec_56 k0 r0 h
  · skip
    refine xif_n h (fun c h => ?_) (fun c h => ?_)
    · skip
      exact u_X12_decide_151 hS hR hrec_56 k0 r0 h
    · skip
      refine xgrd_e h (fun g1 h => ?_)
      refine xif_n h (fun c h => ?_) (fun c h => ?_)
      · skip
        exact u_X12_decide_145 hS hR hrec_56 hrec_99 k0 r0 h
      · skip
        refine xbnd_e h (fun q2 e2 h => ?_)
        refine xfr_tr (U_X12_shared hS hR k0 r0 e2) ?_
        refine xbnd_e h (fun q3 e3 h => ?_)
        refine xfr_tr (U_X12_inBase hS hR k0 r0 e3) ?_
        exact u_X12_decide_145 hS hR hrec_56 hrec_99 k0 r0 h
theorem u_X12_decide_99 {F P : Nat} {S : xSt} (hS : xWF S) {Rg : Nat → Prop} (hR : xRC S Rg) {rec_56 : Nat → Int32 → Int32 → Int32 → Int32 → xDt → Option (Int32 × xDt)} (hrec_56 : ∀ {v0 : Nat} {v1 : Int32} {v2 : Int32} {v3 : Int32} {v4 : Int32} {D : xDt} {r : Int32 × xDt}, xK S v0 12 → Rg v0 → rec_56 v0 v1 v2 v3 v4 D = some r → xfr Rg D r.2) : ∀ (n : Nat) {v0 : Nat} {v1 : Int32} {v2 : Int32} {v3 : Int32} {v4 : Int32} {v5 : Int32} {v6 : Int32} {D : xDt} {r : Int32 × xDt}, xK S v0 12 → Rg v0 → f_X12_decide_99 F P S rec_56 n v0 v1 v2 v3 v4 v5 v6 D = some r → xfr Rg D r.2 := by
  intro n
  induction n with
  | zero => intros; rename_i h; cases h
  | succ n ih =>
    intro v0 v1 v2 v3 v4 v5 v6 D r k0 r0 h
    exact u_X12_decide_99s hS hR hrec_56 (fun k0 r0 h => ih k0 r0 h) k0 r0 h

theorem u_X12_decide_96 {F P : Nat} {S : xSt} (hS : xWF S) {Rg : Nat → Prop} (hR : xRC S Rg) {rec_56 : Nat → Int32 → Int32 → Int32 → Int32 → xDt → Option (Int32 × xDt)} (hrec_56 : ∀ {v0 : Nat} {v1 : Int32} {v2 : Int32} {v3 : Int32} {v4 : Int32} {D : xDt} {r : Int32 × xDt}, xK S v0 12 → Rg v0 → rec_56 v0 v1 v2 v3 v4 D = some r → xfr Rg D r.2) {v0 : Nat} {v1 : Int32} {v2 : Int32} {v3 : Int32} {v4 : Int32} {v5 : Int32} {D : xDt} {r : Int32 × xDt} (k0 : xK S v0 12) (r0 : Rg v0) (h : f_X12_decide_96 F P S rec_56 v0 v1 v2 v3 v4 v5 D = some r) : xfr Rg D r.2 := by
  unfold f_X12_decide_96 at h
  exact u_X12_decide_99 hS hR hrec_56 F k0 r0 h

theorem u_X12_decide_90 {F P : Nat} {S : xSt} (hS : xWF S) {Rg : Nat → Prop} (hR : xRC S Rg) {rec_56 : Nat → Int32 → Int32 → Int32 → Int32 → xDt → Option (Int32 × xDt)} (hrec_56 : ∀ {v0 : Nat} {v1 : Int32} {v2 : Int32} {v3 : Int32} {v4 : Int32} {D : xDt} {r : Int32 × xDt}, xK S v0 12 → Rg v0 → rec_56 v0 v1 v2 v3 v4 D = some r → xfr Rg D r.2) {v0 : Nat} {v1 : Int32} {v2 : Int32} {v3 : Int32} {v4 : Int32} {v5 : Int32} {D : xDt} {r : Int32 × xDt} (k0 : xK S v0 12) (r0 : Rg v0) (h : f_X12_decide_90 F P S rec_56 v0 v1 v2 v3 v4 v5 D = some r) : xfr Rg D r.2 := by
  unfold f_X12_decide_90 at h
  refine xbnd_e h (fun q1 e1 h => ?_)
  refine xfr_tr (U_X12_inBase hS hR k0 r0 e1) ?_
  exact u_X12_decide_96 hS hR hrec_56 k0 r0 h

theorem u_X12_decide_330 {F P : Nat} {S : xSt} (hS : xWF S) {Rg : Nat → Prop} (hR : xRC S Rg) {rec_188 : Nat → Int32 → Int32 → Int32 → Int32 → Int32 → Int32 → xDt → Option (Int32 × xDt)} (hrec_188 : ∀ {v0 : Nat} {v1 : Int32} {v2 : Int32} {v3 : Int32} {v4 : Int32} {v5 : Int32} {v6 : Int32} {D : xDt} {r : Int32 × xDt}, xK S v0 12 → Rg v0 → rec_188 v0 v1 v2 v3 v4 v5 v6 D = some r → xfr Rg D r.2) {rec_265 : Nat → Int32 → Int32 → Int32 → Int32 → Int32 → Int32 → Int32 → xDt → Option (Int32 × xDt)} (hrec_265 : ∀ {v0 : Nat} {v1 : Int32} {v2 : Int32} {v3 : Int32} {v4 : Int32} {v5 : Int32} {v6 : Int32} {v7 : Int32} {D : xDt} {r : Int32 × xDt}, xK S v0 12 → Rg v0 → rec_265 v0 v1 v2 v3 v4 v5 v6 v7 D = some r → xfr Rg D r.2) {v0 : Nat} {v1 : Int32} {v2 : Int32} {v3 : Int32} {v4 : Int32} {v5 : Int32} {v6 : Int32} {v7 : Int32} {s0 : Int32} {s1 : Int32} {s2 : Int32} {s3 : Nat} {D : xDt} {r : Int32 × xDt} (k0 : xK S v0 12) (ks3 : xK S s3 100) (r0 : Rg v0) (rs3 : Rg s3) (h : f_X12_decide_330 F P S rec_188 rec_265 v0 v1 v2 v3 v4 v5 v6 v7 s0 s1 s2 s3 D = some r) : xfr Rg D r.2 := by
  unfold f_X12_decide_330 at h
  refine xgrd_e h (fun g1 h => ?_)
  refine xlet_e h (fun D2 eD2 h => ?_)
  refine xfr_i rs3 eD2 ?_
  refine xlet_e h (fun v7_3 ev7_3 h => ?_)
  exact hrec_265 k0 r0 h

theorem u_X12_decide_329 {F P : Nat} {S : xSt} (hS : xWF S) {Rg : Nat → Prop} (hR : xRC S Rg) {rec_188 : Nat → Int32 → Int32 → Int32 → Int32 → Int32 → Int32 → xDt → Option (Int32 × xDt)} (hrec_188 : ∀ {v0 : Nat} {v1 : Int32} {v2 : Int32} {v3 : Int32} {v4 : Int32} {v5 : Int32} {v6 : Int32} {D : xDt} {r : Int32 × xDt}, xK S v0 12 → Rg v0 → rec_188 v0 v1 v2 v3 v4 v5 v6 D = some r → xfr Rg D r.2) {rec_265 : Nat → Int32 → Int32 → Int32 → Int32 → Int32 → Int32 → Int32 → xDt → Option (Int32 × xDt)} (hrec_265 : ∀ {v0 : Nat} {v1 : Int32} {v2 : Int32} {v3 : Int32} {v4 : Int32} {v5 : Int32} {v6 : Int32} {v7 : Int32} {D : xDt} {r : Int32 × xDt}, xK S v0 12 → Rg v0 → rec_265 v0 v1 v2 v3 v4 v5 v6 v7 D = some r → xfr Rg D r.2) {v0 : Nat} {v1 : Int32} {v2 : Int32} {v3 : Int32} {v4 : Int32} {v5 : Int32} {v6 : Int32} {v7 : Int32} {s0 : Int32} {s1 : Int32} {s2 : Nat} {D : xDt} {r : Int32 × xDt} (k0 : xK S v0 12) (ks2 : xK S s2 100) (r0 : Rg v0) (rs2 : Rg s2) (h : f_X12_decide_329 F P S rec_188 rec_265 v0 v1 v2 v3 v4 v5 v6 v7 s0 s1 s2 D = some r) : xfr Rg D r.2 := by
  unfold f_X12_decide_329 at h
  exact u_X12_decide_330 hS hR hrec_188 hrec_265 k0 ks2 r0 rs2 h

theorem u_X12_decide_265s {F P : Nat} {S : xSt} (hS : xWF S) {Rg : Nat → Prop} (hR : xRC S Rg) {rec_188 : Nat → Int32 → Int32 → Int32 → Int32 → Int32 → Int32 → xDt → Option (Int32 × xDt)} (hrec_188 : ∀ {v0 : Nat} {v1 : Int32} {v2 : Int32} {v3 : Int32} {v4 : Int32} {v5 : Int32} {v6 : Int32} {D : xDt} {r : Int32 × xDt}, xK S v0 12 → Rg v0 → rec_188 v0 v1 v2 v3 v4 v5 v6 D = some r → xfr Rg D r.2) {rec_265 : Nat → Int32 → Int32 → Int32 → Int32 → Int32 → Int32 → Int32 → xDt → Option (Int32 × xDt)} (hrec_265 : ∀ {v0 : Nat} {v1 : Int32} {v2 : Int32} {v3 : Int32} {v4 : Int32} {v5 : Int32} {v6 : Int32} {v7 : Int32} {D : xDt} {r : Int32 × xDt}, xK S v0 12 → Rg v0 → rec_265 v0 v1 v2 v3 v4 v5 v6 v7 D = some r → xfr Rg D r.2) {v0 : Nat} {v1 : Int32} {v2 : Int32} {v3 : Int32} {v4 : Int32} {v5 : Int32} {v6 : Int32} {v7 : Int32} {D : xDt} {r : Int32 × xDt} (k0 : xK S v0 12) (r0 : Rg v0) (h : f_X12_decide_265s F P S rec_188 rec_265 v0 v1 v2 v3 v4 v5 v6 v7 D = some r) : xfr Rg D r.2 := by
  unfold f_X12_decide_265s at h
  refine xif_p h (fun c h => ?_) (fun c h => ?_)
  · skip
    refine xlet_e h (fun v6_1 ev6_1 h => ?_)
    exact hrec_188 k0 r0 h
  · skip
    refine xgrd_e h (fun g2 h => ?_)
    refine xgrd_e h (fun g3 h => ?_)
    refine xgrd_e h (fun g4 h => ?_)
    refine xif_p h (fun c h => ?_) (fun c h => ?_)
    · skip
      exact u_X12_decide_329 hS hR hrec_188 hrec_265 k0 ((hS.f k0 40 100 rfl).2) r0 (hR.1 k0 r0 40 100 rfl) h
    · skip
      refine xgrd_e h (fun g5 h => ?_)
      refine xgrd_e h (fun g6 h => ?_)
      refine xgrd_e h (fun g7 h => ?_)
      refine xif_p h (fun c h => ?_) (fun c h => ?_)
      · skip
        exact u_X12_decide_329 hS hR hrec_188 hrec_265 k0 ((hS.f k0 40 100 rfl).2) r0 (hR.1 k0 r0 40 100 rfl) h
      · skip
        exact u_X12_decide_330 hS hR hrec_188 hrec_265 k0 ((hS.f k0 40 100 rfl).2) r0 (hR.1 k0 r0 40 100 rfl) h
theorem u_X12_decide_265 {F P : Nat} {S : xSt} (hS : xWF S) {Rg : Nat → Prop} (hR : xRC S Rg) {rec_188 : Nat → Int32 → Int32 → Int32 → Int32 → Int32 → Int32 → xDt → Option (Int32 × xDt)} (hrec_188 : ∀ {v0 : Nat} {v1 : Int32} {v2 : Int32} {v3 : Int32} {v4 : Int32} {v5 : Int32} {v6 : Int32} {D : xDt} {r : Int32 × xDt}, xK S v0 12 → Rg v0 → rec_188 v0 v1 v2 v3 v4 v5 v6 D = some r → xfr Rg D r.2) : ∀ (n : Nat) {v0 : Nat} {v1 : Int32} {v2 : Int32} {v3 : Int32} {v4 : Int32} {v5 : Int32} {v6 : Int32} {v7 : Int32} {D : xDt} {r : Int32 × xDt}, xK S v0 12 → Rg v0 → f_X12_decide_265 F P S rec_188 n v0 v1 v2 v3 v4 v5 v6 v7 D = some r → xfr Rg D r.2 := by
  intro n
  induction n with
  | zero => intros; rename_i h; cases h
  | succ n ih =>
    intro v0 v1 v2 v3 v4 v5 v6 v7 D r k0 r0 h
    exact u_X12_decide_265s hS hR hrec_188 (fun k0 r0 h => ih k0 r0 h) k0 r0 h

theorem u_X12_decide_261 {F P : Nat} {S : xSt} (hS : xWF S) {Rg : Nat → Prop} (hR : xRC S Rg) {rec_188 : Nat → Int32 → Int32 → Int32 → Int32 → Int32 → Int32 → xDt → Option (Int32 × xDt)} (hrec_188 : ∀ {v0 : Nat} {v1 : Int32} {v2 : Int32} {v3 : Int32} {v4 : Int32} {v5 : Int32} {v6 : Int32} {D : xDt} {r : Int32 × xDt}, xK S v0 12 → Rg v0 → rec_188 v0 v1 v2 v3 v4 v5 v6 D = some r → xfr Rg D r.2) {v0 : Nat} {v1 : Int32} {v2 : Int32} {v3 : Int32} {v4 : Int32} {v5 : Int32} {v6 : Int32} {s0 : Int32} {s1 : Int32} {s2 : Nat} {D : xDt} {r : Int32 × xDt} (k0 : xK S v0 12) (ks2 : xK S s2 100) (r0 : Rg v0) (rs2 : Rg s2) (h : f_X12_decide_261 F P S rec_188 v0 v1 v2 v3 v4 v5 v6 s0 s1 s2 D = some r) : xfr Rg D r.2 := by
  unfold f_X12_decide_261 at h
  refine xgrd_e h (fun g1 h => ?_)
  refine xlet_e h (fun D2 eD2 h => ?_)
  refine xfr_i rs2 eD2 ?_
  exact u_X12_decide_265 hS hR hrec_188 F k0 r0 h

theorem u_X12_decide_232 {F P : Nat} {S : xSt} (hS : xWF S) {Rg : Nat → Prop} (hR : xRC S Rg) {rec_188 : Nat → Int32 → Int32 → Int32 → Int32 → Int32 → Int32 → xDt → Option (Int32 × xDt)} (hrec_188 : ∀ {v0 : Nat} {v1 : Int32} {v2 : Int32} {v3 : Int32} {v4 : Int32} {v5 : Int32} {v6 : Int32} {D : xDt} {r : Int32 × xDt}, xK S v0 12 → Rg v0 → rec_188 v0 v1 v2 v3 v4 v5 v6 D = some r → xfr Rg D r.2) {v0 : Nat} {v1 : Int32} {v2 : Int32} {v3 : Int32} {v4 : Int32} {v6 : Int32} {s0 : Int32} {s1 : Int32} {D : xDt} {r : Int32 × xDt} (k0 : xK S v0 12) (r0 : Rg v0) (h : f_X12_decide_232 F P S rec_188 v0 v1 v2 v3 v4 v6 s0 s1 D = some r) : xfr Rg D r.2 := by
  unfold f_X12_decide_232 at h
  refine xlet_e h (fun v5_1 ev5_1 h => ?_)
  refine xgrd_e h (fun g2 h => ?_)
  refine xif_p h (fun c h => ?_) (fun c h => ?_)
  · skip
    exact u_X12_decide_261 hS hR hrec_188 k0 ((hS.f k0 40 100 rfl).2) r0 (hR.1 k0 r0 40 100 rfl) h
  · skip
    exact u_X12_decide_261 hS hR hrec_188 k0 ((hS.f k0 40 100 rfl).2) r0 (hR.1 k0 r0 40 100 rfl) h

theorem u_X12_decide_404 {F P : Nat} {S : xSt} (hS : xWF S) {Rg : Nat → Prop} (hR : xRC S Rg) {rec_347 : Nat → Int32 → Int32 → Int32 → Int32 → xDt → Option (Int32 × xDt)} (hrec_347 : ∀ {v0 : Nat} {v1 : Int32} {v4 : Int32} {v5 : Int32} {v6 : Int32} {D : xDt} {r : Int32 × xDt}, xK S v0 12 → Rg v0 → rec_347 v0 v1 v4 v5 v6 D = some r → xfr Rg D r.2) {rec_358 : Nat → Int32 → Int32 → Int32 → Int32 → Int32 → xDt → Option (Int32 × xDt)} (hrec_358 : ∀ {v0 : Nat} {v1 : Int32} {v4 : Int32} {v5 : Int32} {v6 : Int32} {v7 : Int32} {D : xDt} {r : Int32 × xDt}, xK S v0 12 → Rg v0 → rec_358 v0 v1 v4 v5 v6 v7 D = some r → xfr Rg D r.2) {v0 : Nat} {v1 : Int32} {v4 : Int32} {v5 : Int32} {v7 : Int32} {s0 : Int32} {D : xDt} {r : Int32 × xDt} (k0 : xK S v0 12) (r0 : Rg v0) (h : f_X12_decide_404 F P S rec_347 rec_358 v0 v1 v4 v5 v7 s0 D = some r) : xfr Rg D r.2 := by
  unfold f_X12_decide_404 at h
  refine xlet_e h (fun v7_1 ev7_1 h => ?_)
  exact hrec_358 k0 r0 h

theorem u_X12_decide_399 {F P : Nat} {S : xSt} (hS : xWF S) {Rg : Nat → Prop} (hR : xRC S Rg) {rec_347 : Nat → Int32 → Int32 → Int32 → Int32 → xDt → Option (Int32 × xDt)} (hrec_347 : ∀ {v0 : Nat} {v1 : Int32} {v4 : Int32} {v5 : Int32} {v6 : Int32} {D : xDt} {r : Int32 × xDt}, xK S v0 12 → Rg v0 → rec_347 v0 v1 v4 v5 v6 D = some r → xfr Rg D r.2) {rec_358 : Nat → Int32 → Int32 → Int32 → Int32 → Int32 → xDt → Option (Int32 × xDt)} (hrec_358 : ∀ {v0 : Nat} {v1 : Int32} {v4 : Int32} {v5 : Int32} {v6 : Int32} {v7 : Int32} {D : xDt} {r : Int32 × xDt}, xK S v0 12 → Rg v0 → rec_358 v0 v1 v4 v5 v6 v7 D = some r → xfr Rg D r.2) {v0 : Nat} {v1 : Int32} {v4 : Int32} {v5 : Int32} {v7 : Int32} {D : xDt} {r : Int32 × xDt} (k0 : xK S v0 12) (r0 : Rg v0) (h : f_X12_decide_399 F P S rec_347 rec_358 v0 v1 v4 v5 v7 D = some r) : xfr Rg D r.2 := by
  unfold f_X12_decide_399 at h
  exact u_X12_decide_404 hS hR hrec_347 hrec_358 k0 r0 h

theorem u_X12_decide_394 {F P : Nat} {S : xSt} (hS : xWF S) {Rg : Nat → Prop} (hR : xRC S Rg) {rec_347 : Nat → Int32 → Int32 → Int32 → Int32 → xDt → Option (Int32 × xDt)} (hrec_347 : ∀ {v0 : Nat} {v1 : Int32} {v4 : Int32} {v5 : Int32} {v6 : Int32} {D : xDt} {r : Int32 × xDt}, xK S v0 12 → Rg v0 → rec_347 v0 v1 v4 v5 v6 D = some r → xfr Rg D r.2) {rec_358 : Nat → Int32 → Int32 → Int32 → Int32 → Int32 → xDt → Option (Int32 × xDt)} (hrec_358 : ∀ {v0 : Nat} {v1 : Int32} {v4 : Int32} {v5 : Int32} {v6 : Int32} {v7 : Int32} {D : xDt} {r : Int32 × xDt}, xK S v0 12 → Rg v0 → rec_358 v0 v1 v4 v5 v6 v7 D = some r → xfr Rg D r.2) {v0 : Nat} {v1 : Int32} {v4 : Int32} {v5 : Int32} {v6 : Int32} {v7 : Int32} {D : xDt} {r : Int32 × xDt} (k0 : xK S v0 12) (r0 : Rg v0) (h : f_X12_decide_394 F P S rec_347 rec_358 v0 v1 v4 v5 v6 v7 D = some r) : xfr Rg D r.2 := by
  unfold f_X12_decide_394 at h
  refine xif_p h (fun c h => ?_) (fun c h => ?_)
  · skip
    exact u_X12_decide_404 hS hR hrec_347 hrec_358 k0 r0 h
  · skip
    exact u_X12_decide_399 hS hR hrec_347 hrec_358 k0 r0 h

theorem u_X12_decide_358s {F P : Nat} {S : xSt} (hS : xWF S) {Rg : Nat → Prop} (hR : xRC S Rg) {rec_347 : Nat → Int32 → Int32 → Int32 → Int32 → xDt → Option (Int32 × xDt)} (hrec_347 : ∀ {v0 : Nat} {v1 : Int32} {v4 : Int32} {v5 : Int32} {v6 : Int32} {D : xDt} {r : Int32 × xDt}, xK S v0 12 → Rg v0 → rec_347 v0 v1 v4 v5 v6 D = some r → xfr Rg D r.2) {rec_358 : Nat → Int32 → Int32 → Int32 → Int32 → Int32 → xDt → Option (Int32 × xDt)} (hrec_358 : ∀ {v0 : Nat} {v1 : Int32} {v4 : Int32} {v5 : Int32} {v6 : Int32} {v7 : Int32} {D : xDt} {r : Int32 × xDt}, xK S v0 12 → Rg v0 → rec_358 v0 v1 v4 v5 v6 v7 D = some r → xfr Rg D r.2) {v0 : Nat} {v1 : Int32} {v4 : Int32} {v5 : Int32} {v6 : Int32} {v7 : Int32} {D : xDt} {r : Int32 × xDt} (k0 : xK S v0 12) (r0 : Rg v0) (h : f_X12_decide_358s F P S rec_347 rec_358 v0 v1 v4 v5 v6 v7 D = some r) : xfr Rg D r.2 := by
  unfold f_X12_decide_358s at h
  refine xif_p h (fun c h => ?_) (fun c h => ?_)
  · skip
    exact hrec_347 k0 r0 h
  · skip
    refine xgrd_e h (fun g1 h => ?_)
    refine xgrd_e h (fun g2 h => ?_)
    refine xif_p h (fun c h => ?_) (fun c h => ?_)
    · skip
      exact u_X12_decide_394 hS hR hrec_347 hrec_358 k0 r0 h
    · skip
      refine xbnd_e h (fun q3 e3 h => ?_)
      refine xfr_tr (U_X12_sift hS hR k0 r0 e3) ?_
      refine xif_n h (fun c h => ?_) (fun c h => ?_)
      · skip
        exact u_X12_decide_399 hS hR hrec_347 hrec_358 k0 r0 h
      · skip
        exact u_X12_decide_394 hS hR hrec_347 hrec_358 k0 r0 h
theorem u_X12_decide_358 {F P : Nat} {S : xSt} (hS : xWF S) {Rg : Nat → Prop} (hR : xRC S Rg) {rec_347 : Nat → Int32 → Int32 → Int32 → Int32 → xDt → Option (Int32 × xDt)} (hrec_347 : ∀ {v0 : Nat} {v1 : Int32} {v4 : Int32} {v5 : Int32} {v6 : Int32} {D : xDt} {r : Int32 × xDt}, xK S v0 12 → Rg v0 → rec_347 v0 v1 v4 v5 v6 D = some r → xfr Rg D r.2) : ∀ (n : Nat) {v0 : Nat} {v1 : Int32} {v4 : Int32} {v5 : Int32} {v6 : Int32} {v7 : Int32} {D : xDt} {r : Int32 × xDt}, xK S v0 12 → Rg v0 → f_X12_decide_358 F P S rec_347 n v0 v1 v4 v5 v6 v7 D = some r → xfr Rg D r.2 := by
  intro n
  induction n with
  | zero => intros; rename_i h; cases h
  | succ n ih =>
    intro v0 v1 v4 v5 v6 v7 D r k0 r0 h
    exact u_X12_decide_358s hS hR hrec_347 (fun k0 r0 h => ih k0 r0 h) k0 r0 h

theorem u_X12_decide_482 {F P : Nat} {S : xSt} (hS : xWF S) {Rg : Nat → Prop} (hR : xRC S Rg) {rec_424 : Nat → Int32 → Int32 → Int32 → Int32 → Int32 → Int32 → xDt → Option (Int32 × xDt)} (hrec_424 : ∀ {v0 : Nat} {v1 : Int32} {v4 : Int32} {v5 : Int32} {v7 : Int32} {v8 : Int32} {v9 : Int32} {D : xDt} {r : Int32 × xDt}, xK S v0 12 → rec_424 v0 v1 v4 v5 v7 v8 v9 D = some r → xfr Rg D r.2) {v0 : Nat} {v1 : Int32} {v4 : Int32} {v5 : Int32} {v7 : Int32} {v9 : Int32} {s0 : Int32} {s1 : Int32} {D : xDt} {r : Int32 × xDt} (k0 : xK S v0 12) (h : f_X12_decide_482 F P S rec_424 v0 v1 v4 v5 v7 v9 s0 s1 D = some r) : xfr Rg D r.2 := by
  unfold f_X12_decide_482 at h
  refine xlet_e h (fun v8_1 ev8_1 h => ?_)
  refine xlet_e h (fun v9_2 ev9_2 h => ?_)
  exact hrec_424 k0 h

theorem u_X12_decide_481 {F P : Nat} {S : xSt} (hS : xWF S) {Rg : Nat → Prop} (hR : xRC S Rg) {rec_424 : Nat → Int32 → Int32 → Int32 → Int32 → Int32 → Int32 → xDt → Option (Int32 × xDt)} (hrec_424 : ∀ {v0 : Nat} {v1 : Int32} {v4 : Int32} {v5 : Int32} {v7 : Int32} {v8 : Int32} {v9 : Int32} {D : xDt} {r : Int32 × xDt}, xK S v0 12 → rec_424 v0 v1 v4 v5 v7 v8 v9 D = some r → xfr Rg D r.2) {v0 : Nat} {v1 : Int32} {v4 : Int32} {v5 : Int32} {v7 : Int32} {v9 : Int32} {s0 : Int32} {D : xDt} {r : Int32 × xDt} (k0 : xK S v0 12) (h : f_X12_decide_481 F P S rec_424 v0 v1 v4 v5 v7 v9 s0 D = some r) : xfr Rg D r.2 := by
  unfold f_X12_decide_481 at h
  exact u_X12_decide_482 hS hR hrec_424 k0 h

theorem u_X12_decide_448 {F P : Nat} {S : xSt} (hS : xWF S) {Rg : Nat → Prop} (hR : xRC S Rg) {rec_424 : Nat → Int32 → Int32 → Int32 → Int32 → Int32 → Int32 → xDt → Option (Int32 × xDt)} (hrec_424 : ∀ {v0 : Nat} {v1 : Int32} {v4 : Int32} {v5 : Int32} {v7 : Int32} {v8 : Int32} {v9 : Int32} {D : xDt} {r : Int32 × xDt}, xK S v0 12 → rec_424 v0 v1 v4 v5 v7 v8 v9 D = some r → xfr Rg D r.2) {v0 : Nat} {v1 : Int32} {v4 : Int32} {v5 : Int32} {v8 : Int32} {v9 : Int32} {s0 : Int32} {s1 : Int32} {D : xDt} {r : Int32 × xDt} (k0 : xK S v0 12) (h : f_X12_decide_448 F P S rec_424 v0 v1 v4 v5 v8 v9 s0 s1 D = some r) : xfr Rg D r.2 := by
  unfold f_X12_decide_448 at h
  refine xlet_e h (fun v7_1 ev7_1 h => ?_)
  refine xgrd_e h (fun g2 h => ?_)
  refine xif_p h (fun c h => ?_) (fun c h => ?_)
  · skip
    exact u_X12_decide_481 hS hR hrec_424 k0 h
  · skip
    refine xgrd_e h (fun g3 h => ?_)
    refine xif_n h (fun c h => ?_) (fun c h => ?_)
    · skip
      exact u_X12_decide_481 hS hR hrec_424 k0 h
    · skip
      exact u_X12_decide_482 hS hR hrec_424 k0 h

theorem u_X12_decide_424s {F P : Nat} {S : xSt} (hS : xWF S) {Rg : Nat → Prop} (hR : xRC S Rg) {rec_424 : Nat → Int32 → Int32 → Int32 → Int32 → Int32 → Int32 → xDt → Option (Int32 × xDt)} (hrec_424 : ∀ {v0 : Nat} {v1 : Int32} {v4 : Int32} {v5 : Int32} {v7 : Int32} {v8 : Int32} {v9 : Int32} {D : xDt} {r : Int32 × xDt}, xK S v0 12 → rec_424 v0 v1 v4 v5 v7 v8 v9 D = some r → xfr Rg D r.2) {v0 : Nat} {v1 : Int32} {v4 : Int32} {v5 : Int32} {v7 : Int32} {v8 : Int32} {v9 : Int32} {D : xDt} {r : Int32 × xDt} (k0 : xK S v0 12) (h : f_X12_decide_424s F P S rec_424 v0 v1 v4 v5 v7 v8 v9 D = some r) : xfr Rg D r.2 := by
  unfold f_X12_decide_424s at h
  refine xif_p h (fun c h => ?_) (fun c h => ?_)
  · skip
    by_cases c0 : v1 = 0
    · rw [if_pos c0] at h
      refine xif_p h (fun c h => ?_) (fun c h => ?_)
      · skip
        obtain rfl := Option.some.inj h
        exact xfr_rf
      · skip
        obtain rfl := Option.some.inj h
        exact xfr_rf
    · rw [if_neg c0] at h
      by_cases c1 : v1 = 1
      · rw [if_pos c1] at h
        refine xif_n h (fun c h => ?_) (fun c h => ?_)
        · skip
          obtain rfl := Option.some.inj h
          exact xfr_rf
        · skip
          obtain rfl := Option.some.inj h
          exact xfr_rf
      · rw [if_neg c1] at h
        by_cases c2 : v1 = 2
        · rw [if_pos c2] at h
          obtain rfl := Option.some.inj h
          exact xfr_rf
        · rw [if_neg c2] at h
          by_cases c3 : v1 = 3
          · rw [if_pos c3] at h
            obtain rfl := Option.some.inj h
            exact xfr_rf
          · rw [if_neg c3] at h
            by_cases c4 : v1 = 4
            · rw [if_pos c4] at h
              obtain rfl := Option.some.inj h
              exact xfr_rf
            · rw [if_neg c4] at h
              obtain rfl := Option.some.inj h
              exact xfr_rf
  · skip
    refine xgrd_e h (fun g1 h => ?_)
    refine xif_p h (fun c h => ?_) (fun c h => ?_)
    · skip
      exact u_X12_decide_448 hS hR hrec_424 k0 h
    · skip
      exact u_X12_decide_448 hS hR hrec_424 k0 h
theorem u_X12_decide_424 {F P : Nat} {S : xSt} (hS : xWF S) {Rg : Nat → Prop} (hR : xRC S Rg) : ∀ (n : Nat) {v0 : Nat} {v1 : Int32} {v4 : Int32} {v5 : Int32} {v7 : Int32} {v8 : Int32} {v9 : Int32} {D : xDt} {r : Int32 × xDt}, xK S v0 12 → f_X12_decide_424 F P S n v0 v1 v4 v5 v7 v8 v9 D = some r → xfr Rg D r.2 := by
  intro n
  induction n with
  | zero => intros; rename_i h; cases h
  | succ n ih =>
    intro v0 v1 v4 v5 v7 v8 v9 D r k0 h
    exact u_X12_decide_424s hS hR (fun k0 h => ih k0 h) k0 h

theorem u_X12_decide_347s {F P : Nat} {S : xSt} (hS : xWF S) {Rg : Nat → Prop} (hR : xRC S Rg) {rec_347 : Nat → Int32 → Int32 → Int32 → Int32 → xDt → Option (Int32 × xDt)} (hrec_347 : ∀ {v0 : Nat} {v1 : Int32} {v4 : Int32} {v5 : Int32} {v6 : Int32} {D : xDt} {r : Int32 × xDt}, xK S v0 12 → Rg v0 → rec_347 v0 v1 v4 v5 v6 D = some r → xfr Rg D r.2) {v0 : Nat} {v1 : Int32} {v4 : Int32} {v5 : Int32} {v6 : Int32} {D : xDt} {r : Int32 × xDt} (k0 : xK S v0 12) (r0 : Rg v0) (h : f_X12_decide_347s F P S rec_347 v0 v1 v4 v5 v6 D = some r) : xfr Rg D r.2 := by
  unfold f_X12_decide_347s at h
  refine xif_p h (fun c h => ?_) (fun c h => ?_)
  · skip
    exact u_X12_decide_424 hS hR F k0 h
  · skip
    exact u_X12_decide_358 hS hR hrec_347 F k0 r0 h
theorem u_X12_decide_347 {F P : Nat} {S : xSt} (hS : xWF S) {Rg : Nat → Prop} (hR : xRC S Rg) : ∀ (n : Nat) {v0 : Nat} {v1 : Int32} {v4 : Int32} {v5 : Int32} {v6 : Int32} {D : xDt} {r : Int32 × xDt}, xK S v0 12 → Rg v0 → f_X12_decide_347 F P S n v0 v1 v4 v5 v6 D = some r → xfr Rg D r.2 := by
  intro n
  induction n with
  | zero => intros; rename_i h; cases h
  | succ n ih =>
    intro v0 v1 v4 v5 v6 D r k0 r0 h
    exact u_X12_decide_347s hS hR (fun k0 r0 h => ih k0 r0 h) k0 r0 h

theorem u_X12_decide_188s {F P : Nat} {S : xSt} (hS : xWF S) {Rg : Nat → Prop} (hR : xRC S Rg) {rec_188 : Nat → Int32 → Int32 → Int32 → Int32 → Int32 → Int32 → xDt → Option (Int32 × xDt)} (hrec_188 : ∀ {v0 : Nat} {v1 : Int32} {v2 : Int32} {v3 : Int32} {v4 : Int32} {v5 : Int32} {v6 : Int32} {D : xDt} {r : Int32 × xDt}, xK S v0 12 → Rg v0 → rec_188 v0 v1 v2 v3 v4 v5 v6 D = some r → xfr Rg D r.2) {v0 : Nat} {v1 : Int32} {v2 : Int32} {v3 : Int32} {v4 : Int32} {v5 : Int32} {v6 : Int32} {D : xDt} {r : Int32 × xDt} (k0 : xK S v0 12) (r0 : Rg v0) (h : f_X12_decide_188s F P S rec_188 v0 v1 v2 v3 v4 v5 v6 D = some r) : xfr Rg D r.2 := by
  unfold f_X12_decide_188s at h
  refine xif_p h (fun c h => ?_) (fun c h => ?_)
  · skip
    exact u_X12_decide_347 hS hR F k0 r0 h
  · skip
    refine xbnd_e h (fun q1 e1 h => ?_)
    refine xfr_tr (U_X12_reckon hS hR k0 r0 e1) ?_
    refine xbnd_e h (fun q2 e2 h => ?_)
    refine xfr_tr (U_X12_isType hS hR k0 r0 e2) ?_
    refine xgrd_e h (fun g3 h => ?_)
    refine xlet_e h (fun D4 eD4 h => ?_)
    refine xfr_i (hR.1 k0 r0 39 104 rfl) eD4 ?_
    refine xgrd_e h (fun g5 h => ?_)
    refine xif_p h (fun c h => ?_) (fun c h => ?_)
    · skip
      exact u_X12_decide_232 hS hR hrec_188 k0 r0 h
    · skip
      exact u_X12_decide_232 hS hR hrec_188 k0 r0 h
theorem u_X12_decide_188 {F P : Nat} {S : xSt} (hS : xWF S) {Rg : Nat → Prop} (hR : xRC S Rg) : ∀ (n : Nat) {v0 : Nat} {v1 : Int32} {v2 : Int32} {v3 : Int32} {v4 : Int32} {v5 : Int32} {v6 : Int32} {D : xDt} {r : Int32 × xDt}, xK S v0 12 → Rg v0 → f_X12_decide_188 F P S n v0 v1 v2 v3 v4 v5 v6 D = some r → xfr Rg D r.2 := by
  intro n
  induction n with
  | zero => intros; rename_i h; cases h
  | succ n ih =>
    intro v0 v1 v2 v3 v4 v5 v6 D r k0 r0 h
    exact u_X12_decide_188s hS hR (fun k0 r0 h => ih k0 r0 h) k0 r0 h

theorem u_X12_decide_56s {F P : Nat} {S : xSt} (hS : xWF S) {Rg : Nat → Prop} (hR : xRC S Rg) {rec_56 : Nat → Int32 → Int32 → Int32 → Int32 → xDt → Option (Int32 × xDt)} (hrec_56 : ∀ {v0 : Nat} {v1 : Int32} {v2 : Int32} {v3 : Int32} {v4 : Int32} {D : xDt} {r : Int32 × xDt}, xK S v0 12 → Rg v0 → rec_56 v0 v1 v2 v3 v4 D = some r → xfr Rg D r.2) {v0 : Nat} {v1 : Int32} {v2 : Int32} {v3 : Int32} {v4 : Int32} {D : xDt} {r : Int32 × xDt} (k0 : xK S v0 12) (r0 : Rg v0) (h : f_X12_decide_56s F P S rec_56 v0 v1 v2 v3 v4 D = some r) : xfr Rg D r.2 := by
  unfold f_X12_decide_56s at h
  refine xif_p h (fun c h => ?_) (fun c h => ?_)
  · skip
    refine xif_p h (fun c h => ?_) (fun c h => ?_)
    · skip
      refine xlet_e h (fun v3_1 ev3_1 h => ?_)
      refine xlet_e h (fun v4_2 ev4_2 h => ?_)
      exact u_X12_decide_188 hS hR F k0 r0 h
    · skip
      obtain rfl := Option.some.inj h
      exact xfr_rf
  · skip
    refine xgrd_e h (fun g3 h => ?_)
    refine xlet_e h (fun v5_4 ev5_4 h => ?_)
    refine xif_p h (fun c h => ?_) (fun c h => ?_)
    · skip
      exact u_X12_decide_90 hS hR hrec_56 k0 r0 h
    · skip
      refine xif_p h (fun c h => ?_) (fun c h => ?_)
      · skip
        exact u_X12_decide_90 hS hR hrec_56 k0 r0 h
      · skip
        refine xif_n h (fun c h => ?_) (fun c h => ?_)
        · skip
          exact u_X12_decide_96 hS hR hrec_56 k0 r0 h
        · skip
          exact u_X12_decide_90 hS hR hrec_56 k0 r0 h
theorem u_X12_decide_56 {F P : Nat} {S : xSt} (hS : xWF S) {Rg : Nat → Prop} (hR : xRC S Rg) : ∀ (n : Nat) {v0 : Nat} {v1 : Int32} {v2 : Int32} {v3 : Int32} {v4 : Int32} {D : xDt} {r : Int32 × xDt}, xK S v0 12 → Rg v0 → f_X12_decide_56 F P S n v0 v1 v2 v3 v4 D = some r → xfr Rg D r.2 := by
  intro n
  induction n with
  | zero => intros; rename_i h; cases h
  | succ n ih =>
    intro v0 v1 v2 v3 v4 D r k0 r0 h
    exact u_X12_decide_56s hS hR (fun k0 r0 h => ih k0 r0 h) k0 r0 h

theorem U_X12_decide {F P : Nat} {S : xSt} (hS : xWF S) {Rg : Nat → Prop} (hR : xRC S Rg) {v0 : Nat} {v1 : Int32} {D : xDt} {r : Int32 × xDt} (k0 : xK S v0 12) (r0 : Rg v0) (h : f_X12_decide F P S v0 v1 D = some r) : xfr Rg D r.2 := by
  unfold f_X12_decide at h
  refine xbnd_e h (fun q1 e1 h => ?_)
  refine xfr_tr (U_X12_in hS hR e1) ?_
  refine xif_p h (fun c h => ?_) (fun c h => ?_)
  · skip
    obtain rfl := Option.some.inj h
    exact xfr_rf
  · skip
    refine xbnd_e h (fun q2 e2 h => ?_)
    refine xfr_tr (U_X12_has hS hR P k0 e2) ?_
    refine xif_p h (fun c h => ?_) (fun c h => ?_)
    · skip
      refine xlet_e h (fun D3 eD3 h => ?_)
      refine xfr_i r0 eD3 ?_
      refine xbnd_e h (fun q4 e4 h => ?_)
      refine xfr_tr (U_X12_plain hS hR P k0 r0 e4) ?_
      refine xlet_e h (fun v3_5 ev3_5 h => ?_)
      refine xlet_e h (fun D6 eD6 h => ?_)
      refine xfr_i r0 eD6 ?_
      exact u_X12_decide_56 hS hR F k0 r0 h
    · skip
      obtain rfl := Option.some.inj h
      exact xfr_rf

theorem u_X12_depth_88 {F P : Nat} {S : xSt} (hS : xWF S) {Rg : Nat → Prop} (hR : xRC S Rg) {self_X12_depth : Nat → Int32 → xDt → Option (Int32 × xDt)} (hself_X12_depth : ∀ {v0 : Nat} {v1 : Int32} {D : xDt} {r : Int32 × xDt}, xK S v0 12 → self_X12_depth v0 v1 D = some r → xfr Rg D r.2) {v4 : Int32} {D : xDt} {r : Int32 × xDt} (h : f_X12_depth_88 F P S self_X12_depth v4 D = some r) : xfr Rg D r.2 := by
  unfold f_X12_depth_88 at h
  obtain rfl := Option.some.inj h
  exact xfr_rf

theorem u_X12_depth_58 {F P : Nat} {S : xSt} (hS : xWF S) {Rg : Nat → Prop} (hR : xRC S Rg) {self_X12_depth : Nat → Int32 → xDt → Option (Int32 × xDt)} (hself_X12_depth : ∀ {v0 : Nat} {v1 : Int32} {D : xDt} {r : Int32 × xDt}, xK S v0 12 → self_X12_depth v0 v1 D = some r → xfr Rg D r.2) {v0 : Nat} {v1 : Int32} {s0 : Int32} {D : xDt} {r : Int32 × xDt} (k0 : xK S v0 12) (h : f_X12_depth_58 F P S self_X12_depth v0 v1 s0 D = some r) : xfr Rg D r.2 := by
  unfold f_X12_depth_58 at h
  refine xgrd_e h (fun g1 h => ?_)
  refine xif_p h (fun c h => ?_) (fun c h => ?_)
  · skip
    exact u_X12_depth_88 hS hR hself_X12_depth h
  · skip
    refine xgrd_e h (fun g2 h => ?_)
    refine xif_p h (fun c h => ?_) (fun c h => ?_)
    · skip
      exact u_X12_depth_88 hS hR hself_X12_depth h
    · skip
      obtain rfl := Option.some.inj h
      exact xfr_rf

theorem u_X12_depth_47 {F P : Nat} {S : xSt} (hS : xWF S) {Rg : Nat → Prop} (hR : xRC S Rg) {self_X12_depth : Nat → Int32 → xDt → Option (Int32 × xDt)} (hself_X12_depth : ∀ {v0 : Nat} {v1 : Int32} {D : xDt} {r : Int32 × xDt}, xK S v0 12 → self_X12_depth v0 v1 D = some r → xfr Rg D r.2) {v0 : Nat} {v1 : Int32} {v2 : Int32} {s0 : Int32} {D : xDt} {r : Int32 × xDt} (k0 : xK S v0 12) (h : f_X12_depth_47 F P S self_X12_depth v0 v1 v2 s0 D = some r) : xfr Rg D r.2 := by
  unfold f_X12_depth_47 at h
  refine xif_p h (fun c h => ?_) (fun c h => ?_)
  · skip
    exact u_X12_depth_58 hS hR hself_X12_depth k0 h
  · skip
    exact u_X12_depth_58 hS hR hself_X12_depth k0 h

theorem u_X12_depth_23 {F P : Nat} {S : xSt} (hS : xWF S) {Rg : Nat → Prop} (hR : xRC S Rg) {self_X12_depth : Nat → Int32 → xDt → Option (Int32 × xDt)} (hself_X12_depth : ∀ {v0 : Nat} {v1 : Int32} {D : xDt} {r : Int32 × xDt}, xK S v0 12 → self_X12_depth v0 v1 D = some r → xfr Rg D r.2) {v0 : Nat} {v1 : Int32} {s0 : Int32} {D : xDt} {r : Int32 × xDt} (k0 : xK S v0 12) (h : f_X12_depth_23 F P S self_X12_depth v0 v1 s0 D = some r) : xfr Rg D r.2 := by
  unfold f_X12_depth_23 at h
  refine xgrd_e h (fun g1 h => ?_)
  refine xif_p h (fun c h => ?_) (fun c h => ?_)
  · skip
    refine xgrd_e h (fun g2 h => ?_)
    refine xbnd_e h (fun q3 e3 h => ?_)
    refine xfr_tr (hself_X12_depth k0 e3) ?_
    exact u_X12_depth_47 hS hR hself_X12_depth k0 h
  · skip
    exact u_X12_depth_47 hS hR hself_X12_depth k0 h

theorem U_X12_depth_o {F P : Nat} {S : xSt} (hS : xWF S) {Rg : Nat → Prop} (hR : xRC S Rg) {self_X12_depth : Nat → Int32 → xDt → Option (Int32 × xDt)} (hself_X12_depth : ∀ {v0 : Nat} {v1 : Int32} {D : xDt} {r : Int32 × xDt}, xK S v0 12 → self_X12_depth v0 v1 D = some r → xfr Rg D r.2) {v0 : Nat} {v1 : Int32} {D : xDt} {r : Int32 × xDt} (k0 : xK S v0 12) (h : f_X12_depth_o F P S self_X12_depth v0 v1 D = some r) : xfr Rg D r.2 := by
  unfold f_X12_depth_o at h
  refine xgrd_e h (fun g1 h => ?_)
  refine xif_p h (fun c h => ?_) (fun c h => ?_)
  · skip
    refine xgrd_e h (fun g2 h => ?_)
    refine xbnd_e h (fun q3 e3 h => ?_)
    refine xfr_tr (hself_X12_depth k0 e3) ?_
    exact u_X12_depth_23 hS hR hself_X12_depth k0 h
  · skip
    exact u_X12_depth_23 hS hR hself_X12_depth k0 h

theorem U_X12_depth {F P : Nat} {S : xSt} (hS : xWF S) {Rg : Nat → Prop} (hR : xRC S Rg) : ∀ (n : Nat), ∀ {v0 : Nat} {v1 : Int32} {D : xDt} {r : Int32 × xDt}, xK S v0 12 → f_X12_depth F P S n v0 v1 D = some r → xfr Rg D r.2 := by
  intro n
  induction n with
  | zero => intros; rename_i h; cases h
  | succ n ih =>
    intro v0 v1 D r k0 h
    exact U_X12_depth_o hS hR (fun k0 h => ih k0 h) k0 h

theorem U_X12_count {F P : Nat} {S : xSt} (hS : xWF S) {Rg : Nat → Prop} (hR : xRC S Rg) {v0 : Nat} {v1 : Int32} {D : xDt} {r : Int32 × xDt} (k0 : xK S v0 12) (h : f_X12_count F P S v0 v1 D = some r) : xfr Rg D r.2 := by
  unfold f_X12_count at h
  by_cases c0 : v1 = 0
  · rw [if_pos c0] at h
    obtain rfl := Option.some.inj h
    exact xfr_rf
  · rw [if_neg c0] at h
    by_cases c1 : v1 = 1
    · rw [if_pos c1] at h
      obtain rfl := Option.some.inj h
      exact xfr_rf
    · rw [if_neg c1] at h
      by_cases c2 : v1 = 2
      · rw [if_pos c2] at h
        refine xgrd_e h (fun g1 h => ?_)
        obtain rfl := Option.some.inj h
        exact xfr_rf
      · rw [if_neg c2] at h
        by_cases c3 : v1 = 3
        · rw [if_pos c3] at h
          obtain rfl := Option.some.inj h
          exact xfr_rf
        · rw [if_neg c3] at h
          by_cases c4 : v1 = 4
          · rw [if_pos c4] at h
            obtain rfl := Option.some.inj h
            exact xfr_rf
          · rw [if_neg c4] at h
            by_cases c5 : v1 = 5
            · rw [if_pos c5] at h
              refine xbnd_e h (fun q2 e2 h => ?_)
              refine xfr_tr (U_X12_depth hS hR P k0 e2) ?_
              obtain rfl := Option.some.inj h
              exact xfr_rf
            · rw [if_neg c5] at h
              obtain rfl := Option.some.inj h
              exact xfr_rf

