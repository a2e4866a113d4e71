section
variable {p : Program} {l : Launch} {e : Env} {s : State} {m : MethodId} {args : Array Value} {below : List Frame} {meth : Method} {c : Code} {E : EnvT}
set_option maxRecDepth 100000 in
set_option maxHeartbeats 4000000 in
theorem w_X0_forgetAll_b0 {σ' : Mem} (C0 : Cx E p m c cX0_forgetAll 1 s args RX0 meth (none))  (k0 : Nat) (hk0 : kd k0 = 0) {σ : Mem} {H : Heap} {locs : List Loc} {ls : Array Slot} (hH : Hs E s σ H locs) (hl : lv_has ls 1 [(0, .ref (ea E k0))]) (h : X0_forgetAll_b0 k0 σ = some σ') : W p l e (rmD 0) s m args below meth c H locs 0 0 (MQ below (QvM E σ') args s 0 0 (eA E)) (F0 m 0 ls []) := by
  obtain ⟨⟨hx, hb, hml, hown, hts⟩, hr, hlocks, hF, hAd⟩ := id C0
  unfold X0_forgetAll_b0 at h
  refine lv_aload_n hx hb dX0_forgetAll_0 rfl (lv_at hl 0 rfl) ?_
  refine lv_iconst (v := 0) hx hb dX0_forgetAll_1 (by decide) ?_
  refine pf_X0_21 C0 hH hk0 dX0_forgetAll_2 (fun H locs hH => ?_)
  exact r_vret C0 hH (Option.some.inj h) dX0_forgetAll_5
theorem c_X0_forgetAll {l : Launch} {E : EnvT} (hAd : Ad E) (k0 : Nat) (hk0 : kd k0 = 0) (σ : Mem) {σ' : Mem} (h : X0_forgetAll k0 σ = some σ') : Met l yX0_forgetAll (wsM yX0_forgetAll cX0_forgetAll 1 (none)) (rmD 0) (PcM E [.ref (ea E k0)] σ) (QvM E σ') 0 0 (eA E) :=
  Met.ofM (by decide) (Nat.le_of_ble_eq_true rfl) (fun p e s m below meth c ls C0 hH hl => w_X0_forgetAll_b0 C0 k0 hk0 hH hl h) hAd
set_option maxRecDepth 100000 in
set_option maxHeartbeats 4000000 in
theorem w_X2_becomeLike_b41 {σ' : Mem} (C0 : Cx E p m c cX2_becomeLike 3 s args RX2 meth (none)) (K41 : Nat → Nat → Int32 → Mem → Option Mem) (hK41 : ∀ (k0 : Nat) (k1 : Nat) (v2 : Int32) (hk0 : kd k0 = 2) (hk1 : kd k1 = 2) (σ : Mem) (H : Heap) (locs : List Loc) (ls : Array Slot), Hs E s σ H locs → lv_has ls 3 [(0, .ref (ea E k0)), (1, .ref (ea E k1)), (2, .int v2)] → K41 k0 k1 v2 σ = some σ' → W p l e (rmD 1) s m args below meth c H locs 0 0 (MQ below (QvM E σ') args s 0 0 (eA E)) (F0 m 41 ls []))  (k0 : Nat) (k1 : Nat) (v2 : Int32) (hk0 : kd k0 = 2) (hk1 : kd k1 = 2) {σ : Mem} {H : Heap} {locs : List Loc} {ls : Array Slot} (hH : Hs E s σ H locs) (hl : lv_has ls 3 [(0, .ref (ea E k0)), (1, .ref (ea E k1)), (2, .int v2)]) (h : X2_becomeLike_b41 K41 k0 k1 v2 σ = some σ') : W p l e (rmD 1) s m args below meth c H locs 0 0 (MQ below (QvM E σ') args s 0 0 (eA E)) (F0 m 41 ls []) := by
  obtain ⟨⟨hx, hb, hml, hown, hts⟩, hr, hlocks, hF, hAd⟩ := id C0
  unfold X2_becomeLike_b41 at h
  refine lv_iload_n hx hb dX2_becomeLike_41 rfl (lv_at hl 2 rfl) ?_
  refine lv_iconst (v := 2) hx hb dX2_becomeLike_42 (by decide) ?_
  refine lv_icmp_gt (tgt := 71) hx hb dX2_becomeLike_43 (by decide) (fun c1 => ?_) (fun c1 => ?_)
  · replace h := if_t h c1
    exact r_vret C0 hH (Option.some.inj h) dX2_becomeLike_71
  · replace h := if_f h c1
    refine lv_aload_n hx hb dX2_becomeLike_46 rfl (lv_at hl 1 rfl) ?_
    refine gf_X2_27 C0 hH hk1 dX2_becomeLike_47 ?_
    refine lv_iload_n hx hb dX2_becomeLike_50 rfl (lv_at hl 2 rfl) ?_
    obtain ⟨b2, h⟩ := gdx_s h
    refine ra_13 C0 hH (kf_2_4 hk1) b2 dX2_becomeLike_51 ?_
    refine lv_iconst (v := 0) hx hb dX2_becomeLike_52 (by decide) ?_
    refine lv_aload_n hx hb dX2_becomeLike_53 rfl (lv_at hl 0 rfl) ?_
    refine gf_X2_27 C0 hH hk0 dX2_becomeLike_54 ?_
    refine lv_iload_n hx hb dX2_becomeLike_57 rfl (lv_at hl 2 rfl) ?_
    obtain ⟨b3, h⟩ := gdx_s h
    refine ra_13 C0 hH (kf_2_4 hk0) b3 dX2_becomeLike_58 ?_
    refine lv_iconst (v := 0) hx hb dX2_becomeLike_59 (by decide) ?_
    refine lv_bipush (v := 10) hx hb dX2_becomeLike_60 (by decide) ?_
    obtain ⟨b4, h⟩ := gdc_s h
    refine r_acopy C0 hH (n0 := 10) (n1 := 10) (h := 0) qM_X2_30 hl.1 rfl rfl (ka_13 (kf_2_4 hk1) b2) (ka_13 (kf_2_4 hk0) b3) b4.1 b4.2.1 b4.2.2.1 b4.2.2.2.1 b4.2.2.2.2 dX2_becomeLike_62 (fun H locs hH => ?_)
    refine lv_iinc (v := v2 + 1) (lv' := [(2, .int (v2 + 1)), (0, .ref (ea E k0)), (1, .ref (ea E k1))]) hx hb dX2_becomeLike_65 hl (k := 2) rfl rfl (by decide) rfl (fun ls hl => ?_)
    refine lv_goto (tgt := 41) hx hb dX2_becomeLike_68 (by decide) ?_
    exact hK41 k0 k1 (v2 + 1) hk0 hk1 _ _ _ _ hH (lv_sub hl [1, 2, 0] rfl) h
set_option maxRecDepth 100000 in
set_option maxHeartbeats 4000000 in
theorem w_X2_becomeLike_l41 {σ' : Mem} (C0 : Cx E p m c cX2_becomeLike 3 s args RX2 meth (none))  (n : Nat) : ∀ (k0 : Nat) (k1 : Nat) (v2 : Int32) (hk0 : kd k0 = 2) (hk1 : kd k1 = 2) (σ : Mem) (H : Heap) (locs : List Loc) (ls : Array Slot), Hs E s σ H locs → lv_has ls 3 [(0, .ref (ea E k0)), (1, .ref (ea E k1)), (2, .int v2)] → X2_becomeLike_l41 n k0 k1 v2 σ = some σ' → W p l e (rmD 1) s m args below meth c H locs 0 0 (MQ below (QvM E σ') args s 0 0 (eA E)) (F0 m 41 ls []) := by
  induction n with
  | zero =>
    intro k0 k1 v2 hk0 hk1 σ H locs ls hH hl h
    cases h
  | succ n ih =>
    intro k0 k1 v2 hk0 hk1 σ H locs ls hH hl h
    exact w_X2_becomeLike_b41 C0 (X2_becomeLike_l41 n)  ih k0 k1 v2 hk0 hk1 hH hl h
set_option maxRecDepth 100000 in
set_option maxHeartbeats 4000000 in
theorem w_X2_becomeLike_b0 {σ' : Mem} (C0 : Cx E p m c cX2_becomeLike 3 s args RX2 meth (none))  (k0 : Nat) (k1 : Nat) (hk0 : kd k0 = 2) (hk1 : kd k1 = 2) {σ : Mem} {H : Heap} {locs : List Loc} {ls : Array Slot} (hH : Hs E s σ H locs) (hl : lv_has ls 3 [(0, .ref (ea E k0)), (1, .ref (ea E k1))]) (h : X2_becomeLike_b0 k0 k1 σ = some σ') : W p l e (rmD 1) s m args below meth c H locs 0 0 (MQ below (QvM E σ') args s 0 0 (eA E)) (F0 m 0 ls []) := by
  obtain ⟨⟨hx, hb, hml, hown, hts⟩, hr, hlocks, hF, hAd⟩ := id C0
  unfold X2_becomeLike_b0 at h
  refine lv_aload_n hx hb dX2_becomeLike_0 rfl (lv_at hl 0 rfl) ?_
  refine lv_aload_n hx hb dX2_becomeLike_1 rfl (lv_at hl 1 rfl) ?_
  refine gf_X2_9 C0 hH hk1 dX2_becomeLike_2 ?_
  refine pf_X2_9 C0 hH hk0 dX2_becomeLike_5 (fun H locs hH => ?_)
  refine lv_aload_n hx hb dX2_becomeLike_8 rfl (lv_at hl 0 rfl) ?_
  refine lv_aload_n hx hb dX2_becomeLike_9 rfl (lv_at hl 1 rfl) ?_
  obtain ⟨σ1, eσ1, h⟩ := letv_s h
  replace hH := hs_of eσ1 hH
  refine gf_X2_15 C0 hH hk1 dX2_becomeLike_10 ?_
  refine pf_X2_15 C0 hH hk0 dX2_becomeLike_13 (fun H locs hH => ?_)
  refine lv_aload_n hx hb dX2_becomeLike_16 rfl (lv_at hl 0 rfl) ?_
  refine lv_aload_n hx hb dX2_becomeLike_17 rfl (lv_at hl 1 rfl) ?_
  obtain ⟨σ2, eσ2, h⟩ := letv_s h
  replace hH := hs_of eσ2 hH
  refine gf_X2_18 C0 hH hk1 dX2_becomeLike_18 ?_
  refine pf_X2_18 C0 hH hk0 dX2_becomeLike_21 (fun H locs hH => ?_)
  refine lv_aload_n hx hb dX2_becomeLike_24 rfl (lv_at hl 1 rfl) ?_
  refine gf_X2_21 C0 hH hk1 dX2_becomeLike_25 ?_
  refine lv_iconst (v := 0) hx hb dX2_becomeLike_28 (by decide) ?_
  refine lv_aload_n hx hb dX2_becomeLike_29 rfl (lv_at hl 0 rfl) ?_
  refine gf_X2_21 C0 hH hk0 dX2_becomeLike_30 ?_
  refine lv_iconst (v := 0) hx hb dX2_becomeLike_33 (by decide) ?_
  refine lv_bipush (v := 10) hx hb dX2_becomeLike_34 (by decide) ?_
  obtain ⟨σ3, eσ3, h⟩ := letv_s h
  replace hH := hs_of eσ3 hH
  obtain ⟨b4, h⟩ := gdc_s h
  refine r_acopy C0 hH (n0 := 10) (n1 := 10) (h := 0) qM_X2_30 hl.1 rfl rfl (kf_2_3 hk1) (kf_2_3 hk0) b4.1 b4.2.1 b4.2.2.1 b4.2.2.2.1 b4.2.2.2.2 dX2_becomeLike_36 (fun H locs hH => ?_)
  refine lv_iconst (v := 0) hx hb dX2_becomeLike_39 (by decide) ?_
  refine lv_istore_n (lv' := [(2, .int 0), (0, .ref (ea E k0)), (1, .ref (ea E k1))]) hx hb dX2_becomeLike_40 rfl hl (by decide) rfl (fun ls hl => ?_)
  exact w_X2_becomeLike_l41 C0  FU k0 k1 0 hk0 hk1 _ _ _ _ hH (lv_sub hl [1, 2, 0] rfl) h
theorem c_X2_becomeLike {l : Launch} {E : EnvT} (hAd : Ad E) (k0 : Nat) (k1 : Nat) (hk0 : kd k0 = 2) (hk1 : kd k1 = 2) (σ : Mem) {σ' : Mem} (h : X2_becomeLike k0 k1 σ = some σ') : Met l yX2_becomeLike (wsM yX2_becomeLike cX2_becomeLike 3 (none)) (rmD 1) (PcM E [.ref (ea E k0), .ref (ea E k1)] σ) (QvM E σ') 0 0 (eA E) :=
  Met.ofM (by decide) (Nat.le_of_ble_eq_true rfl) (fun p e s m below meth c ls C0 hH hl => w_X2_becomeLike_b0 C0 k0 k1 hk0 hk1 hH hl h) hAd
set_option maxRecDepth 100000 in
set_option maxHeartbeats 4000000 in
theorem w_X0_keep_b0 {σ' : Mem} (C0 : Cx E p m c cX0_keep 2 s args RX0 meth (none))  (k0 : Nat) (k1 : Nat) (hk0 : kd k0 = 0) (hk1 : kd k1 = 2) {σ : Mem} {H : Heap} {locs : List Loc} {ls : Array Slot} (hH : Hs E s σ H locs) (hl : lv_has ls 2 [(0, .ref (ea E k0)), (1, .ref (ea E k1))]) (h : X0_keep_b0 k0 k1 σ = some σ') : W p l e (rmD 2) s m args below meth c H locs 0 0 (MQ below (QvM E σ') args s 0 0 (eA E)) (F0 m 0 ls []) := by
  obtain ⟨⟨hx, hb, hml, hown, hts⟩, hr, hlocks, hF, hAd⟩ := id C0
  unfold X0_keep_b0 at h
  refine lv_aload_n hx hb dX0_keep_0 rfl (lv_at hl 0 rfl) ?_
  refine gf_X0_11 C0 hH hk0 dX0_keep_1 ?_
  refine lv_aload_n hx hb dX0_keep_4 rfl (lv_at hl 0 rfl) ?_
  refine gf_X0_17 C0 hH hk0 dX0_keep_5 ?_
  refine lv_aload_n hx hb dX0_keep_8 rfl (lv_at hl 0 rfl) ?_
  refine gf_X0_21 C0 hH hk0 dX0_keep_9 ?_
  refine lv_iadd hx hb dX0_keep_12 ?_
  refine lv_bipush (v := 24) hx hb dX0_keep_13 (by decide) ?_
  refine lv_irem hx hb dX0_keep_15 (by decide) ?_
  obtain ⟨b1, h⟩ := gdx_s h
  refine ra_16 C0 hH (kf_0_0 hk0) b1 dX0_keep_16 ?_
  refine lv_aload_n hx hb dX0_keep_17 rfl (lv_at hl 1 rfl) ?_
  obtain ⟨σ2, qσ2, h⟩ := ob_s h
  refine go_v hH (va_run_V (As := [.ref (ea E k1)]) (rest := []) C0 hH lk_X0_25 (c_X2_becomeLike hAd ((k0 + 1) + 1 + 6 * nc (irm ((σ k0 1) + (σ k0 2)) 24)) k1 (ka_16 (kf_0_0 hk0) b1) hk1 σ qσ2) (by decide) (ci := 2) (ka_16 (kf_0_0 hk0) b1) (by decide) (cob_2 _ _ _) rfl rfl hl.1 rfl (Nat.le_of_ble_eq_true rfl) dX0_keep_18) (fun H locs hH => ?_)
  refine lv_aload_n hx hb dX0_keep_21 rfl (lv_at hl 0 rfl) ?_
  refine gf_X0_21 C0 hH hk0 dX0_keep_22 ?_
  refine lv_bipush (v := 24) hx hb dX0_keep_25 (by decide) ?_
  refine lv_icmp_ge (tgt := 43) hx hb dX0_keep_27 (by decide) (fun c3 => ?_) (fun c3 => ?_)
  · replace h := if_t h c3
    refine lv_aload_n hx hb dX0_keep_43 rfl (lv_at hl 0 rfl) ?_
    refine lv_aload_n hx hb dX0_keep_44 rfl (lv_at hl 0 rfl) ?_
    refine gf_X0_17 C0 hH hk0 dX0_keep_45 ?_
    refine lv_iconst (v := 1) hx hb dX0_keep_48 (by decide) ?_
    refine lv_iadd hx hb dX0_keep_49 ?_
    refine lv_bipush (v := 24) hx hb dX0_keep_50 (by decide) ?_
    refine lv_irem hx hb dX0_keep_52 (by decide) ?_
    refine pf_X0_17 C0 hH hk0 dX0_keep_53 (fun H locs hH => ?_)
    exact r_vret C0 hH (Option.some.inj h) dX0_keep_56
  · replace h := if_f h c3
    refine lv_aload_n hx hb dX0_keep_30 rfl (lv_at hl 0 rfl) ?_
    refine lv_dup hx hb dX0_keep_31 rfl ?_
    refine gf_X0_21 C0 hH hk0 dX0_keep_32 ?_
    refine lv_iconst (v := 1) hx hb dX0_keep_35 (by decide) ?_
    refine lv_iadd hx hb dX0_keep_36 ?_
    refine pf_X0_21 C0 hH hk0 dX0_keep_37 (fun H locs hH => ?_)
    refine lv_goto (tgt := 56) hx hb dX0_keep_40 (by decide) ?_
    exact r_vret C0 hH (Option.some.inj h) dX0_keep_56
theorem c_X0_keep {l : Launch} {E : EnvT} (hAd : Ad E) (k0 : Nat) (k1 : Nat) (hk0 : kd k0 = 0) (hk1 : kd k1 = 2) (σ : Mem) {σ' : Mem} (h : X0_keep k0 k1 σ = some σ') : Met l yX0_keep (wsM yX0_keep cX0_keep 2 (none)) (rmD 2) (PcM E [.ref (ea E k0), .ref (ea E k1)] σ) (QvM E σ') 0 0 (eA E) :=
  Met.ofM (by decide) (Nat.le_of_ble_eq_true rfl) (fun p e s m below meth c ls C0 hH hl => w_X0_keep_b0 C0 k0 k1 hk0 hk1 hH hl h) hAd
set_option maxRecDepth 100000 in
set_option maxHeartbeats 4000000 in
theorem w_X0_goBack_b0 {σ' : Mem} (C0 : Cx E p m c cX0_goBack 2 s args RX0 meth (none))  (k0 : Nat) (k1 : Nat) (hk0 : kd k0 = 0) (hk1 : kd k1 = 2) {σ : Mem} {H : Heap} {locs : List Loc} {ls : Array Slot} (hH : Hs E s σ H locs) (hl : lv_has ls 2 [(0, .ref (ea E k0)), (1, .ref (ea E k1))]) (h : X0_goBack_b0 k0 k1 σ = some σ') : W p l e (rmD 2) s m args below meth c H locs 0 0 (MQ below (QvM E σ') args s 0 0 (eA E)) (F0 m 0 ls []) := by
  obtain ⟨⟨hx, hb, hml, hown, hts⟩, hr, hlocks, hF, hAd⟩ := id C0
  unfold X0_goBack_b0 at h
  refine lv_aload_n hx hb dX0_goBack_0 rfl (lv_at hl 0 rfl) ?_
  refine gf_X0_21 C0 hH hk0 dX0_goBack_1 ?_
  refine lv_if_le (tgt := 38) hx hb dX0_goBack_4 (by decide) (fun c1 => ?_) (fun c1 => ?_)
  · replace h := if_t h c1
    exact r_vret C0 hH (Option.some.inj h) dX0_goBack_38
  · replace h := if_f h c1
    refine lv_aload_n hx hb dX0_goBack_7 rfl (lv_at hl 0 rfl) ?_
    refine lv_dup hx hb dX0_goBack_8 rfl ?_
    refine gf_X0_21 C0 hH hk0 dX0_goBack_9 ?_
    refine lv_iconst (v := 1) hx hb dX0_goBack_12 (by decide) ?_
    refine lv_isub hx hb dX0_goBack_13 ?_
    refine pf_X0_21 C0 hH hk0 dX0_goBack_14 (fun H locs hH => ?_)
    refine lv_aload_n hx hb dX0_goBack_17 rfl (lv_at hl 1 rfl) ?_
    refine lv_aload_n hx hb dX0_goBack_18 rfl (lv_at hl 0 rfl) ?_
    refine gf_X0_11 C0 hH hk0 dX0_goBack_19 ?_
    refine lv_aload_n hx hb dX0_goBack_22 rfl (lv_at hl 0 rfl) ?_
    obtain ⟨σ2, eσ2, h⟩ := letv_s h
    replace hH := hs_of eσ2 hH
    refine gf_X0_17 C0 hH hk0 dX0_goBack_23 ?_
    refine lv_aload_n hx hb dX0_goBack_26 rfl (lv_at hl 0 rfl) ?_
    refine gf_X0_21 C0 hH hk0 dX0_goBack_27 ?_
    refine lv_iadd hx hb dX0_goBack_30 ?_
    refine lv_bipush (v := 24) hx hb dX0_goBack_31 (by decide) ?_
    refine lv_irem hx hb dX0_goBack_33 (by decide) ?_
    obtain ⟨b3, h⟩ := gdx_s h
    refine ra_16 C0 hH (kf_0_0 hk0) b3 dX0_goBack_34 ?_
    obtain ⟨σ4, qσ4, h⟩ := ob_s h
    refine go_v hH (va_run_V (As := [.ref (ea E ((k0 + 1) + 1 + 6 * nc (irm ((σ2 k0 1) + (σ2 k0 2)) 24)))]) (rest := []) C0 hH lk_X0_25 (c_X2_becomeLike hAd k1 ((k0 + 1) + 1 + 6 * nc (irm ((σ2 k0 1) + (σ2 k0 2)) 24)) hk1 (ka_16 (kf_0_0 hk0) b3) σ2 qσ4) (by decide) (ci := 2) hk1 (by decide) (cob_2 _ _ _) rfl rfl hl.1 rfl (Nat.le_of_ble_eq_true rfl) dX0_goBack_35) (fun H locs hH => ?_)
    exact r_vret C0 hH (Option.some.inj h) dX0_goBack_38
theorem c_X0_goBack {l : Launch} {E : EnvT} (hAd : Ad E) (k0 : Nat) (k1 : Nat) (hk0 : kd k0 = 0) (hk1 : kd k1 = 2) (σ : Mem) {σ' : Mem} (h : X0_goBack k0 k1 σ = some σ') : Met l yX0_goBack (wsM yX0_goBack cX0_goBack 2 (none)) (rmD 2) (PcM E [.ref (ea E k0), .ref (ea E k1)] σ) (QvM E σ') 0 0 (eA E) :=
  Met.ofM (by decide) (Nat.le_of_ble_eq_true rfl) (fun p e s m below meth c ls C0 hH hl => w_X0_goBack_b0 C0 k0 k1 hk0 hk1 hH hl h) hAd
set_option maxRecDepth 100000 in
set_option maxHeartbeats 4000000 in
theorem w_X1_begin_b0 {σ' : Mem} (C0 : Cx E p m c cX1_begin 4 s args RX1 meth (none))  (k0 : Nat) (k1 : Nat) (v2 : Int32) (v3 : Int32) (hk0 : kd k0 = 1) (hk1 : kd k1 = 2) {σ : Mem} {H : Heap} {locs : List Loc} {ls : Array Slot} (hH : Hs E s σ H locs) (hl : lv_has ls 4 [(0, .ref (ea E k0)), (1, .ref (ea E k1)), (2, .int v2), (3, .int v3)]) (h : X1_begin_b0 k0 k1 v2 v3 σ = some σ') : W p l e (rmD 0) s m args below meth c H locs 0 0 (MQ below (QvM E σ') args s 0 0 (eA E)) (F0 m 0 ls []) := by
  obtain ⟨⟨hx, hb, hml, hown, hts⟩, hr, hlocks, hF, hAd⟩ := id C0
  unfold X1_begin_b0 at h
  refine lv_aload_n hx hb dX1_begin_0 rfl (lv_at hl 0 rfl) ?_
  refine lv_iconst (v := 0) hx hb dX1_begin_1 (by decide) ?_
  refine pf_X1_15 C0 hH hk0 dX1_begin_2 (fun H locs hH => ?_)
  refine lv_aload_n hx hb dX1_begin_5 rfl (lv_at hl 0 rfl) ?_
  refine lv_iload_n hx hb dX1_begin_6 rfl (lv_at hl 2 rfl) ?_
  obtain ⟨σ1, eσ1, h⟩ := letv_s h
  replace hH := hs_of eσ1 hH
  refine pf_X1_19 C0 hH hk0 dX1_begin_7 (fun H locs hH => ?_)
  refine lv_aload_n hx hb dX1_begin_10 rfl (lv_at hl 0 rfl) ?_
  refine lv_iload_n hx hb dX1_begin_11 rfl (lv_at hl 3 rfl) ?_
  obtain ⟨σ2, eσ2, h⟩ := letv_s h
  replace hH := hs_of eσ2 hH
  refine pf_X1_22 C0 hH hk0 dX1_begin_12 (fun H locs hH => ?_)
  refine lv_aload_n hx hb dX1_begin_15 rfl (lv_at hl 0 rfl) ?_
  refine lv_aload_n hx hb dX1_begin_16 rfl (lv_at hl 1 rfl) ?_
  refine gf_X1_31 C0 hH hk1 dX1_begin_17 ?_
  refine lv_iload_n hx hb dX1_begin_20 rfl (lv_at hl 2 rfl) ?_
  obtain ⟨σ3, eσ3, h⟩ := letv_s h
  replace hH := hs_of eσ3 hH
  obtain ⟨b4, h⟩ := gdx_s h
  refine r_iald C0 hH (n := 10) (kf_2_3 hk1) b4 dX1_begin_21 ?_
  refine pf_X1_25 C0 hH hk0 dX1_begin_22 (fun H locs hH => ?_)
  refine lv_aload_n hx hb dX1_begin_25 rfl (lv_at hl 0 rfl) ?_
  refine lv_aload_n hx hb dX1_begin_26 rfl (lv_at hl 1 rfl) ?_
  refine gf_X1_36 C0 hH hk1 dX1_begin_27 ?_
  refine lv_iconst (v := 0) hx hb dX1_begin_30 (by decide) ?_
  refine ra_13 C0 hH (kf_2_4 hk1) (vin (by decide)) dX1_begin_31 ?_
  refine lv_iload_n hx hb dX1_begin_32 rfl (lv_at hl 2 rfl) ?_
  obtain ⟨σ5, eσ5, h⟩ := letv_s h
  replace hH := hs_of eσ5 hH
  obtain ⟨b6, h⟩ := gdx_s h
  refine r_iald C0 hH (n := 10) (ka_13 (kf_2_4 hk1) (vin (by decide))) b6 dX1_begin_33 ?_
  refine pf_X1_28 C0 hH hk0 dX1_begin_34 (fun H locs hH => ?_)
  exact r_vret C0 hH (Option.some.inj h) dX1_begin_37
theorem c_X1_begin {l : Launch} {E : EnvT} (hAd : Ad E) (k0 : Nat) (k1 : Nat) (v2 : Int32) (v3 : Int32) (hk0 : kd k0 = 1) (hk1 : kd k1 = 2) (σ : Mem) {σ' : Mem} (h : X1_begin k0 k1 v2 v3 σ = some σ') : Met l yX1_begin (wsM yX1_begin cX1_begin 4 (none)) (rmD 0) (PcM E [.ref (ea E k0), .ref (ea E k1), .int v2, .int v3] σ) (QvM E σ') 0 0 (eA E) :=
  Met.ofM (by decide) (Nat.le_of_ble_eq_true rfl) (fun p e s m below meth c ls C0 hH hl => w_X1_begin_b0 C0 k0 k1 v2 v3 hk0 hk1 hH hl h) hAd
set_option maxRecDepth 100000 in
set_option maxHeartbeats 4000000 in
theorem w_X1_leave_b0 {σ' : Mem} (C0 : Cx E p m c cX1_leave 2 s args RX1 meth (none))  (k0 : Nat) (v1 : Int32) (hk0 : kd k0 = 1) {σ : Mem} {H : Heap} {locs : List Loc} {ls : Array Slot} (hH : Hs E s σ H locs) (hl : lv_has ls 2 [(0, .ref (ea E k0)), (1, .int v1)]) (h : X1_leave_b0 k0 v1 σ = some σ') : W p l e (rmD 0) s m args below meth c H locs 0 0 (MQ below (QvM E σ') args s 0 0 (eA E)) (F0 m 0 ls []) := by
  obtain ⟨⟨hx, hb, hml, hown, hts⟩, hr, hlocks, hF, hAd⟩ := id C0
  unfold X1_leave_b0 at h
  refine lv_aload_n hx hb dX1_leave_0 rfl (lv_at hl 0 rfl) ?_
  refine gf_X1_15 C0 hH hk0 dX1_leave_1 ?_
  refine lv_bipush (v := 16) hx hb dX1_leave_4 (by decide) ?_
  refine lv_icmp_ge (tgt := 29) hx hb dX1_leave_6 (by decide) (fun c1 => ?_) (fun c1 => ?_)
  · replace h := if_t h c1
    exact r_vret C0 hH (Option.some.inj h) dX1_leave_29
  · replace h := if_f h c1
    refine lv_aload_n hx hb dX1_leave_9 rfl (lv_at hl 0 rfl) ?_
    refine gf_X1_9 C0 hH hk0 dX1_leave_10 ?_
    refine lv_aload_n hx hb dX1_leave_13 rfl (lv_at hl 0 rfl) ?_
    refine gf_X1_15 C0 hH hk0 dX1_leave_14 ?_
    refine lv_iload_n hx hb dX1_leave_17 rfl (lv_at hl 1 rfl) ?_
    obtain ⟨b2, h⟩ := gdx_s h
    refine r_iast C0 hH (n := 16) (kf_1_0 hk0) b2 dX1_leave_18 (fun H locs hH => ?_)
    refine lv_aload_n hx hb dX1_leave_19 rfl (lv_at hl 0 rfl) ?_
    refine lv_dup hx hb dX1_leave_20 rfl ?_
    obtain ⟨σ3, eσ3, h⟩ := letv_s h
    replace hH := hs_of eσ3 hH
    refine gf_X1_15 C0 hH hk0 dX1_leave_21 ?_
    refine lv_iconst (v := 1) hx hb dX1_leave_24 (by decide) ?_
    refine lv_iadd hx hb dX1_leave_25 ?_
    refine pf_X1_15 C0 hH hk0 dX1_leave_26 (fun H locs hH => ?_)
    exact r_vret C0 hH (Option.some.inj h) dX1_leave_29
theorem c_X1_leave {l : Launch} {E : EnvT} (hAd : Ad E) (k0 : Nat) (v1 : Int32) (hk0 : kd k0 = 1) (σ : Mem) {σ' : Mem} (h : X1_leave k0 v1 σ = some σ') : Met l yX1_leave (wsM yX1_leave cX1_leave 2 (none)) (rmD 0) (PcM E [.ref (ea E k0), .int v1] σ) (QvM E σ') 0 0 (eA E) :=
  Met.ofM (by decide) (Nat.le_of_ble_eq_true rfl) (fun p e s m below meth c ls C0 hH hl => w_X1_leave_b0 C0 k0 v1 hk0 hH hl h) hAd
set_option maxRecDepth 100000 in
set_option maxHeartbeats 4000000 in
theorem w_X1_sizeLent_b0 {r : Int32} {σ' : Mem} (C0 : Cx E p m c cX1_sizeLent 1 s args RX1 meth (some .int))  (k0 : Nat) (hk0 : kd k0 = 1) {σ : Mem} {H : Heap} {locs : List Loc} {ls : Array Slot} (hH : Hs E s σ H locs) (hl : lv_has ls 1 [(0, .ref (ea E k0))]) (h : X1_sizeLent_b0 k0 σ = some (r, σ')) : W p l e (rmD 1) s m args below meth c H locs 0 0 (MQ below (QiM E r σ') args s 0 0 (eA E)) (F0 m 0 ls []) := by
  obtain ⟨⟨hx, hb, hml, hown, hts⟩, hr, hlocks, hF, hAd⟩ := id C0
  unfold X1_sizeLent_b0 at h
  refine lv_aload_n hx hb dX1_sizeLent_0 rfl (lv_at hl 0 rfl) ?_
  refine lv_bipush (v := 10) hx hb dX1_sizeLent_1 (by decide) ?_
  obtain ⟨σ1, qσ1, h⟩ := ob_s h
  refine go_v hH (va_run_V (As := [.int 10]) (rest := []) C0 hH lk_X1_40 (c_X1_leave hAd k0 10 hk0 σ qσ1) (by decide) (ci := 1) hk0 (by decide) (cob_1 _ _ _) rfl rfl hl.1 rfl (Nat.le_of_ble_eq_true rfl) dX1_sizeLent_3) (fun H locs hH => ?_)
  refine lv_aload_n hx hb dX1_sizeLent_6 rfl (lv_at hl 0 rfl) ?_
  refine gf_X1_28 C0 hH hk0 dX1_sizeLent_7 ?_
  exact r_iret C0 hH (pj1 h) (pj2 h) dX1_sizeLent_10
theorem c_X1_sizeLent {l : Launch} {E : EnvT} (hAd : Ad E) (k0 : Nat) (hk0 : kd k0 = 1) (σ : Mem) {r : Int32} {σ' : Mem} (h : X1_sizeLent k0 σ = some (r, σ')) : Met l yX1_sizeLent (wsM yX1_sizeLent cX1_sizeLent 1 (some .int)) (rmD 1) (PcM E [.ref (ea E k0)] σ) (QiM E r σ') 0 0 (eA E) :=
  Met.ofM (by decide) (Nat.le_of_ble_eq_true rfl) (fun p e s m below meth c ls C0 hH hl => w_X1_sizeLent_b0 C0 k0 hk0 hH hl h) hAd
set_option maxRecDepth 100000 in
set_option maxHeartbeats 4000000 in
theorem w_X1_sizeOfCopy_b0 {r : Int32} {σ' : Mem} (C0 : Cx E p m c cX1_sizeOfCopy 1 s args RX1 meth (some .int))  (k0 : Nat) (hk0 : kd k0 = 1) {σ : Mem} {H : Heap} {locs : List Loc} {ls : Array Slot} (hH : Hs E s σ H locs) (hl : lv_has ls 1 [(0, .ref (ea E k0))]) (h : X1_sizeOfCopy_b0 k0 σ = some (r, σ')) : W p l e (rmD 2) s m args below meth c H locs 0 0 (MQ below (QiM E r σ') args s 0 0 (eA E)) (F0 m 0 ls []) := by
  obtain ⟨⟨hx, hb, hml, hown, hts⟩, hr, hlocks, hF, hAd⟩ := id C0
  unfold X1_sizeOfCopy_b0 at h
  refine lv_aload_n hx hb dX1_sizeOfCopy_0 rfl (lv_at hl 0 rfl) ?_
  refine lv_bipush (v := 13) hx hb dX1_sizeOfCopy_1 (by decide) ?_
  obtain ⟨σ1, qσ1, h⟩ := ob_s h
  refine go_v hH (va_run_V (As := [.int 13]) (rest := []) C0 hH lk_X1_40 (c_X1_leave hAd k0 13 hk0 σ qσ1) (by decide) (ci := 1) hk0 (by decide) (cob_1 _ _ _) rfl rfl hl.1 rfl (Nat.le_of_ble_eq_true rfl) dX1_sizeOfCopy_3) (fun H locs hH => ?_)
  refine lv_aload_n hx hb dX1_sizeOfCopy_6 rfl (lv_at hl 0 rfl) ?_
  obtain ⟨r2, σ3, qr2, h⟩ := ob2_s h
  refine go_i hH (va_run_V (As := []) (rest := []) C0 hH lk_X1_63 (c_X1_sizeLent hAd k0 hk0 σ1 qr2) (by decide) (ci := 1) hk0 (by decide) (cob_1 _ _ _) rfl rfl hl.1 rfl (Nat.le_of_ble_eq_true rfl) dX1_sizeOfCopy_7) (fun H locs hH => ?_)
  refine lv_bipush (v := 100) hx hb dX1_sizeOfCopy_10 (by decide) ?_
  refine lv_isub hx hb dX1_sizeOfCopy_12 ?_
  exact r_iret C0 hH (pj1 h) (pj2 h) dX1_sizeOfCopy_13
theorem c_X1_sizeOfCopy {l : Launch} {E : EnvT} (hAd : Ad E) (k0 : Nat) (hk0 : kd k0 = 1) (σ : Mem) {r : Int32} {σ' : Mem} (h : X1_sizeOfCopy k0 σ = some (r, σ')) : Met l yX1_sizeOfCopy (wsM yX1_sizeOfCopy cX1_sizeOfCopy 1 (some .int)) (rmD 2) (PcM E [.ref (ea E k0)] σ) (QiM E r σ') 0 0 (eA E) :=
  Met.ofM (by decide) (Nat.le_of_ble_eq_true rfl) (fun p e s m below meth c ls C0 hH hl => w_X1_sizeOfCopy_b0 C0 k0 hk0 hH hl h) hAd
set_option maxRecDepth 100000 in
set_option maxHeartbeats 4000000 in
theorem w_X1_sizeOfAnyCopy_b0 {r : Int32} {σ' : Mem} (C0 : Cx E p m c cX1_sizeOfAnyCopy 1 s args RX1 meth (some .int))  (k0 : Nat) (hk0 : kd k0 = 1) {σ : Mem} {H : Heap} {locs : List Loc} {ls : Array Slot} (hH : Hs E s σ H locs) (hl : lv_has ls 1 [(0, .ref (ea E k0))]) (h : X1_sizeOfAnyCopy_b0 k0 σ = some (r, σ')) : W p l e (rmD 3) s m args below meth c H locs 0 0 (MQ below (QiM E r σ') args s 0 0 (eA E)) (F0 m 0 ls []) := by
  obtain ⟨⟨hx, hb, hml, hown, hts⟩, hr, hlocks, hF, hAd⟩ := id C0
  unfold X1_sizeOfAnyCopy_b0 at h
  refine lv_aload_n hx hb dX1_sizeOfAnyCopy_0 rfl (lv_at hl 0 rfl) ?_
  refine gf_X1_25 C0 hH hk0 dX1_sizeOfAnyCopy_1 ?_
  refine lv_iconst (v := 5) hx hb dX1_sizeOfAnyCopy_4 (by decide) ?_
  refine lv_icmp_eq (tgt := 13) hx hb dX1_sizeOfAnyCopy_5 (by decide) (fun c1 => ?_) (fun c1 => ?_)
  · replace h := if_t h c1
    refine lv_aload_n hx hb dX1_sizeOfAnyCopy_13 rfl (lv_at hl 0 rfl) ?_
    refine lv_bipush (v := 14) hx hb dX1_sizeOfAnyCopy_14 (by decide) ?_
    obtain ⟨σ2, qσ2, h⟩ := ob_s h
    refine go_v hH (va_run_V (As := [.int 14]) (rest := []) C0 hH lk_X1_40 (c_X1_leave hAd k0 14 hk0 σ qσ2) (by decide) (ci := 1) hk0 (by decide) (cob_1 _ _ _) rfl rfl hl.1 rfl (Nat.le_of_ble_eq_true rfl) dX1_sizeOfAnyCopy_16) (fun H locs hH => ?_)
    refine lv_iconst (v := 2) hx hb dX1_sizeOfAnyCopy_19 (by decide) ?_
    refine lv_aload_n hx hb dX1_sizeOfAnyCopy_20 rfl (lv_at hl 0 rfl) ?_
    obtain ⟨r3, σ4, qr3, h⟩ := ob2_s h
    refine go_i hH (va_run_V (As := []) (rest := [.int 2]) C0 hH lk_X1_57 (c_X1_sizeOfCopy hAd k0 hk0 σ2 qr3) (by decide) (ci := 1) hk0 (by decide) (cob_1 _ _ _) rfl rfl hl.1 rfl (Nat.le_of_ble_eq_true rfl) dX1_sizeOfAnyCopy_21) (fun H locs hH => ?_)
    refine lv_imul hx hb dX1_sizeOfAnyCopy_24 ?_
    exact r_iret C0 hH (pj1 h) (pj2 h) dX1_sizeOfAnyCopy_25
  · replace h := if_f h c1
    refine lv_aload_n hx hb dX1_sizeOfAnyCopy_8 rfl (lv_at hl 0 rfl) ?_
    obtain ⟨r5, σ6, qr5, h⟩ := ob2_s h
    refine go_i hH (va_run_V (As := []) (rest := []) C0 hH lk_X1_57 (c_X1_sizeOfCopy hAd k0 hk0 σ qr5) (by decide) (ci := 1) hk0 (by decide) (cob_1 _ _ _) rfl rfl hl.1 rfl (Nat.le_of_ble_eq_true rfl) dX1_sizeOfAnyCopy_9) (fun H locs hH => ?_)
    exact r_iret C0 hH (pj1 h) (pj2 h) dX1_sizeOfAnyCopy_12
theorem c_X1_sizeOfAnyCopy {l : Launch} {E : EnvT} (hAd : Ad E) (k0 : Nat) (hk0 : kd k0 = 1) (σ : Mem) {r : Int32} {σ' : Mem} (h : X1_sizeOfAnyCopy k0 σ = some (r, σ')) : Met l yX1_sizeOfAnyCopy (wsM yX1_sizeOfAnyCopy cX1_sizeOfAnyCopy 1 (some .int)) (rmD 3) (PcM E [.ref (ea E k0)] σ) (QiM E r σ') 0 0 (eA E) :=
  Met.ofM (by decide) (Nat.le_of_ble_eq_true rfl) (fun p e s m below meth c ls C0 hH hl => w_X1_sizeOfAnyCopy_b0 C0 k0 hk0 hH hl h) hAd
set_option maxRecDepth 100000 in
set_option maxHeartbeats 4000000 in
theorem w_X1_markLent_b0 {r : Int32} {σ' : Mem} (C0 : Cx E p m c cX1_markLent 1 s args RX1 meth (some .int))  (k0 : Nat) (hk0 : kd k0 = 1) {σ : Mem} {H : Heap} {locs : List Loc} {ls : Array Slot} (hH : Hs E s σ H locs) (hl : lv_has ls 1 [(0, .ref (ea E k0))]) (h : X1_markLent_b0 k0 σ = some (r, σ')) : W p l e (rmD 1) s m args below meth c H locs 0 0 (MQ below (QiM E r σ') args s 0 0 (eA E)) (F0 m 0 ls []) := by
  obtain ⟨⟨hx, hb, hml, hown, hts⟩, hr, hlocks, hF, hAd⟩ := id C0
  unfold X1_markLent_b0 at h
  refine lv_aload_n hx hb dX1_markLent_0 rfl (lv_at hl 0 rfl) ?_
  refine lv_bipush (v := 20) hx hb dX1_markLent_1 (by decide) ?_
  obtain ⟨σ1, qσ1, h⟩ := ob_s h
  refine go_v hH (va_run_V (As := [.int 20]) (rest := []) C0 hH lk_X1_40 (c_X1_leave hAd k0 20 hk0 σ qσ1) (by decide) (ci := 1) hk0 (by decide) (cob_1 _ _ _) rfl rfl hl.1 rfl (Nat.le_of_ble_eq_true rfl) dX1_markLent_3) (fun H locs hH => ?_)
  refine lv_aload_n hx hb dX1_markLent_6 rfl (lv_at hl 0 rfl) ?_
  refine gf_X1_19 C0 hH hk0 dX1_markLent_7 ?_
  exact r_iret C0 hH (pj1 h) (pj2 h) dX1_markLent_10
theorem c_X1_markLent {l : Launch} {E : EnvT} (hAd : Ad E) (k0 : Nat) (hk0 : kd k0 = 1) (σ : Mem) {r : Int32} {σ' : Mem} (h : X1_markLent k0 σ = some (r, σ')) : Met l yX1_markLent (wsM yX1_markLent cX1_markLent 1 (some .int)) (rmD 1) (PcM E [.ref (ea E k0)] σ) (QiM E r σ') 0 0 (eA E) :=
  Met.ofM (by decide) (Nat.le_of_ble_eq_true rfl) (fun p e s m below meth c ls C0 hH hl => w_X1_markLent_b0 C0 k0 hk0 hH hl h) hAd
set_option maxRecDepth 100000 in
set_option maxHeartbeats 4000000 in
theorem w_X1_markOfPlain_b0 {r : Int32} {σ' : Mem} (C0 : Cx E p m c cX1_markOfPlain 1 s args RX1 meth (some .int))  (k0 : Nat) (hk0 : kd k0 = 1) {σ : Mem} {H : Heap} {locs : List Loc} {ls : Array Slot} (hH : Hs E s σ H locs) (hl : lv_has ls 1 [(0, .ref (ea E k0))]) (h : X1_markOfPlain_b0 k0 σ = some (r, σ')) : W p l e (rmD 2) s m args below meth c H locs 0 0 (MQ below (QiM E r σ') args s 0 0 (eA E)) (F0 m 0 ls []) := by
  obtain ⟨⟨hx, hb, hml, hown, hts⟩, hr, hlocks, hF, hAd⟩ := id C0
  unfold X1_markOfPlain_b0 at h
  refine lv_aload_n hx hb dX1_markOfPlain_0 rfl (lv_at hl 0 rfl) ?_
  refine lv_bipush (v := 21) hx hb dX1_markOfPlain_1 (by decide) ?_
  obtain ⟨σ1, qσ1, h⟩ := ob_s h
  refine go_v hH (va_run_V (As := [.int 21]) (rest := []) C0 hH lk_X1_40 (c_X1_leave hAd k0 21 hk0 σ qσ1) (by decide) (ci := 1) hk0 (by decide) (cob_1 _ _ _) rfl rfl hl.1 rfl (Nat.le_of_ble_eq_true rfl) dX1_markOfPlain_3) (fun H locs hH => ?_)
  refine lv_aload_n hx hb dX1_markOfPlain_6 rfl (lv_at hl 0 rfl) ?_
  obtain ⟨r2, σ3, qr2, h⟩ := ob2_s h
  refine go_i hH (va_run_V (As := []) (rest := []) C0 hH lk_X1_66 (c_X1_markLent hAd k0 hk0 σ1 qr2) (by decide) (ci := 1) hk0 (by decide) (cob_1 _ _ _) rfl rfl hl.1 rfl (Nat.le_of_ble_eq_true rfl) dX1_markOfPlain_7) (fun H locs hH => ?_)
  refine lv_aload_n hx hb dX1_markOfPlain_10 rfl (lv_at hl 0 rfl) ?_
  refine gf_X1_22 C0 hH hk0 dX1_markOfPlain_11 ?_
  refine lv_iadd hx hb dX1_markOfPlain_14 ?_
  exact r_iret C0 hH (pj1 h) (pj2 h) dX1_markOfPlain_15
theorem c_X1_markOfPlain {l : Launch} {E : EnvT} (hAd : Ad E) (k0 : Nat) (hk0 : kd k0 = 1) (σ : Mem) {r : Int32} {σ' : Mem} (h : X1_markOfPlain k0 σ = some (r, σ')) : Met l yX1_markOfPlain (wsM yX1_markOfPlain cX1_markOfPlain 1 (some .int)) (rmD 2) (PcM E [.ref (ea E k0)] σ) (QiM E r σ') 0 0 (eA E) :=
  Met.ofM (by decide) (Nat.le_of_ble_eq_true rfl) (fun p e s m below meth c ls C0 hH hl => w_X1_markOfPlain_b0 C0 k0 hk0 hH hl h) hAd
set_option maxRecDepth 100000 in
set_option maxHeartbeats 4000000 in
theorem w_X1_markOfAnyPlain_b0 {r : Int32} {σ' : Mem} (C0 : Cx E p m c cX1_markOfAnyPlain 1 s args RX1 meth (some .int))  (k0 : Nat) (hk0 : kd k0 = 1) {σ : Mem} {H : Heap} {locs : List Loc} {ls : Array Slot} (hH : Hs E s σ H locs) (hl : lv_has ls 1 [(0, .ref (ea E k0))]) (h : X1_markOfAnyPlain_b0 k0 σ = some (r, σ')) : W p l e (rmD 3) s m args below meth c H locs 0 0 (MQ below (QiM E r σ') args s 0 0 (eA E)) (F0 m 0 ls []) := by
  obtain ⟨⟨hx, hb, hml, hown, hts⟩, hr, hlocks, hF, hAd⟩ := id C0
  unfold X1_markOfAnyPlain_b0 at h
  refine lv_aload_n hx hb dX1_markOfAnyPlain_0 rfl (lv_at hl 0 rfl) ?_
  refine gf_X1_25 C0 hH hk0 dX1_markOfAnyPlain_1 ?_
  by_cases c1 : (σ k0 4) = 2
  · replace h := if_t h c1
    refine lv_lookup (off := 28) (tgt := 32) hx hb dX1_markOfAnyPlain_4 (by decide) (by rw [c1]; rfl) (by decide) ?_
    refine lv_aload_n hx hb dX1_markOfAnyPlain_32 rfl (lv_at hl 0 rfl) ?_
    refine lv_bipush (v := 24) hx hb dX1_markOfAnyPlain_33 (by decide) ?_
    obtain ⟨σ2, qσ2, h⟩ := ob_s h
    refine go_v hH (va_run_V (As := [.int 24]) (rest := []) C0 hH lk_X1_40 (c_X1_leave hAd k0 24 hk0 σ qσ2) (by decide) (ci := 1) hk0 (by decide) (cob_1 _ _ _) rfl rfl hl.1 rfl (Nat.le_of_ble_eq_true rfl) dX1_markOfAnyPlain_35) (fun H locs hH => ?_)
    refine lv_iconst (v := 2) hx hb dX1_markOfAnyPlain_38 (by decide) ?_
    refine lv_aload_n hx hb dX1_markOfAnyPlain_39 rfl (lv_at hl 0 rfl) ?_
    obtain ⟨r3, σ4, qr3, h⟩ := ob2_s h
    refine go_i hH (va_run_V (As := []) (rest := [.int 2]) C0 hH lk_X1_60 (c_X1_markOfPlain hAd k0 hk0 σ2 qr3) (by decide) (ci := 1) hk0 (by decide) (cob_1 _ _ _) rfl rfl hl.1 rfl (Nat.le_of_ble_eq_true rfl) dX1_markOfAnyPlain_40) (fun H locs hH => ?_)
    refine lv_imul hx hb dX1_markOfAnyPlain_43 ?_
    exact r_iret C0 hH (pj1 h) (pj2 h) dX1_markOfAnyPlain_44
  · replace h := if_f h c1
    by_cases c5 : (σ k0 4) = 3
    · replace h := if_t h c5
      refine lv_lookup (off := 41) (tgt := 45) hx hb dX1_markOfAnyPlain_4 (by decide) (by rw [c5]; rfl) (by decide) ?_
      refine lv_aload_n hx hb dX1_markOfAnyPlain_45 rfl (lv_at hl 0 rfl) ?_
      refine lv_bipush (v := 22) hx hb dX1_markOfAnyPlain_46 (by decide) ?_
      obtain ⟨σ6, qσ6, h⟩ := ob_s h
      refine go_v hH (va_run_V (As := [.int 22]) (rest := []) C0 hH lk_X1_40 (c_X1_leave hAd k0 22 hk0 σ qσ6) (by decide) (ci := 1) hk0 (by decide) (cob_1 _ _ _) rfl rfl hl.1 rfl (Nat.le_of_ble_eq_true rfl) dX1_markOfAnyPlain_48) (fun H locs hH => ?_)
      refine lv_aload_n hx hb dX1_markOfAnyPlain_51 rfl (lv_at hl 0 rfl) ?_
      obtain ⟨r7, σ8, qr7, h⟩ := ob2_s h
      refine go_i hH (va_run_V (As := []) (rest := []) C0 hH lk_X1_60 (c_X1_markOfPlain hAd k0 hk0 σ6 qr7) (by decide) (ci := 1) hk0 (by decide) (cob_1 _ _ _) rfl rfl hl.1 rfl (Nat.le_of_ble_eq_true rfl) dX1_markOfAnyPlain_52) (fun H locs hH => ?_)
      refine lv_sipush (v := 1000) hx hb dX1_markOfAnyPlain_55 (by decide) ?_
      refine lv_isub hx hb dX1_markOfAnyPlain_58 ?_
      exact r_iret C0 hH (pj1 h) (pj2 h) dX1_markOfAnyPlain_59
    · replace h := if_f h c5
      refine lv_lookup (off := 56) (tgt := 60) hx hb dX1_markOfAnyPlain_4 (by decide) (by have := i32_nv (v := 2) c1 (by decide); have := i32_nv (v := 3) c5 (by decide); simp [Op.lookupswitch.offset]; repeat rw [if_neg (by omega)]) (by decide) ?_
      refine lv_aload_n hx hb dX1_markOfAnyPlain_60 rfl (lv_at hl 0 rfl) ?_
      obtain ⟨r9, σ10, qr9, h⟩ := ob2_s h
      refine go_i hH (va_run_V (As := []) (rest := []) C0 hH lk_X1_60 (c_X1_markOfPlain hAd k0 hk0 σ qr9) (by decide) (ci := 1) hk0 (by decide) (cob_1 _ _ _) rfl rfl hl.1 rfl (Nat.le_of_ble_eq_true rfl) dX1_markOfAnyPlain_61) (fun H locs hH => ?_)
      exact r_iret C0 hH (pj1 h) (pj2 h) dX1_markOfAnyPlain_64
theorem c_X1_markOfAnyPlain {l : Launch} {E : EnvT} (hAd : Ad E) (k0 : Nat) (hk0 : kd k0 = 1) (σ : Mem) {r : Int32} {σ' : Mem} (h : X1_markOfAnyPlain k0 σ = some (r, σ')) : Met l yX1_markOfAnyPlain (wsM yX1_markOfAnyPlain cX1_markOfAnyPlain 1 (some .int)) (rmD 3) (PcM E [.ref (ea E k0)] σ) (QiM E r σ') 0 0 (eA E) :=
  Met.ofM (by decide) (Nat.le_of_ble_eq_true rfl) (fun p e s m below meth c ls C0 hH hl => w_X1_markOfAnyPlain_b0 C0 k0 hk0 hH hl h) hAd
set_option maxRecDepth 100000 in
set_option maxHeartbeats 4000000 in
theorem w_X1_sizeOfPlain_b0 {r : Int32} {σ' : Mem} (C0 : Cx E p m c cX1_sizeOfPlain 2 s args RX1 meth (some .int))  (k0 : Nat) (hk0 : kd k0 = 1) {σ : Mem} {H : Heap} {locs : List Loc} {ls : Array Slot} (hH : Hs E s σ H locs) (hl : lv_has ls 2 [(0, .ref (ea E k0))]) (h : X1_sizeOfPlain_b0 k0 σ = some (r, σ')) : W p l e (rmD 4) s m args below meth c H locs 0 0 (MQ below (QiM E r σ') args s 0 0 (eA E)) (F0 m 0 ls []) := by
  obtain ⟨⟨hx, hb, hml, hown, hts⟩, hr, hlocks, hF, hAd⟩ := id C0
  unfold X1_sizeOfPlain_b0 at h
  refine lv_aload_n hx hb dX1_sizeOfPlain_0 rfl (lv_at hl 0 rfl) ?_
  refine lv_bipush (v := 11) hx hb dX1_sizeOfPlain_1 (by decide) ?_
  obtain ⟨σ1, qσ1, h⟩ := ob_s h
  refine go_v hH (va_run_V (As := [.int 11]) (rest := []) C0 hH lk_X1_40 (c_X1_leave hAd k0 11 hk0 σ qσ1) (by decide) (ci := 1) hk0 (by decide) (cob_1 _ _ _) rfl rfl hl.1 rfl (Nat.le_of_ble_eq_true rfl) dX1_sizeOfPlain_3) (fun H locs hH => ?_)
  refine lv_aload_n hx hb dX1_sizeOfPlain_6 rfl (lv_at hl 0 rfl) ?_
  obtain ⟨r2, σ3, qr2, h⟩ := ob2_s h
  refine go_i hH (va_run_V (As := []) (rest := []) C0 hH lk_X1_63 (c_X1_sizeLent hAd k0 hk0 σ1 qr2) (by decide) (ci := 1) hk0 (by decide) (cob_1 _ _ _) rfl rfl hl.1 rfl (Nat.le_of_ble_eq_true rfl) dX1_sizeOfPlain_7) (fun H locs hH => ?_)
  refine lv_istore_n (lv' := [(1, .int r2), (0, .ref (ea E k0))]) hx hb dX1_sizeOfPlain_10 rfl hl (by decide) rfl (fun ls hl => ?_)
  refine lv_iload_n hx hb dX1_sizeOfPlain_11 rfl (lv_at hl 0 rfl) ?_
  refine lv_aload_n hx hb dX1_sizeOfPlain_12 rfl (lv_at hl 1 rfl) ?_
  obtain ⟨r4, σ5, qr4, h⟩ := ob2_s h
  refine go_i hH (va_run_V (As := []) (rest := [.int r2]) C0 hH lk_X1_54 (c_X1_markOfAnyPlain hAd k0 hk0 σ3 qr4) (by decide) (ci := 1) hk0 (by decide) (cob_1 _ _ _) rfl rfl hl.1 rfl (Nat.le_of_ble_eq_true rfl) dX1_sizeOfPlain_13) (fun H locs hH => ?_)
  refine lv_iadd hx hb dX1_sizeOfPlain_16 ?_
  exact r_iret C0 hH (pj1 h) (pj2 h) dX1_sizeOfPlain_17
theorem c_X1_sizeOfPlain {l : Launch} {E : EnvT} (hAd : Ad E) (k0 : Nat) (hk0 : kd k0 = 1) (σ : Mem) {r : Int32} {σ' : Mem} (h : X1_sizeOfPlain k0 σ = some (r, σ')) : Met l yX1_sizeOfPlain (wsM yX1_sizeOfPlain cX1_sizeOfPlain 2 (some .int)) (rmD 4) (PcM E [.ref (ea E k0)] σ) (QiM E r σ') 0 0 (eA E) :=
  Met.ofM (by decide) (Nat.le_of_ble_eq_true rfl) (fun p e s m below meth c ls C0 hH hl => w_X1_sizeOfPlain_b0 C0 k0 hk0 hH hl h) hAd
set_option maxRecDepth 100000 in
set_option maxHeartbeats 4000000 in
theorem w_X1_size_b53 {r : Int32} {σ' : Mem} (C0 : Cx E p m c cX1_size 1 s args RX1 meth (some .int))  (k0 : Nat) (hk0 : kd k0 = 1) {σ : Mem} {H : Heap} {locs : List Loc} {ls : Array Slot} (hH : Hs E s σ H locs) (hl : lv_has ls 1 [(0, .ref (ea E k0))]) (h : X1_size_b53 k0 σ = some (r, σ')) : W p l e (rmD 5) s m args below meth c H locs 0 0 (MQ below (QiM E r σ') args s 0 0 (eA E)) (F0 m 53 ls []) := by
  obtain ⟨⟨hx, hb, hml, hown, hts⟩, hr, hlocks, hF, hAd⟩ := id C0
  unfold X1_size_b53 at h
  refine lv_aload_n hx hb dX1_size_53 rfl (lv_at hl 0 rfl) ?_
  obtain ⟨r1, σ2, qr1, h⟩ := ob2_s h
  refine go_i hH (va_run_V (As := []) (rest := []) C0 hH lk_X1_44 (c_X1_sizeOfPlain hAd k0 hk0 σ qr1) (by decide) (ci := 1) hk0 (by decide) (cob_1 _ _ _) rfl rfl hl.1 rfl (Nat.le_of_ble_eq_true rfl) dX1_size_54) (fun H locs hH => ?_)
  exact r_iret C0 hH (pj1 h) (pj2 h) dX1_size_57
set_option maxRecDepth 100000 in
set_option maxHeartbeats 4000000 in
theorem w_X1_size_b48 {r : Int32} {σ' : Mem} (C0 : Cx E p m c cX1_size 1 s args RX1 meth (some .int))  (k0 : Nat) (hk0 : kd k0 = 1) {σ : Mem} {H : Heap} {locs : List Loc} {ls : Array Slot} (hH : Hs E s σ H locs) (hl : lv_has ls 1 [(0, .ref (ea E k0))]) (h : X1_size_b48 k0 σ = some (r, σ')) : W p l e (rmD 5) s m args below meth c H locs 0 0 (MQ below (QiM E r σ') args s 0 0 (eA E)) (F0 m 48 ls []) := by
  obtain ⟨⟨hx, hb, hml, hown, hts⟩, hr, hlocks, hF, hAd⟩ := id C0
  unfold X1_size_b48 at h
  refine lv_aload_n hx hb dX1_size_48 rfl (lv_at hl 0 rfl) ?_
  obtain ⟨r1, σ2, qr1, h⟩ := ob2_s h
  refine go_i hH (va_run_V (As := []) (rest := []) C0 hH lk_X1_48 (c_X1_sizeOfAnyCopy hAd k0 hk0 σ qr1) (by decide) (ci := 1) hk0 (by decide) (cob_1 _ _ _) rfl rfl hl.1 rfl (Nat.le_of_ble_eq_true rfl) dX1_size_49) (fun H locs hH => ?_)
  exact r_iret C0 hH (pj1 h) (pj2 h) dX1_size_52
set_option maxRecDepth 100000 in
set_option maxHeartbeats 4000000 in
theorem w_X1_size_b0 {r : Int32} {σ' : Mem} (C0 : Cx E p m c cX1_size 1 s args RX1 meth (some .int))  (k0 : Nat) (hk0 : kd k0 = 1) {σ : Mem} {H : Heap} {locs : List Loc} {ls : Array Slot} (hH : Hs E s σ H locs) (hl : lv_has ls 1 [(0, .ref (ea E k0))]) (h : X1_size_b0 k0 σ = some (r, σ')) : W p l e (rmD 5) s m args below meth c H locs 0 0 (MQ below (QiM E r σ') args s 0 0 (eA E)) (F0 m 0 ls []) := by
  obtain ⟨⟨hx, hb, hml, hown, hts⟩, hr, hlocks, hF, hAd⟩ := id C0
  unfold X1_size_b0 at h
  refine lv_aload_n hx hb dX1_size_0 rfl (lv_at hl 0 rfl) ?_
  refine gf_X1_25 C0 hH hk0 dX1_size_1 ?_
  by_cases c1 : (σ k0 4) = 2
  · replace h := if_t h c1
    refine lv_tableIn (off := 32) (tgt := 36) hx hb dX1_size_4 (by rw [c1]; decide) (by rw [c1]; decide) (by rw [c1]; rfl) (by decide) ?_
    refine lv_aload_n hx hb dX1_size_36 rfl (lv_at hl 0 rfl) ?_
    refine lv_bipush (v := 12) hx hb dX1_size_37 (by decide) ?_
    obtain ⟨σ2, qσ2, h⟩ := ob_s h
    refine go_v hH (va_run_V (As := [.int 12]) (rest := []) C0 hH lk_X1_40 (c_X1_leave hAd k0 12 hk0 σ qσ2) (by decide) (ci := 1) hk0 (by decide) (cob_1 _ _ _) rfl rfl hl.1 rfl (Nat.le_of_ble_eq_true rfl) dX1_size_39) (fun H locs hH => ?_)
    refine lv_aload_n hx hb dX1_size_42 rfl (lv_at hl 0 rfl) ?_
    obtain ⟨r3, σ4, qr3, h⟩ := ob2_s h
    refine go_i hH (va_run_V (As := []) (rest := []) C0 hH lk_X1_44 (c_X1_sizeOfPlain hAd k0 hk0 σ2 qr3) (by decide) (ci := 1) hk0 (by decide) (cob_1 _ _ _) rfl rfl hl.1 rfl (Nat.le_of_ble_eq_true rfl) dX1_size_43) (fun H locs hH => ?_)
    refine lv_ineg hx hb dX1_size_46 ?_
    exact r_iret C0 hH (pj1 h) (pj2 h) dX1_size_47
  · replace h := if_f h c1
    by_cases c5 : (σ k0 4) = 3
    · replace h := if_t h c5
      refine lv_tableIn (off := 49) (tgt := 53) hx hb dX1_size_4 (by rw [c5]; decide) (by rw [c5]; decide) (by rw [c5]; rfl) (by decide) ?_
      exact w_X1_size_b53 C0  k0 hk0 hH (lv_sub hl [0] rfl) h
    · replace h := if_f h c5
      by_cases c6 : (σ k0 4) = 4
      · replace h := if_t h c6
        refine lv_tableIn (off := 44) (tgt := 48) hx hb dX1_size_4 (by rw [c6]; decide) (by rw [c6]; decide) (by rw [c6]; rfl) (by decide) ?_
        exact w_X1_size_b48 C0  k0 hk0 hH (lv_sub hl [0] rfl) h
      · replace h := if_f h c6
        by_cases c7 : (σ k0 4) = 5
        · replace h := if_t h c7
          refine lv_tableIn (off := 44) (tgt := 48) hx hb dX1_size_4 (by rw [c7]; decide) (by rw [c7]; decide) (by rw [c7]; rfl) (by decide) ?_
          exact w_X1_size_b48 C0  k0 hk0 hH (lv_sub hl [0] rfl) h
        · replace h := if_f h c7
          refine lv_tableOut (tgt := 53) hx hb dX1_size_4 (by have := i32_nv (v := 2) c1 (by decide); have := i32_nv (v := 3) c5 (by decide); have := i32_nv (v := 4) c6 (by decide); have := i32_nv (v := 5) c7 (by decide); omega) (by decide) ?_
          exact w_X1_size_b53 C0  k0 hk0 hH (lv_sub hl [0] rfl) h
theorem c_X1_size {l : Launch} {E : EnvT} (hAd : Ad E) (k0 : Nat) (hk0 : kd k0 = 1) (σ : Mem) {r : Int32} {σ' : Mem} (h : X1_size k0 σ = some (r, σ')) : Met l yX1_size (wsM yX1_size cX1_size 1 (some .int)) (rmD 5) (PcM E [.ref (ea E k0)] σ) (QiM E r σ') 0 0 (eA E) :=
  Met.ofM (by decide) (Nat.le_of_ble_eq_true rfl) (fun p e s m below meth c ls C0 hH hl => w_X1_size_b0 C0 k0 hk0 hH hl h) hAd
set_option maxRecDepth 100000 in
set_option maxHeartbeats 4000000 in
theorem w_X1_markOfCopy_b0 {r : Int32} {σ' : Mem} (C0 : Cx E p m c cX1_markOfCopy 2 s args RX1 meth (some .int))  (k0 : Nat) (hk0 : kd k0 = 1) {σ : Mem} {H : Heap} {locs : List Loc} {ls : Array Slot} (hH : Hs E s σ H locs) (hl : lv_has ls 2 [(0, .ref (ea E k0))]) (h : X1_markOfCopy_b0 k0 σ = some (r, σ')) : W p l e (rmD 4) s m args below meth c H locs 0 0 (MQ below (QiM E r σ') args s 0 0 (eA E)) (F0 m 0 ls []) := by
  obtain ⟨⟨hx, hb, hml, hown, hts⟩, hr, hlocks, hF, hAd⟩ := id C0
  unfold X1_markOfCopy_b0 at h
  refine lv_aload_n hx hb dX1_markOfCopy_0 rfl (lv_at hl 0 rfl) ?_
  refine lv_bipush (v := 23) hx hb dX1_markOfCopy_1 (by decide) ?_
  obtain ⟨σ1, qσ1, h⟩ := ob_s h
  refine go_v hH (va_run_V (As := [.int 23]) (rest := []) C0 hH lk_X1_40 (c_X1_leave hAd k0 23 hk0 σ qσ1) (by decide) (ci := 1) hk0 (by decide) (cob_1 _ _ _) rfl rfl hl.1 rfl (Nat.le_of_ble_eq_true rfl) dX1_markOfCopy_3) (fun H locs hH => ?_)
  refine lv_aload_n hx hb dX1_markOfCopy_6 rfl (lv_at hl 0 rfl) ?_
  obtain ⟨r2, σ3, qr2, h⟩ := ob2_s h
  refine go_i hH (va_run_V (As := []) (rest := []) C0 hH lk_X1_66 (c_X1_markLent hAd k0 hk0 σ1 qr2) (by decide) (ci := 1) hk0 (by decide) (cob_1 _ _ _) rfl rfl hl.1 rfl (Nat.le_of_ble_eq_true rfl) dX1_markOfCopy_7) (fun H locs hH => ?_)
  refine lv_istore_n (lv' := [(1, .int r2), (0, .ref (ea E k0))]) hx hb dX1_markOfCopy_10 rfl hl (by decide) rfl (fun ls hl => ?_)
  refine lv_iload_n hx hb dX1_markOfCopy_11 rfl (lv_at hl 0 rfl) ?_
  refine lv_aload_n hx hb dX1_markOfCopy_12 rfl (lv_at hl 1 rfl) ?_
  obtain ⟨r4, σ5, qr4, h⟩ := ob2_s h
  refine go_i hH (va_run_V (As := []) (rest := [.int r2]) C0 hH lk_X1_48 (c_X1_sizeOfAnyCopy hAd k0 hk0 σ3 qr4) (by decide) (ci := 1) hk0 (by decide) (cob_1 _ _ _) rfl rfl hl.1 rfl (Nat.le_of_ble_eq_true rfl) dX1_markOfCopy_13) (fun H locs hH => ?_)
  refine lv_isub hx hb dX1_markOfCopy_16 ?_
  exact r_iret C0 hH (pj1 h) (pj2 h) dX1_markOfCopy_17
theorem c_X1_markOfCopy {l : Launch} {E : EnvT} (hAd : Ad E) (k0 : Nat) (hk0 : kd k0 = 1) (σ : Mem) {r : Int32} {σ' : Mem} (h : X1_markOfCopy k0 σ = some (r, σ')) : Met l yX1_markOfCopy (wsM yX1_markOfCopy cX1_markOfCopy 2 (some .int)) (rmD 4) (PcM E [.ref (ea E k0)] σ) (QiM E r σ') 0 0 (eA E) :=
  Met.ofM (by decide) (Nat.le_of_ble_eq_true rfl) (fun p e s m below meth c ls C0 hH hl => w_X1_markOfCopy_b0 C0 k0 hk0 hH hl h) hAd
set_option maxRecDepth 100000 in
set_option maxHeartbeats 4000000 in
theorem w_X1_mark_b16 {r : Int32} {σ' : Mem} (C0 : Cx E p m c cX1_mark 1 s args RX1 meth (some .int))  (k0 : Nat) (hk0 : kd k0 = 1) {σ : Mem} {H : Heap} {locs : List Loc} {ls : Array Slot} (hH : Hs E s σ H locs) (hl : lv_has ls 1 [(0, .ref (ea E k0))]) (h : X1_mark_b16 k0 σ = some (r, σ')) : W p l e (rmD 5) s m args below meth c H locs 0 0 (MQ below (QiM E r σ') args s 0 0 (eA E)) (F0 m 16 ls []) := by
  obtain ⟨⟨hx, hb, hml, hown, hts⟩, hr, hlocks, hF, hAd⟩ := id C0
  unfold X1_mark_b16 at h
  refine lv_aload_n hx hb dX1_mark_16 rfl (lv_at hl 0 rfl) ?_
  obtain ⟨r1, σ2, qr1, h⟩ := ob2_s h
  refine go_i hH (va_run_V (As := []) (rest := []) C0 hH lk_X1_51 (c_X1_markOfCopy hAd k0 hk0 σ qr1) (by decide) (ci := 1) hk0 (by decide) (cob_1 _ _ _) rfl rfl hl.1 rfl (Nat.le_of_ble_eq_true rfl) dX1_mark_17) (fun H locs hH => ?_)
  refine lv_goto (tgt := 27) hx hb dX1_mark_20 (by decide) ?_
  exact r_iret C0 hH (pj1 h) (pj2 h) dX1_mark_27
set_option maxRecDepth 100000 in
set_option maxHeartbeats 4000000 in
theorem w_X1_mark_b0 {r : Int32} {σ' : Mem} (C0 : Cx E p m c cX1_mark 1 s args RX1 meth (some .int))  (k0 : Nat) (hk0 : kd k0 = 1) {σ : Mem} {H : Heap} {locs : List Loc} {ls : Array Slot} (hH : Hs E s σ H locs) (hl : lv_has ls 1 [(0, .ref (ea E k0))]) (h : X1_mark_b0 k0 σ = some (r, σ')) : W p l e (rmD 5) s m args below meth c H locs 0 0 (MQ below (QiM E r σ') args s 0 0 (eA E)) (F0 m 0 ls []) := by
  obtain ⟨⟨hx, hb, hml, hown, hts⟩, hr, hlocks, hF, hAd⟩ := id C0
  unfold X1_mark_b0 at h
  refine lv_aload_n hx hb dX1_mark_0 rfl (lv_at hl 0 rfl) ?_
  refine gf_X1_25 C0 hH hk0 dX1_mark_1 ?_
  refine lv_iconst (v := 4) hx hb dX1_mark_4 (by decide) ?_
  refine lv_icmp_eq (tgt := 16) hx hb dX1_mark_5 (by decide) (fun c1 => ?_) (fun c1 => ?_)
  · replace h := if_t h c1
    exact w_X1_mark_b16 C0  k0 hk0 hH (lv_sub hl [0] rfl) h
  · replace h := if_f h c1
    refine lv_aload_n hx hb dX1_mark_8 rfl (lv_at hl 0 rfl) ?_
    refine gf_X1_25 C0 hH hk0 dX1_mark_9 ?_
    refine lv_iconst (v := 5) hx hb dX1_mark_12 (by decide) ?_
    refine lv_icmp_ne (tgt := 23) hx hb dX1_mark_13 (by decide) (fun c2 => ?_) (fun c2 => ?_)
    · replace h := if_f h c2
      refine lv_aload_n hx hb dX1_mark_23 rfl (lv_at hl 0 rfl) ?_
      obtain ⟨r3, σ4, qr3, h⟩ := ob2_s h
      refine go_i hH (va_run_V (As := []) (rest := []) C0 hH lk_X1_54 (c_X1_markOfAnyPlain hAd k0 hk0 σ qr3) (by decide) (ci := 1) hk0 (by decide) (cob_1 _ _ _) rfl rfl hl.1 rfl (Nat.le_of_ble_eq_true rfl) dX1_mark_24) (fun H locs hH => ?_)
      exact r_iret C0 hH (pj1 h) (pj2 h) dX1_mark_27
    · replace h := if_t h c2
      exact w_X1_mark_b16 C0  k0 hk0 hH (lv_sub hl [0] rfl) h
theorem c_X1_mark {l : Launch} {E : EnvT} (hAd : Ad E) (k0 : Nat) (hk0 : kd k0 = 1) (σ : Mem) {r : Int32} {σ' : Mem} (h : X1_mark k0 σ = some (r, σ')) : Met l yX1_mark (wsM yX1_mark cX1_mark 1 (some .int)) (rmD 5) (PcM E [.ref (ea E k0)] σ) (QiM E r σ') 0 0 (eA E) :=
  Met.ofM (by decide) (Nat.le_of_ble_eq_true rfl) (fun p e s m below meth c ls C0 hH hl => w_X1_mark_b0 C0 k0 hk0 hH hl h) hAd
set_option maxRecDepth 100000 in
set_option maxHeartbeats 4000000 in
theorem w_X2_overwrite_b14 {σ' : Mem} (C0 : Cx E p m c cX2_overwrite 4 s args RX2 meth (none)) (K14 : Nat → Int32 → Int32 → Int32 → Mem → Option Mem) (hK14 : ∀ (k0 : Nat) (v1 : Int32) (v2 : Int32) (v3 : Int32) (hk0 : kd k0 = 2) (σ : Mem) (H : Heap) (locs : List Loc) (ls : Array Slot), Hs E s σ H locs → lv_has ls 4 [(0, .ref (ea E k0)), (1, .int v1), (2, .int v2), (3, .int v3)] → K14 k0 v1 v2 v3 σ = some σ' → W p l e (rmD 0) s m args below meth c H locs 0 0 (MQ below (QvM E σ') args s 0 0 (eA E)) (F0 m 14 ls []))  (k0 : Nat) (v1 : Int32) (v2 : Int32) (v3 : Int32) (hk0 : kd k0 = 2) {σ : Mem} {H : Heap} {locs : List Loc} {ls : Array Slot} (hH : Hs E s σ H locs) (hl : lv_has ls 4 [(0, .ref (ea E k0)), (1, .int v1), (2, .int v2), (3, .int v3)]) (h : X2_overwrite_b14 K14 k0 v1 v2 v3 σ = some σ') : W p l e (rmD 0) s m args below meth c H locs 0 0 (MQ below (QvM E σ') args s 0 0 (eA E)) (F0 m 14 ls []) := by
  obtain ⟨⟨hx, hb, hml, hown, hts⟩, hr, hlocks, hF, hAd⟩ := id C0
  unfold X2_overwrite_b14 at h
  refine lv_iload_n hx hb dX2_overwrite_14 rfl (lv_at hl 3 rfl) ?_
  refine lv_iconst (v := 2) hx hb dX2_overwrite_15 (by decide) ?_
  refine lv_icmp_gt (tgt := 41) hx hb dX2_overwrite_16 (by decide) (fun c1 => ?_) (fun c1 => ?_)
  · replace h := if_t h c1
    exact r_vret C0 hH (Option.some.inj h) dX2_overwrite_41
  · replace h := if_f h c1
    refine lv_aload_n hx hb dX2_overwrite_19 rfl (lv_at hl 0 rfl) ?_
    refine gf_X2_27 C0 hH hk0 dX2_overwrite_20 ?_
    refine lv_iload_n hx hb dX2_overwrite_23 rfl (lv_at hl 3 rfl) ?_
    obtain ⟨b2, h⟩ := gdx_s h
    refine ra_13 C0 hH (kf_2_4 hk0) b2 dX2_overwrite_24 ?_
    refine lv_iload_n hx hb dX2_overwrite_25 rfl (lv_at hl 1 rfl) ?_
    refine lv_aload_n hx hb dX2_overwrite_26 rfl (lv_at hl 0 rfl) ?_
    refine gf_X2_27 C0 hH hk0 dX2_overwrite_27 ?_
    refine lv_iload_n hx hb dX2_overwrite_30 rfl (lv_at hl 3 rfl) ?_
    obtain ⟨b3, h⟩ := gdx_s h
    refine ra_13 C0 hH (kf_2_4 hk0) b3 dX2_overwrite_31 ?_
    refine lv_iload_n hx hb dX2_overwrite_32 rfl (lv_at hl 2 rfl) ?_
    obtain ⟨b4, h⟩ := gdx_s h
    refine r_iald C0 hH (n := 10) (ka_13 (kf_2_4 hk0) b3) b4 dX2_overwrite_33 ?_
    obtain ⟨b5, h⟩ := gdx_s h
    refine r_iast C0 hH (n := 10) (ka_13 (kf_2_4 hk0) b2) b5 dX2_overwrite_34 (fun H locs hH => ?_)
    refine lv_iinc (v := v3 + 1) (lv' := [(3, .int (v3 + 1)), (0, .ref (ea E k0)), (1, .int v1), (2, .int v2)]) hx hb dX2_overwrite_35 hl (k := 3) rfl rfl (by decide) rfl (fun ls hl => ?_)
    refine lv_goto (tgt := 14) hx hb dX2_overwrite_38 (by decide) ?_
    exact hK14 k0 v1 v2 (v3 + 1) hk0 _ _ _ _ hH (lv_sub hl [1, 2, 3, 0] rfl) h
set_option maxRecDepth 100000 in
set_option maxHeartbeats 4000000 in
theorem w_X2_overwrite_l14 {σ' : Mem} (C0 : Cx E p m c cX2_overwrite 4 s args RX2 meth (none))  (n : Nat) : ∀ (k0 : Nat) (v1 : Int32) (v2 : Int32) (v3 : Int32) (hk0 : kd k0 = 2) (σ : Mem) (H : Heap) (locs : List Loc) (ls : Array Slot), Hs E s σ H locs → lv_has ls 4 [(0, .ref (ea E k0)), (1, .int v1), (2, .int v2), (3, .int v3)] → X2_overwrite_l14 n k0 v1 v2 v3 σ = some σ' → W p l e (rmD 0) s m args below meth c H locs 0 0 (MQ below (QvM E σ') args s 0 0 (eA E)) (F0 m 14 ls []) := by
  induction n with
  | zero =>
    intro k0 v1 v2 v3 hk0 σ H locs ls hH hl h
    cases h
  | succ n ih =>
    intro k0 v1 v2 v3 hk0 σ H locs ls hH hl h
    exact w_X2_overwrite_b14 C0 (X2_overwrite_l14 n)  ih k0 v1 v2 v3 hk0 hH hl h
set_option maxRecDepth 100000 in
set_option maxHeartbeats 4000000 in
theorem w_X2_overwrite_b0 {σ' : Mem} (C0 : Cx E p m c cX2_overwrite 4 s args RX2 meth (none))  (k0 : Nat) (v1 : Int32) (v2 : Int32) (hk0 : kd k0 = 2) {σ : Mem} {H : Heap} {locs : List Loc} {ls : Array Slot} (hH : Hs E s σ H locs) (hl : lv_has ls 4 [(0, .ref (ea E k0)), (1, .int v1), (2, .int v2)]) (h : X2_overwrite_b0 k0 v1 v2 σ = some σ') : W p l e (rmD 0) s m args below meth c H locs 0 0 (MQ below (QvM E σ') args s 0 0 (eA E)) (F0 m 0 ls []) := by
  obtain ⟨⟨hx, hb, hml, hown, hts⟩, hr, hlocks, hF, hAd⟩ := id C0
  unfold X2_overwrite_b0 at h
  refine lv_aload_n hx hb dX2_overwrite_0 rfl (lv_at hl 0 rfl) ?_
  refine gf_X2_21 C0 hH hk0 dX2_overwrite_1 ?_
  refine lv_iload_n hx hb dX2_overwrite_4 rfl (lv_at hl 1 rfl) ?_
  refine lv_aload_n hx hb dX2_overwrite_5 rfl (lv_at hl 0 rfl) ?_
  refine gf_X2_21 C0 hH hk0 dX2_overwrite_6 ?_
  refine lv_iload_n hx hb dX2_overwrite_9 rfl (lv_at hl 2 rfl) ?_
  obtain ⟨b1, h⟩ := gdx_s h
  refine r_iald C0 hH (n := 10) (kf_2_3 hk0) b1 dX2_overwrite_10 ?_
  obtain ⟨b2, h⟩ := gdx_s h
  refine r_iast C0 hH (n := 10) (kf_2_3 hk0) b2 dX2_overwrite_11 (fun H locs hH => ?_)
  refine lv_iconst (v := 0) hx hb dX2_overwrite_12 (by decide) ?_
  refine lv_istore_n (lv' := [(3, .int 0), (0, .ref (ea E k0)), (1, .int v1), (2, .int v2)]) hx hb dX2_overwrite_13 rfl hl (by decide) rfl (fun ls hl => ?_)
  exact w_X2_overwrite_l14 C0  FU k0 v1 v2 0 hk0 _ _ _ _ hH (lv_sub hl [1, 2, 3, 0] rfl) h
theorem c_X2_overwrite {l : Launch} {E : EnvT} (hAd : Ad E) (k0 : Nat) (v1 : Int32) (v2 : Int32) (hk0 : kd k0 = 2) (σ : Mem) {σ' : Mem} (h : X2_overwrite k0 v1 v2 σ = some σ') : Met l yX2_overwrite (wsM yX2_overwrite cX2_overwrite 4 (none)) (rmD 0) (PcM E [.ref (ea E k0), .int v1, .int v2] σ) (QvM E σ') 0 0 (eA E) :=
  Met.ofM (by decide) (Nat.le_of_ble_eq_true rfl) (fun p e s m below meth c ls C0 hH hl => w_X2_overwrite_b0 C0 k0 v1 v2 hk0 hH hl h) hAd
set_option maxRecDepth 100000 in
set_option maxHeartbeats 4000000 in
theorem w_X2_insert_b28 {σ' : Mem} (C0 : Cx E p m c cX2_insert 7 s args RX2 meth (none)) (K28 : Nat → Int32 → Int32 → Int32 → Int32 → Int32 → Int32 → Mem → Option Mem) (hK28 : ∀ (k0 : Nat) (v1 : Int32) (v2 : Int32) (v3 : Int32) (v4 : Int32) (v5 : Int32) (v6 : Int32) (hk0 : kd k0 = 2) (σ : Mem) (H : Heap) (locs : List Loc) (ls : Array Slot), Hs E s σ H locs → lv_has ls 7 [(0, .ref (ea E k0)), (1, .int v1), (2, .int v2), (3, .int v3), (4, .int v4), (5, .int v5), (6, .int v6)] → K28 k0 v1 v2 v3 v4 v5 v6 σ = some σ' → W p l e (rmD 1) s m args below meth c H locs 0 0 (MQ below (QvM E σ') args s 0 0 (eA E)) (F0 m 28 ls []))  (k0 : Nat) (v1 : Int32) (v2 : Int32) (v3 : Int32) (v4 : Int32) (v5 : Int32) (v6 : Int32) (hk0 : kd k0 = 2) {σ : Mem} {H : Heap} {locs : List Loc} {ls : Array Slot} (hH : Hs E s σ H locs) (hl : lv_has ls 7 [(0, .ref (ea E k0)), (1, .int v1), (2, .int v2), (3, .int v3), (4, .int v4), (5, .int v5), (6, .int v6)]) (h : X2_insert_b28 K28 k0 v1 v2 v3 v4 v5 v6 σ = some σ') : W p l e (rmD 1) s m args below meth c H locs 0 0 (MQ below (QvM E σ') args s 0 0 (eA E)) (F0 m 28 ls []) := by
  obtain ⟨⟨hx, hb, hml, hown, hts⟩, hr, hlocks, hF, hAd⟩ := id C0
  unfold X2_insert_b28 at h
  refine lv_iload hx hb dX2_insert_28 (lv_at hl 6 rfl) ?_
  refine lv_iload_n hx hb dX2_insert_30 rfl (lv_at hl 1 rfl) ?_
  refine lv_icmp_le (tgt := 50) hx hb dX2_insert_31 (by decide) (fun c1 => ?_) (fun c1 => ?_)
  · replace h := if_t h c1
    refine lv_aload_n hx hb dX2_insert_50 rfl (lv_at hl 0 rfl) ?_
    refine lv_dup hx hb dX2_insert_51 rfl ?_
    refine gf_X2_9 C0 hH hk0 dX2_insert_52 ?_
    refine lv_iconst (v := 1) hx hb dX2_insert_55 (by decide) ?_
    refine lv_iadd hx hb dX2_insert_56 ?_
    refine pf_X2_9 C0 hH hk0 dX2_insert_57 (fun H locs hH => ?_)
    refine lv_aload_n hx hb dX2_insert_60 rfl (lv_at hl 0 rfl) ?_
    refine gf_X2_21 C0 hH hk0 dX2_insert_61 ?_
    refine lv_iload_n hx hb dX2_insert_64 rfl (lv_at hl 1 rfl) ?_
    refine lv_iload_n hx hb dX2_insert_65 rfl (lv_at hl 2 rfl) ?_
    obtain ⟨σ2, eσ2, h⟩ := letv_s h
    replace hH := hs_of eσ2 hH
    obtain ⟨b3, h⟩ := gdx_s h
    refine r_iast C0 hH (n := 10) (kf_2_3 hk0) b3 dX2_insert_66 (fun H locs hH => ?_)
    refine lv_aload_n hx hb dX2_insert_67 rfl (lv_at hl 0 rfl) ?_
    refine gf_X2_27 C0 hH hk0 dX2_insert_68 ?_
    refine lv_iconst (v := 0) hx hb dX2_insert_71 (by decide) ?_
    refine ra_13 C0 hH (kf_2_4 hk0) (vin (by decide)) dX2_insert_72 ?_
    refine lv_iload_n hx hb dX2_insert_73 rfl (lv_at hl 1 rfl) ?_
    refine lv_iload_n hx hb dX2_insert_74 rfl (lv_at hl 3 rfl) ?_
    obtain ⟨σ4, eσ4, h⟩ := letv_s h
    replace hH := hs_of eσ4 hH
    obtain ⟨b5, h⟩ := gdx_s h
    refine r_iast C0 hH (n := 10) (ka_13 (kf_2_4 hk0) (vin (by decide))) b5 dX2_insert_75 (fun H locs hH => ?_)
    refine lv_aload_n hx hb dX2_insert_76 rfl (lv_at hl 0 rfl) ?_
    refine gf_X2_27 C0 hH hk0 dX2_insert_77 ?_
    refine lv_iconst (v := 1) hx hb dX2_insert_80 (by decide) ?_
    refine ra_13 C0 hH (kf_2_4 hk0) (vin (by decide)) dX2_insert_81 ?_
    refine lv_iload_n hx hb dX2_insert_82 rfl (lv_at hl 1 rfl) ?_
    refine lv_iload hx hb dX2_insert_83 (lv_at hl 4 rfl) ?_
    obtain ⟨σ6, eσ6, h⟩ := letv_s h
    replace hH := hs_of eσ6 hH
    obtain ⟨b7, h⟩ := gdx_s h
    refine r_iast C0 hH (n := 10) (ka_13 (kf_2_4 hk0) (vin (by decide))) b7 dX2_insert_85 (fun H locs hH => ?_)
    refine lv_aload_n hx hb dX2_insert_86 rfl (lv_at hl 0 rfl) ?_
    refine gf_X2_27 C0 hH hk0 dX2_insert_87 ?_
    refine lv_iconst (v := 2) hx hb dX2_insert_90 (by decide) ?_
    refine ra_13 C0 hH (kf_2_4 hk0) (vin (by decide)) dX2_insert_91 ?_
    refine lv_iload_n hx hb dX2_insert_92 rfl (lv_at hl 1 rfl) ?_
    refine lv_iload hx hb dX2_insert_93 (lv_at hl 5 rfl) ?_
    obtain ⟨σ8, eσ8, h⟩ := letv_s h
    replace hH := hs_of eσ8 hH
    obtain ⟨b9, h⟩ := gdx_s h
    refine r_iast C0 hH (n := 10) (ka_13 (kf_2_4 hk0) (vin (by decide))) b9 dX2_insert_95 (fun H locs hH => ?_)
    exact r_vret C0 hH (Option.some.inj h) dX2_insert_96
  · replace h := if_f h c1
    refine lv_aload_n hx hb dX2_insert_34 rfl (lv_at hl 0 rfl) ?_
    refine lv_iload hx hb dX2_insert_35 (lv_at hl 6 rfl) ?_
    refine lv_iload hx hb dX2_insert_37 (lv_at hl 6 rfl) ?_
    refine lv_iconst (v := 1) hx hb dX2_insert_39 (by decide) ?_
    refine lv_isub hx hb dX2_insert_40 ?_
    obtain ⟨σ10, qσ10, h⟩ := ob_s h
    refine go_v hH (va_run_V (As := [.int v6, .int (v6 - 1)]) (rest := []) C0 hH lk_X2_36 (c_X2_overwrite hAd k0 v6 (v6 - 1) hk0 σ qσ10) (by decide) (ci := 2) hk0 (by decide) (cob_2 _ _ _) rfl rfl hl.1 rfl (Nat.le_of_ble_eq_true rfl) dX2_insert_41) (fun H locs hH => ?_)
    refine lv_iinc (v := v6 + (-1)) (lv' := [(6, .int (v6 + (-1))), (0, .ref (ea E k0)), (1, .int v1), (2, .int v2), (3, .int v3), (4, .int v4), (5, .int v5)]) hx hb dX2_insert_44 hl (k := 6) rfl rfl (by decide) rfl (fun ls hl => ?_)
    refine lv_goto (tgt := 28) hx hb dX2_insert_47 (by decide) ?_
    exact hK28 k0 v1 v2 v3 v4 v5 (v6 + (-1)) hk0 _ _ _ _ hH (lv_sub hl [1, 2, 3, 4, 5, 6, 0] rfl) h
set_option maxRecDepth 100000 in
set_option maxHeartbeats 4000000 in
theorem w_X2_insert_l28 {σ' : Mem} (C0 : Cx E p m c cX2_insert 7 s args RX2 meth (none))  (n : Nat) : ∀ (k0 : Nat) (v1 : Int32) (v2 : Int32) (v3 : Int32) (v4 : Int32) (v5 : Int32) (v6 : Int32) (hk0 : kd k0 = 2) (σ : Mem) (H : Heap) (locs : List Loc) (ls : Array Slot), Hs E s σ H locs → lv_has ls 7 [(0, .ref (ea E k0)), (1, .int v1), (2, .int v2), (3, .int v3), (4, .int v4), (5, .int v5), (6, .int v6)] → X2_insert_l28 n k0 v1 v2 v3 v4 v5 v6 σ = some σ' → W p l e (rmD 1) s m args below meth c H locs 0 0 (MQ below (QvM E σ') args s 0 0 (eA E)) (F0 m 28 ls []) := by
  induction n with
  | zero =>
    intro k0 v1 v2 v3 v4 v5 v6 hk0 σ H locs ls hH hl h
    cases h
  | succ n ih =>
    intro k0 v1 v2 v3 v4 v5 v6 hk0 σ H locs ls hH hl h
    exact w_X2_insert_b28 C0 (X2_insert_l28 n)  ih k0 v1 v2 v3 v4 v5 v6 hk0 hH hl h
set_option maxRecDepth 100000 in
set_option maxHeartbeats 4000000 in
theorem w_X2_insert_b0 {σ' : Mem} (C0 : Cx E p m c cX2_insert 7 s args RX2 meth (none))  (k0 : Nat) (v1 : Int32) (v2 : Int32) (v3 : Int32) (v4 : Int32) (v5 : Int32) (hk0 : kd k0 = 2) {σ : Mem} {H : Heap} {locs : List Loc} {ls : Array Slot} (hH : Hs E s σ H locs) (hl : lv_has ls 7 [(0, .ref (ea E k0)), (1, .int v1), (2, .int v2), (3, .int v3), (4, .int v4), (5, .int v5)]) (h : X2_insert_b0 k0 v1 v2 v3 v4 v5 σ = some σ') : W p l e (rmD 1) s m args below meth c H locs 0 0 (MQ below (QvM E σ') args s 0 0 (eA E)) (F0 m 0 ls []) := by
  obtain ⟨⟨hx, hb, hml, hown, hts⟩, hr, hlocks, hF, hAd⟩ := id C0
  unfold X2_insert_b0 at h
  refine lv_iload_n hx hb dX2_insert_0 rfl (lv_at hl 1 rfl) ?_
  refine lv_if_lt (tgt := 21) hx hb dX2_insert_1 (by decide) (fun c1 => ?_) (fun c1 => ?_)
  · replace h := if_t h c1
    exact r_vret C0 hH (Option.some.inj h) dX2_insert_21
  · replace h := if_f h c1
    refine lv_iload_n hx hb dX2_insert_4 rfl (lv_at hl 1 rfl) ?_
    refine lv_aload_n hx hb dX2_insert_5 rfl (lv_at hl 0 rfl) ?_
    refine gf_X2_9 C0 hH hk0 dX2_insert_6 ?_
    refine lv_icmp_gt (tgt := 21) hx hb dX2_insert_9 (by decide) (fun c2 => ?_) (fun c2 => ?_)
    · replace h := if_t h c2
      exact r_vret C0 hH (Option.some.inj h) dX2_insert_21
    · replace h := if_f h c2
      refine lv_aload_n hx hb dX2_insert_12 rfl (lv_at hl 0 rfl) ?_
      refine gf_X2_9 C0 hH hk0 dX2_insert_13 ?_
      refine lv_bipush (v := 10) hx hb dX2_insert_16 (by decide) ?_
      refine lv_icmp_lt (tgt := 22) hx hb dX2_insert_18 (by decide) (fun c3 => ?_) (fun c3 => ?_)
      · replace h := if_t h c3
        refine lv_aload_n hx hb dX2_insert_22 rfl (lv_at hl 0 rfl) ?_
        refine gf_X2_9 C0 hH hk0 dX2_insert_23 ?_
        obtain ⟨x4, ex4, h⟩ := letv_s h
        refine topi_of ex4 ?_
        refine lv_istore (lv' := [(6, .int x4), (0, .ref (ea E k0)), (1, .int v1), (2, .int v2), (3, .int v3), (4, .int v4), (5, .int v5)]) hx hb dX2_insert_26 hl (by decide) rfl (fun ls hl => ?_)
        exact w_X2_insert_l28 C0  FU k0 v1 v2 v3 v4 v5 x4 hk0 _ _ _ _ hH (lv_sub hl [1, 2, 3, 4, 5, 6, 0] rfl) h
      · replace h := if_f h c3
        exact r_vret C0 hH (Option.some.inj h) dX2_insert_21
theorem c_X2_insert {l : Launch} {E : EnvT} (hAd : Ad E) (k0 : Nat) (v1 : Int32) (v2 : Int32) (v3 : Int32) (v4 : Int32) (v5 : Int32) (hk0 : kd k0 = 2) (σ : Mem) {σ' : Mem} (h : X2_insert k0 v1 v2 v3 v4 v5 σ = some σ') : Met l yX2_insert (wsM yX2_insert cX2_insert 7 (none)) (rmD 1) (PcM E [.ref (ea E k0), .int v1, .int v2, .int v3, .int v4, .int v5] σ) (QvM E σ') 0 0 (eA E) :=
  Met.ofM (by decide) (Nat.le_of_ble_eq_true rfl) (fun p e s m below meth c ls C0 hH hl => w_X2_insert_b0 C0 k0 v1 v2 v3 v4 v5 hk0 hH hl h) hAd
set_option maxRecDepth 100000 in
set_option maxHeartbeats 4000000 in
theorem w_X2_cut_b2 {σ' : Mem} (C0 : Cx E p m c cX2_cut 3 s args RX2 meth (none)) (K2 : Nat → Int32 → Mem → Option Mem) (hK2 : ∀ (k0 : Nat) (v2 : Int32) (hk0 : kd k0 = 2) (σ : Mem) (H : Heap) (locs : List Loc) (ls : Array Slot), Hs E s σ H locs → lv_has ls 3 [(0, .ref (ea E k0)), (2, .int v2)] → K2 k0 v2 σ = some σ' → W p l e (rmD 1) s m args below meth c H locs 0 0 (MQ below (QvM E σ') args s 0 0 (eA E)) (F0 m 2 ls []))  (k0 : Nat) (v2 : Int32) (hk0 : kd k0 = 2) {σ : Mem} {H : Heap} {locs : List Loc} {ls : Array Slot} (hH : Hs E s σ H locs) (hl : lv_has ls 3 [(0, .ref (ea E k0)), (2, .int v2)]) (h : X2_cut_b2 K2 k0 v2 σ = some σ') : W p l e (rmD 1) s m args below meth c H locs 0 0 (MQ below (QvM E σ') args s 0 0 (eA E)) (F0 m 2 ls []) := by
  obtain ⟨⟨hx, hb, hml, hown, hts⟩, hr, hlocks, hF, hAd⟩ := id C0
  unfold X2_cut_b2 at h
  refine lv_iload_n hx hb dX2_cut_2 rfl (lv_at hl 1 rfl) ?_
  refine lv_aload_n hx hb dX2_cut_3 rfl (lv_at hl 0 rfl) ?_
  refine gf_X2_9 C0 hH hk0 dX2_cut_4 ?_
  refine lv_iconst (v := 1) hx hb dX2_cut_7 (by decide) ?_
  refine lv_isub hx hb dX2_cut_8 ?_
  refine lv_icmp_ge (tgt := 26) hx hb dX2_cut_9 (by decide) (fun c1 => ?_) (fun c1 => ?_)
  · replace h := if_t h c1
    refine lv_aload_n hx hb dX2_cut_26 rfl (lv_at hl 0 rfl) ?_
    refine lv_dup hx hb dX2_cut_27 rfl ?_
    refine gf_X2_9 C0 hH hk0 dX2_cut_28 ?_
    refine lv_iconst (v := 1) hx hb dX2_cut_31 (by decide) ?_
    refine lv_isub hx hb dX2_cut_32 ?_
    refine pf_X2_9 C0 hH hk0 dX2_cut_33 (fun H locs hH => ?_)
    exact r_vret C0 hH (Option.some.inj h) dX2_cut_36
  · replace h := if_f h c1
    refine lv_aload_n hx hb dX2_cut_12 rfl (lv_at hl 0 rfl) ?_
    refine lv_iload_n hx hb dX2_cut_13 rfl (lv_at hl 1 rfl) ?_
    refine lv_iload_n hx hb dX2_cut_14 rfl (lv_at hl 1 rfl) ?_
    refine lv_iconst (v := 1) hx hb dX2_cut_15 (by decide) ?_
    refine lv_iadd hx hb dX2_cut_16 ?_
    obtain ⟨σ2, qσ2, h⟩ := ob_s h
    refine go_v hH (va_run_V (As := [.int v2, .int (v2 + 1)]) (rest := []) C0 hH lk_X2_36 (c_X2_overwrite hAd k0 v2 (v2 + 1) hk0 σ qσ2) (by decide) (ci := 2) hk0 (by decide) (cob_2 _ _ _) rfl rfl hl.1 rfl (Nat.le_of_ble_eq_true rfl) dX2_cut_17) (fun H locs hH => ?_)
    refine lv_iinc (v := v2 + 1) (lv' := [(2, .int (v2 + 1)), (0, .ref (ea E k0))]) hx hb dX2_cut_20 hl (k := 1) rfl rfl (by decide) rfl (fun ls hl => ?_)
    refine lv_goto (tgt := 2) hx hb dX2_cut_23 (by decide) ?_
    exact hK2 k0 (v2 + 1) hk0 _ _ _ _ hH (lv_sub hl [1, 0] rfl) h
set_option maxRecDepth 100000 in
set_option maxHeartbeats 4000000 in
theorem w_X2_cut_l2 {σ' : Mem} (C0 : Cx E p m c cX2_cut 3 s args RX2 meth (none))  (n : Nat) : ∀ (k0 : Nat) (v2 : Int32) (hk0 : kd k0 = 2) (σ : Mem) (H : Heap) (locs : List Loc) (ls : Array Slot), Hs E s σ H locs → lv_has ls 3 [(0, .ref (ea E k0)), (2, .int v2)] → X2_cut_l2 n k0 v2 σ = some σ' → W p l e (rmD 1) s m args below meth c H locs 0 0 (MQ below (QvM E σ') args s 0 0 (eA E)) (F0 m 2 ls []) := by
  induction n with
  | zero =>
    intro k0 v2 hk0 σ H locs ls hH hl h
    cases h
  | succ n ih =>
    intro k0 v2 hk0 σ H locs ls hH hl h
    exact w_X2_cut_b2 C0 (X2_cut_l2 n)  ih k0 v2 hk0 hH hl h
set_option maxRecDepth 100000 in
set_option maxHeartbeats 4000000 in
theorem w_X2_cut_b0 {σ' : Mem} (C0 : Cx E p m c cX2_cut 3 s args RX2 meth (none))  (k0 : Nat) (v1 : Int32) (hk0 : kd k0 = 2) {σ : Mem} {H : Heap} {locs : List Loc} {ls : Array Slot} (hH : Hs E s σ H locs) (hl : lv_has ls 3 [(0, .ref (ea E k0)), (1, .int v1)]) (h : X2_cut_b0 k0 v1 σ = some σ') : W p l e (rmD 1) s m args below meth c H locs 0 0 (MQ below (QvM E σ') args s 0 0 (eA E)) (F0 m 0 ls []) := by
  obtain ⟨⟨hx, hb, hml, hown, hts⟩, hr, hlocks, hF, hAd⟩ := id C0
  unfold X2_cut_b0 at h
  refine lv_iload_n hx hb dX2_cut_0 rfl (lv_at hl 1 rfl) ?_
  refine lv_istore_n (lv' := [(2, .int v1), (0, .ref (ea E k0)), (1, .int v1)]) hx hb dX2_cut_1 rfl hl (by decide) rfl (fun ls hl => ?_)
  exact w_X2_cut_l2 C0  FU k0 v1 hk0 _ _ _ _ hH (lv_sub hl [1, 0] rfl) h
theorem c_X2_cut {l : Launch} {E : EnvT} (hAd : Ad E) (k0 : Nat) (v1 : Int32) (hk0 : kd k0 = 2) (σ : Mem) {σ' : Mem} (h : X2_cut k0 v1 σ = some σ') : Met l yX2_cut (wsM yX2_cut cX2_cut 3 (none)) (rmD 1) (PcM E [.ref (ea E k0), .int v1] σ) (QvM E σ') 0 0 (eA E) :=
  Met.ofM (by decide) (Nat.le_of_ble_eq_true rfl) (fun p e s m below meth c ls C0 hH hl => w_X2_cut_b0 C0 k0 v1 hk0 hH hl h) hAd
set_option maxRecDepth 100000 in
set_option maxHeartbeats 4000000 in
theorem w_X2_carry_b0 {σ' : Mem} (C0 : Cx E p m c cX2_carry 7 s args RX2 meth (none))  (k0 : Nat) (v1 : Int32) (v2 : Int32) (hk0 : kd k0 = 2) {σ : Mem} {H : Heap} {locs : List Loc} {ls : Array Slot} (hH : Hs E s σ H locs) (hl : lv_has ls 7 [(0, .ref (ea E k0)), (1, .int v1), (2, .int v2)]) (h : X2_carry_b0 k0 v1 v2 σ = some σ') : W p l e (rmD 2) s m args below meth c H locs 0 0 (MQ below (QvM E σ') args s 0 0 (eA E)) (F0 m 0 ls []) := by
  obtain ⟨⟨hx, hb, hml, hown, hts⟩, hr, hlocks, hF, hAd⟩ := id C0
  unfold X2_carry_b0 at h
  refine lv_aload_n hx hb dX2_carry_0 rfl (lv_at hl 0 rfl) ?_
  refine gf_X2_21 C0 hH hk0 dX2_carry_1 ?_
  refine lv_iload_n hx hb dX2_carry_4 rfl (lv_at hl 1 rfl) ?_
  obtain ⟨b1, h⟩ := gdx_s h
  refine r_iald C0 hH (n := 10) (kf_2_3 hk0) b1 dX2_carry_5 ?_
  obtain ⟨x2, ex2, h⟩ := letv_s h
  refine topi_of ex2 ?_
  refine lv_istore_n (lv' := [(3, .int x2), (0, .ref (ea E k0)), (1, .int v1), (2, .int v2)]) hx hb dX2_carry_6 rfl hl (by decide) rfl (fun ls hl => ?_)
  refine lv_aload_n hx hb dX2_carry_7 rfl (lv_at hl 1 rfl) ?_
  refine gf_X2_27 C0 hH hk0 dX2_carry_8 ?_
  refine lv_iconst (v := 0) hx hb dX2_carry_11 (by decide) ?_
  refine ra_13 C0 hH (kf_2_4 hk0) (vin (by decide)) dX2_carry_12 ?_
  refine lv_iload_n hx hb dX2_carry_13 rfl (lv_at hl 2 rfl) ?_
  obtain ⟨b3, h⟩ := gdx_s h
  refine r_iald C0 hH (n := 10) (ka_13 (kf_2_4 hk0) (vin (by decide))) b3 dX2_carry_14 ?_
  obtain ⟨x4, ex4, h⟩ := letv_s h
  refine topi_of ex4 ?_
  refine lv_istore (lv' := [(4, .int x4), (3, .int x2), (0, .ref (ea E k0)), (1, .int v1), (2, .int v2)]) hx hb dX2_carry_15 hl (by decide) rfl (fun ls hl => ?_)
  refine lv_aload_n hx hb dX2_carry_17 rfl (lv_at hl 2 rfl) ?_
  refine gf_X2_27 C0 hH hk0 dX2_carry_18 ?_
  refine lv_iconst (v := 1) hx hb dX2_carry_21 (by decide) ?_
  refine ra_13 C0 hH (kf_2_4 hk0) (vin (by decide)) dX2_carry_22 ?_
  refine lv_iload_n hx hb dX2_carry_23 rfl (lv_at hl 3 rfl) ?_
  obtain ⟨b5, h⟩ := gdx_s h
  refine r_iald C0 hH (n := 10) (ka_13 (kf_2_4 hk0) (vin (by decide))) b5 dX2_carry_24 ?_
  obtain ⟨x6, ex6, h⟩ := letv_s h
  refine topi_of ex6 ?_
  refine lv_istore (lv' := [(5, .int x6), (4, .int x4), (3, .int x2), (0, .ref (ea E k0)), (1, .int v1), (2, .int v2)]) hx hb dX2_carry_25 hl (by decide) rfl (fun ls hl => ?_)
  refine lv_aload_n hx hb dX2_carry_27 rfl (lv_at hl 3 rfl) ?_
  refine gf_X2_27 C0 hH hk0 dX2_carry_28 ?_
  refine lv_iconst (v := 2) hx hb dX2_carry_31 (by decide) ?_
  refine ra_13 C0 hH (kf_2_4 hk0) (vin (by decide)) dX2_carry_32 ?_
  refine lv_iload_n hx hb dX2_carry_33 rfl (lv_at hl 4 rfl) ?_
  obtain ⟨b7, h⟩ := gdx_s h
  refine r_iald C0 hH (n := 10) (ka_13 (kf_2_4 hk0) (vin (by decide))) b7 dX2_carry_34 ?_
  obtain ⟨x8, ex8, h⟩ := letv_s h
  refine topi_of ex8 ?_
  refine lv_istore (lv' := [(6, .int x8), (5, .int x6), (4, .int x4), (3, .int x2), (0, .ref (ea E k0)), (1, .int v1), (2, .int v2)]) hx hb dX2_carry_35 hl (by decide) rfl (fun ls hl => ?_)
  refine lv_aload_n hx hb dX2_carry_37 rfl (lv_at hl 4 rfl) ?_
  refine lv_iload_n hx hb dX2_carry_38 rfl (lv_at hl 5 rfl) ?_
  obtain ⟨σ9, qσ9, h⟩ := ob_s h
  refine go_v hH (va_run_V (As := [.int v1]) (rest := []) C0 hH lk_X2_40 (c_X2_cut hAd k0 v1 hk0 σ qσ9) (by decide) (ci := 2) hk0 (by decide) (cob_2 _ _ _) rfl rfl hl.1 rfl (Nat.le_of_ble_eq_true rfl) dX2_carry_39) (fun H locs hH => ?_)
  refine lv_aload_n hx hb dX2_carry_42 rfl (lv_at hl 4 rfl) ?_
  refine lv_iload_n hx hb dX2_carry_43 rfl (lv_at hl 6 rfl) ?_
  refine lv_iload_n hx hb dX2_carry_44 rfl (lv_at hl 3 rfl) ?_
  refine lv_iload hx hb dX2_carry_45 (lv_at hl 2 rfl) ?_
  refine lv_iload hx hb dX2_carry_47 (lv_at hl 1 rfl) ?_
  refine lv_iload hx hb dX2_carry_49 (lv_at hl 0 rfl) ?_
  obtain ⟨σ10, qσ10, h⟩ := ob_s h
  refine go_v hH (va_run_V (As := [.int v2, .int x2, .int x4, .int x6, .int x8]) (rest := []) C0 hH lk_X2_44 (c_X2_insert hAd k0 v2 x2 x4 x6 x8 hk0 σ9 qσ10) (by decide) (ci := 2) hk0 (by decide) (cob_2 _ _ _) rfl rfl hl.1 rfl (Nat.le_of_ble_eq_true rfl) dX2_carry_51) (fun H locs hH => ?_)
  exact r_vret C0 hH (Option.some.inj h) dX2_carry_54
theorem c_X2_carry {l : Launch} {E : EnvT} (hAd : Ad E) (k0 : Nat) (v1 : Int32) (v2 : Int32) (hk0 : kd k0 = 2) (σ : Mem) {σ' : Mem} (h : X2_carry k0 v1 v2 σ = some σ') : Met l yX2_carry (wsM yX2_carry cX2_carry 7 (none)) (rmD 2) (PcM E [.ref (ea E k0), .int v1, .int v2] σ) (QvM E σ') 0 0 (eA E) :=
  Met.ofM (by decide) (Nat.le_of_ble_eq_true rfl) (fun p e s m below meth c ls C0 hH hl => w_X2_carry_b0 C0 k0 v1 v2 hk0 hH hl h) hAd
set_option maxRecDepth 100000 in
set_option maxHeartbeats 4000000 in
theorem w_X2_together_b4 {r : Int32} (C0 : Cx E p m c cX2_together 4 s args RX2 meth (some .int)) (K4 : Nat → Int32 → Int32 → Int32 → Mem → Option Int32) (hK4 : ∀ (k0 : Nat) (v1 : Int32) (v2 : Int32) (v3 : Int32) (hk0 : kd k0 = 2) (σ : Mem) (H : Heap) (locs : List Loc) (ls : Array Slot), Hs E s σ H locs → lv_has ls 4 [(0, .ref (ea E k0)), (1, .int v1), (2, .int v2), (3, .int v3)] → K4 k0 v1 v2 v3 σ = some r → W p l e (rmD 0) s m args below meth c H locs 0 0 (MQ below (QiM E r σ) args s 0 0 (eA E)) (F0 m 4 ls []))  (k0 : Nat) (v1 : Int32) (v2 : Int32) (v3 : Int32) (hk0 : kd k0 = 2) {σ : Mem} {H : Heap} {locs : List Loc} {ls : Array Slot} (hH : Hs E s σ H locs) (hl : lv_has ls 4 [(0, .ref (ea E k0)), (1, .int v1), (2, .int v2), (3, .int v3)]) (h : X2_together_b4 K4 k0 v1 v2 v3 σ = some r) : W p l e (rmD 0) s m args below meth c H locs 0 0 (MQ below (QiM E r σ) args s 0 0 (eA E)) (F0 m 4 ls []) := by
  obtain ⟨⟨hx, hb, hml, hown, hts⟩, hr, hlocks, hF, hAd⟩ := id C0
  unfold X2_together_b4 at h
  refine lv_iload_n hx hb dX2_together_4 rfl (lv_at hl 3 rfl) ?_
  refine lv_aload_n hx hb dX2_together_5 rfl (lv_at hl 0 rfl) ?_
  refine gf_X2_9 C0 hH hk0 dX2_together_6 ?_
  refine lv_icmp_ge (tgt := 29) hx hb dX2_together_9 (by decide) (fun c1 => ?_) (fun c1 => ?_)
  · replace h := if_t h c1
    refine lv_iload_n hx hb dX2_together_29 rfl (lv_at hl 2 rfl) ?_
    exact r_iret C0 hH (Option.some.inj h) rfl dX2_together_30
  · replace h := if_f h c1
    refine lv_iload_n hx hb dX2_together_12 rfl (lv_at hl 2 rfl) ?_
    refine lv_aload_n hx hb dX2_together_13 rfl (lv_at hl 0 rfl) ?_
    refine gf_X2_27 C0 hH hk0 dX2_together_14 ?_
    refine lv_iload_n hx hb dX2_together_17 rfl (lv_at hl 1 rfl) ?_
    obtain ⟨b2, h⟩ := gdx_s h
    refine ra_13 C0 hH (kf_2_4 hk0) b2 dX2_together_18 ?_
    refine lv_iload_n hx hb dX2_together_19 rfl (lv_at hl 3 rfl) ?_
    obtain ⟨b3, h⟩ := gdx_s h
    refine r_iald C0 hH (n := 10) (ka_13 (kf_2_4 hk0) b2) b3 dX2_together_20 ?_
    refine lv_iadd hx hb dX2_together_21 ?_
    obtain ⟨x4, ex4, h⟩ := letv_s h
    refine topi_of ex4 ?_
    refine lv_istore_n (lv' := [(2, .int x4), (0, .ref (ea E k0)), (1, .int v1), (3, .int v3)]) hx hb dX2_together_22 rfl hl (by decide) rfl (fun ls hl => ?_)
    refine lv_iinc (v := v3 + 1) (lv' := [(3, .int (v3 + 1)), (2, .int x4), (0, .ref (ea E k0)), (1, .int v1)]) hx hb dX2_together_23 hl (k := 3) rfl rfl (by decide) rfl (fun ls hl => ?_)
    refine lv_goto (tgt := 4) hx hb dX2_together_26 (by decide) ?_
    exact hK4 k0 v1 x4 (v3 + 1) hk0 _ _ _ _ hH (lv_sub hl [2, 3, 1, 0] rfl) h
set_option maxRecDepth 100000 in
set_option maxHeartbeats 4000000 in
theorem w_X2_together_l4 {r : Int32} (C0 : Cx E p m c cX2_together 4 s args RX2 meth (some .int))  (n : Nat) : ∀ (k0 : Nat) (v1 : Int32) (v2 : Int32) (v3 : Int32) (hk0 : kd k0 = 2) (σ : Mem) (H : Heap) (locs : List Loc) (ls : Array Slot), Hs E s σ H locs → lv_has ls 4 [(0, .ref (ea E k0)), (1, .int v1), (2, .int v2), (3, .int v3)] → X2_together_l4 n k0 v1 v2 v3 σ = some r → W p l e (rmD 0) s m args below meth c H locs 0 0 (MQ below (QiM E r σ) args s 0 0 (eA E)) (F0 m 4 ls []) := by
  induction n with
  | zero =>
    intro k0 v1 v2 v3 hk0 σ H locs ls hH hl h
    cases h
  | succ n ih =>
    intro k0 v1 v2 v3 hk0 σ H locs ls hH hl h
    exact w_X2_together_b4 C0 (X2_together_l4 n)  ih k0 v1 v2 v3 hk0 hH hl h
set_option maxRecDepth 100000 in
set_option maxHeartbeats 4000000 in
theorem w_X2_together_b0 {r : Int32} (C0 : Cx E p m c cX2_together 4 s args RX2 meth (some .int))  (k0 : Nat) (v1 : Int32) (hk0 : kd k0 = 2) {σ : Mem} {H : Heap} {locs : List Loc} {ls : Array Slot} (hH : Hs E s σ H locs) (hl : lv_has ls 4 [(0, .ref (ea E k0)), (1, .int v1)]) (h : X2_together_b0 k0 v1 σ = some r) : W p l e (rmD 0) s m args below meth c H locs 0 0 (MQ below (QiM E r σ) args s 0 0 (eA E)) (F0 m 0 ls []) := by
  obtain ⟨⟨hx, hb, hml, hown, hts⟩, hr, hlocks, hF, hAd⟩ := id C0
  unfold X2_together_b0 at h
  refine lv_iconst (v := 0) hx hb dX2_together_0 (by decide) ?_
  refine lv_istore_n (lv' := [(2, .int 0), (0, .ref (ea E k0)), (1, .int v1)]) hx hb dX2_together_1 rfl hl (by decide) rfl (fun ls hl => ?_)
  refine lv_iconst (v := 0) hx hb dX2_together_2 (by decide) ?_
  refine lv_istore_n (lv' := [(3, .int 0), (2, .int 0), (0, .ref (ea E k0)), (1, .int v1)]) hx hb dX2_together_3 rfl hl (by decide) rfl (fun ls hl => ?_)
  exact w_X2_together_l4 C0  FU k0 v1 0 0 hk0 _ _ _ _ hH (lv_sub hl [2, 3, 1, 0] rfl) h
theorem c_X2_together {l : Launch} {E : EnvT} (hAd : Ad E) (k0 : Nat) (v1 : Int32) (hk0 : kd k0 = 2) (σ : Mem) {r : Int32} (h : X2_together k0 v1 σ = some r) : Met l yX2_together (wsM yX2_together cX2_together 4 (some .int)) (rmD 0) (PcM E [.ref (ea E k0), .int v1] σ) (QiM E r σ) 0 0 (eA E) :=
  Met.ofM (by decide) (Nat.le_of_ble_eq_true rfl) (fun p e s m below meth c ls C0 hH hl => w_X2_together_b0 C0 k0 v1 hk0 hH hl h) hAd
set_option maxRecDepth 100000 in
set_option maxHeartbeats 4000000 in
theorem w_J7_fill_53178_b5 {σ' : Mem} (C0 : Cx E p m c cJ7_fill_53178 4 s args RJ7 meth (none)) (K5 : Nat → Nat → Int32 → Int32 → Int32 → Mem → Option Mem) (hK5 : ∀ (n_k0 : Nat) (k0 : Nat) (v1 : Int32) (v2 : Int32) (v3 : Int32) (hk0 : kd k0 = 100 + n_k0) (σ : Mem) (H : Heap) (locs : List Loc) (ls : Array Slot), Hs E s σ H locs → lv_has ls 4 [(0, .ref (ea E k0)), (1, .int v1), (2, .int v2), (3, .int v3)] → K5 n_k0 k0 v1 v2 v3 σ = some σ' → W p l e (rmD 0) s m args below meth c H locs 0 0 (MQ below (QvM E σ') args s 0 0 (eA E)) (F0 m 5 ls []))  (n_k0 : Nat) (k0 : Nat) (v1 : Int32) (v2 : Int32) (v3 : Int32) (hk0 : kd k0 = 100 + n_k0) {σ : Mem} {H : Heap} {locs : List Loc} {ls : Array Slot} (hH : Hs E s σ H locs) (hl : lv_has ls 4 [(0, .ref (ea E k0)), (1, .int v1), (2, .int v2), (3, .int v3)]) (h : J7_fill_53178_b5 K5 n_k0 k0 v1 v2 v3 σ = some σ') : W p l e (rmD 0) s m args below meth c H locs 0 0 (MQ below (QvM E σ') args s 0 0 (eA E)) (F0 m 5 ls []) := by
  obtain ⟨⟨hx, hb, hml, hown, hts⟩, hr, hlocks, hF, hAd⟩ := id C0
  unfold J7_fill_53178_b5 at h
  refine lv_iload_n hx hb dJ7_fill_53178_5 rfl (lv_at hl 2 rfl) ?_
  refine lv_iload_n hx hb dJ7_fill_53178_6 rfl (lv_at hl 3 rfl) ?_
  refine lv_icmp_ge (tgt := 20) hx hb dJ7_fill_53178_7 (by decide) (fun c1 => ?_) (fun c1 => ?_)
  · replace h := if_t h c1
    exact r_vret C0 hH (Option.some.inj h) dJ7_fill_53178_20
  · replace h := if_f h c1
    refine lv_aload_n hx hb dJ7_fill_53178_10 rfl (lv_at hl 0 rfl) ?_
    refine lv_iload_n hx hb dJ7_fill_53178_11 rfl (lv_at hl 2 rfl) ?_
    refine lv_iload_n hx hb dJ7_fill_53178_12 rfl (lv_at hl 1 rfl) ?_
    obtain ⟨b2, h⟩ := gdx_s h
    refine r_iast C0 hH (n := n_k0) hk0 b2 dJ7_fill_53178_13 (fun H locs hH => ?_)
    refine lv_iinc (v := v2 + 1) (lv' := [(2, .int (v2 + 1)), (0, .ref (ea E k0)), (1, .int v1), (3, .int v3)]) hx hb dJ7_fill_53178_14 hl (k := 2) rfl rfl (by decide) rfl (fun ls hl => ?_)
    refine lv_goto (tgt := 5) hx hb dJ7_fill_53178_17 (by decide) ?_
    exact hK5 n_k0 k0 v1 (v2 + 1) v3 hk0 _ _ _ _ hH (lv_sub hl [1, 2, 0, 3] rfl) h
set_option maxRecDepth 100000 in
set_option maxHeartbeats 4000000 in
theorem w_J7_fill_53178_l5 {σ' : Mem} (C0 : Cx E p m c cJ7_fill_53178 4 s args RJ7 meth (none))  (n : Nat) : ∀ (n_k0 : Nat) (k0 : Nat) (v1 : Int32) (v2 : Int32) (v3 : Int32) (hk0 : kd k0 = 100 + n_k0) (σ : Mem) (H : Heap) (locs : List Loc) (ls : Array Slot), Hs E s σ H locs → lv_has ls 4 [(0, .ref (ea E k0)), (1, .int v1), (2, .int v2), (3, .int v3)] → J7_fill_53178_l5 n n_k0 k0 v1 v2 v3 σ = some σ' → W p l e (rmD 0) s m args below meth c H locs 0 0 (MQ below (QvM E σ') args s 0 0 (eA E)) (F0 m 5 ls []) := by
  induction n with
  | zero =>
    intro n_k0 k0 v1 v2 v3 hk0 σ H locs ls hH hl h
    cases h
  | succ n ih =>
    intro n_k0 k0 v1 v2 v3 hk0 σ H locs ls hH hl h
    exact w_J7_fill_53178_b5 C0 (J7_fill_53178_l5 n)  ih n_k0 k0 v1 v2 v3 hk0 hH hl h
set_option maxRecDepth 100000 in
set_option maxHeartbeats 4000000 in
theorem w_J7_fill_53178_b0 {σ' : Mem} (C0 : Cx E p m c cJ7_fill_53178 4 s args RJ7 meth (none))  (n_k0 : Nat) (k0 : Nat) (v1 : Int32) (hk0 : kd k0 = 100 + n_k0) {σ : Mem} {H : Heap} {locs : List Loc} {ls : Array Slot} (hH : Hs E s σ H locs) (hl : lv_has ls 4 [(0, .ref (ea E k0)), (1, .int v1)]) (h : J7_fill_53178_b0 n_k0 k0 v1 σ = some σ') : W p l e (rmD 0) s m args below meth c H locs 0 0 (MQ below (QvM E σ') args s 0 0 (eA E)) (F0 m 0 ls []) := by
  obtain ⟨⟨hx, hb, hml, hown, hts⟩, hr, hlocks, hF, hAd⟩ := id C0
  unfold J7_fill_53178_b0 at h
  refine lv_iconst (v := 0) hx hb dJ7_fill_53178_0 (by decide) ?_
  refine lv_istore_n (lv' := [(2, .int 0), (0, .ref (ea E k0)), (1, .int v1)]) hx hb dJ7_fill_53178_1 rfl hl (by decide) rfl (fun ls hl => ?_)
  refine lv_aload_n hx hb dJ7_fill_53178_2 rfl (lv_at hl 1 rfl) ?_
  refine r_alen C0 hH (n := n_k0) hk0 dJ7_fill_53178_3 ?_
  obtain ⟨x1, ex1, h⟩ := letv_s h
  refine topi_of ex1 ?_
  refine lv_istore_n (lv' := [(3, .int x1), (2, .int 0), (0, .ref (ea E k0)), (1, .int v1)]) hx hb dJ7_fill_53178_4 rfl hl (by decide) rfl (fun ls hl => ?_)
  exact w_J7_fill_53178_l5 C0  FU n_k0 k0 v1 0 x1 hk0 _ _ _ _ hH (lv_sub hl [2, 3, 1, 0] rfl) h
theorem c_J7_fill_53178 {l : Launch} {E : EnvT} (hAd : Ad E) (n_k0 : Nat) (k0 : Nat) (v1 : Int32) (hk0 : kd k0 = 100 + n_k0) (σ : Mem) {σ' : Mem} (h : J7_fill_53178 n_k0 k0 v1 σ = some σ') : Met l yJ7_fill_53178 (wsM yJ7_fill_53178 cJ7_fill_53178 4 (none)) (rmD 0) (PcM E [.ref (ea E k0), .int v1] σ) (QvM E σ') 0 0 (eA E) :=
  Met.ofM (by decide) (Nat.le_of_ble_eq_true rfl) (fun p e s m below meth c ls C0 hH hl => w_J7_fill_53178_b0 C0 n_k0 k0 v1 hk0 hH hl h) hAd
set_option maxRecDepth 100000 in
set_option maxHeartbeats 4000000 in
theorem w_J6_bitCount_0f7a4_b0 {r : Int32} (C0 : Cx E p m c cJ6_bitCount_0f7a4 1 s args RJ6 meth (some .int))  (v0 : Int32)  {σ : Mem} {H : Heap} {locs : List Loc} {ls : Array Slot} (hH : Hs E s σ H locs) (hl : lv_has ls 1 [(0, .int v0)]) (h : J6_bitCount_0f7a4_b0 v0 = r) : W p l e (rmD 0) s m args below meth c H locs 0 0 (MQ below (QiM E r σ) args s 0 0 (eA E)) (F0 m 0 ls []) := by
  obtain ⟨⟨hx, hb, hml, hown, hts⟩, hr, hlocks, hF, hAd⟩ := id C0
  unfold J6_bitCount_0f7a4_b0 at h
  refine lv_iload_n hx hb dJ6_bitCount_0f7a4_0 rfl (lv_at hl 0 rfl) ?_
  refine lv_iload_n hx hb dJ6_bitCount_0f7a4_1 rfl (lv_at hl 0 rfl) ?_
  refine lv_iconst (v := 1) hx hb dJ6_bitCount_0f7a4_2 (by decide) ?_
  refine lv_iushr (v := ushr v0 1) hx hb dJ6_bitCount_0f7a4_3 rfl ?_
  refine lv_ldcw hx hb hown (hts _ qK_J6_265) dJ6_bitCount_0f7a4_4 ?_
  refine lv_iand hx hb dJ6_bitCount_0f7a4_7 ?_
  refine lv_isub hx hb dJ6_bitCount_0f7a4_8 ?_
  obtain ⟨x1, ex1, h⟩ := letv_s h
  refine topi_of ex1 ?_
  refine lv_istore_n (lv' := [(0, .int x1)]) hx hb dJ6_bitCount_0f7a4_9 rfl hl (by decide) rfl (fun ls hl => ?_)
  refine lv_iload_n hx hb dJ6_bitCount_0f7a4_10 rfl (lv_at hl 0 rfl) ?_
  refine lv_ldcw hx hb hown (hts _ qK_J6_266) dJ6_bitCount_0f7a4_11 ?_
  refine lv_iand hx hb dJ6_bitCount_0f7a4_14 ?_
  refine lv_iload_n hx hb dJ6_bitCount_0f7a4_15 rfl (lv_at hl 0 rfl) ?_
  refine lv_iconst (v := 2) hx hb dJ6_bitCount_0f7a4_16 (by decide) ?_
  refine lv_iushr (v := ushr x1 2) hx hb dJ6_bitCount_0f7a4_17 rfl ?_
  refine lv_ldcw hx hb hown (hts _ qK_J6_266) dJ6_bitCount_0f7a4_18 ?_
  refine lv_iand hx hb dJ6_bitCount_0f7a4_21 ?_
  refine lv_iadd hx hb dJ6_bitCount_0f7a4_22 ?_
  obtain ⟨x2, ex2, h⟩ := letv_s h
  refine topi_of ex2 ?_
  refine lv_istore_n (lv' := [(0, .int x2)]) hx hb dJ6_bitCount_0f7a4_23 rfl hl (by decide) rfl (fun ls hl => ?_)
  refine lv_iload_n hx hb dJ6_bitCount_0f7a4_24 rfl (lv_at hl 0 rfl) ?_
  refine lv_iload_n hx hb dJ6_bitCount_0f7a4_25 rfl (lv_at hl 0 rfl) ?_
  refine lv_iconst (v := 4) hx hb dJ6_bitCount_0f7a4_26 (by decide) ?_
  refine lv_iushr (v := ushr x2 4) hx hb dJ6_bitCount_0f7a4_27 rfl ?_
  refine lv_iadd hx hb dJ6_bitCount_0f7a4_28 ?_
  refine lv_ldcw hx hb hown (hts _ qK_J6_267) dJ6_bitCount_0f7a4_29 ?_
  refine lv_iand hx hb dJ6_bitCount_0f7a4_32 ?_
  obtain ⟨x3, ex3, h⟩ := letv_s h
  refine topi_of ex3 ?_
  refine lv_istore_n (lv' := [(0, .int x3)]) hx hb dJ6_bitCount_0f7a4_33 rfl hl (by decide) rfl (fun ls hl => ?_)
  refine lv_iload_n hx hb dJ6_bitCount_0f7a4_34 rfl (lv_at hl 0 rfl) ?_
  refine lv_iload_n hx hb dJ6_bitCount_0f7a4_35 rfl (lv_at hl 0 rfl) ?_
  refine lv_bipush (v := 8) hx hb dJ6_bitCount_0f7a4_36 (by decide) ?_
  refine lv_iushr (v := ushr x3 8) hx hb dJ6_bitCount_0f7a4_38 rfl ?_
  refine lv_iadd hx hb dJ6_bitCount_0f7a4_39 ?_
  obtain ⟨x4, ex4, h⟩ := letv_s h
  refine topi_of ex4 ?_
  refine lv_istore_n (lv' := [(0, .int x4)]) hx hb dJ6_bitCount_0f7a4_40 rfl hl (by decide) rfl (fun ls hl => ?_)
  refine lv_iload_n hx hb dJ6_bitCount_0f7a4_41 rfl (lv_at hl 0 rfl) ?_
  refine lv_iload_n hx hb dJ6_bitCount_0f7a4_42 rfl (lv_at hl 0 rfl) ?_
  refine lv_bipush (v := 16) hx hb dJ6_bitCount_0f7a4_43 (by decide) ?_
  refine lv_iushr (v := ushr x4 16) hx hb dJ6_bitCount_0f7a4_45 rfl ?_
  refine lv_iadd hx hb dJ6_bitCount_0f7a4_46 ?_
  obtain ⟨x5, ex5, h⟩ := letv_s h
  refine topi_of ex5 ?_
  refine lv_istore_n (lv' := [(0, .int x5)]) hx hb dJ6_bitCount_0f7a4_47 rfl hl (by decide) rfl (fun ls hl => ?_)
  refine lv_iload_n hx hb dJ6_bitCount_0f7a4_48 rfl (lv_at hl 0 rfl) ?_
  refine lv_bipush (v := 63) hx hb dJ6_bitCount_0f7a4_49 (by decide) ?_
  refine lv_iand hx hb dJ6_bitCount_0f7a4_51 ?_
  exact r_iret C0 hH h rfl dJ6_bitCount_0f7a4_52
theorem c_J6_bitCount_0f7a4 {l : Launch} {E : EnvT} (hAd : Ad E) (v0 : Int32)  (σ : Mem) {r : Int32} (h : J6_bitCount_0f7a4 v0 = r) : Met l yJ6_bitCount_0f7a4 (wsM yJ6_bitCount_0f7a4 cJ6_bitCount_0f7a4 1 (some .int)) (rmD 0) (PcM E [.int v0] σ) (QiM E r σ) 0 0 (eA E) :=
  Met.ofM (by decide) (Nat.le_of_ble_eq_true rfl) (fun p e s m below meth c ls C0 hH hl => w_J6_bitCount_0f7a4_b0 C0 v0  hH hl h) hAd
set_option maxRecDepth 100000 in
set_option maxHeartbeats 4000000 in
theorem w_J6_numberOfTrailingZeros_0f7a4_b74 {r : Int32} (C0 : Cx E p m c cJ6_numberOfTrailingZeros_0f7a4 2 s args RJ6 meth (some .int))  (v0 : Int32) (v1 : Int32)  {σ : Mem} {H : Heap} {locs : List Loc} {ls : Array Slot} (hH : Hs E s σ H locs) (hl : lv_has ls 2 [(0, .int v0), (1, .int v1)]) (h : J6_numberOfTrailingZeros_0f7a4_b74 v0 v1 = r) : W p l e (rmD 0) s m args below meth c H locs 0 0 (MQ below (QiM E r σ) args s 0 0 (eA E)) (F0 m 74 ls []) := by
  obtain ⟨⟨hx, hb, hml, hown, hts⟩, hr, hlocks, hF, hAd⟩ := id C0
  unfold J6_numberOfTrailingZeros_0f7a4_b74 at h
  refine lv_iload_n hx hb dJ6_numberOfTrailingZeros_0f7a4_74 rfl (lv_at hl 1 rfl) ?_
  refine lv_iload_n hx hb dJ6_numberOfTrailingZeros_0f7a4_75 rfl (lv_at hl 0 rfl) ?_
  refine lv_iconst (v := 1) hx hb dJ6_numberOfTrailingZeros_0f7a4_76 (by decide) ?_
  refine lv_iushr (v := ushr v0 1) hx hb dJ6_numberOfTrailingZeros_0f7a4_77 rfl ?_
  refine lv_iadd hx hb dJ6_numberOfTrailingZeros_0f7a4_78 ?_
  exact r_iret C0 hH h rfl dJ6_numberOfTrailingZeros_0f7a4_79
set_option maxRecDepth 100000 in
set_option maxHeartbeats 4000000 in
theorem w_J6_numberOfTrailingZeros_0f7a4_b62 {r : Int32} (C0 : Cx E p m c cJ6_numberOfTrailingZeros_0f7a4 2 s args RJ6 meth (some .int))  (v0 : Int32) (v1 : Int32)  {σ : Mem} {H : Heap} {locs : List Loc} {ls : Array Slot} (hH : Hs E s σ H locs) (hl : lv_has ls 2 [(0, .int v0), (1, .int v1)]) (h : J6_numberOfTrailingZeros_0f7a4_b62 v0 v1 = r) : W p l e (rmD 0) s m args below meth c H locs 0 0 (MQ below (QiM E r σ) args s 0 0 (eA E)) (F0 m 62 ls []) := by
  obtain ⟨⟨hx, hb, hml, hown, hts⟩, hr, hlocks, hF, hAd⟩ := id C0
  unfold J6_numberOfTrailingZeros_0f7a4_b62 at h
  refine lv_iload_n hx hb dJ6_numberOfTrailingZeros_0f7a4_62 rfl (lv_at hl 0 rfl) ?_
  refine lv_iconst (v := 4) hx hb dJ6_numberOfTrailingZeros_0f7a4_63 (by decide) ?_
  refine lv_icmp_le (tgt := 74) hx hb dJ6_numberOfTrailingZeros_0f7a4_64 (by decide) (fun c1 => ?_) (fun c1 => ?_)
  · replace h := if_t h c1
    exact w_J6_numberOfTrailingZeros_0f7a4_b74 C0  v0 v1  hH (lv_sub hl [0, 1] rfl) h
  · replace h := if_f h c1
    refine lv_iinc (v := v1 + 2) (lv' := [(1, .int (v1 + 2)), (0, .int v0)]) hx hb dJ6_numberOfTrailingZeros_0f7a4_67 hl (k := 1) rfl rfl (by decide) rfl (fun ls hl => ?_)
    refine lv_iload_n hx hb dJ6_numberOfTrailingZeros_0f7a4_70 rfl (lv_at hl 1 rfl) ?_
    refine lv_iconst (v := 2) hx hb dJ6_numberOfTrailingZeros_0f7a4_71 (by decide) ?_
    refine lv_iushr (v := ushr v0 2) hx hb dJ6_numberOfTrailingZeros_0f7a4_72 rfl ?_
    obtain ⟨x2, ex2, h⟩ := letv_s h
    refine topi_of ex2 ?_
    refine lv_istore_n (lv' := [(0, .int x2), (1, .int (v1 + 2))]) hx hb dJ6_numberOfTrailingZeros_0f7a4_73 rfl hl (by decide) rfl (fun ls hl => ?_)
    exact w_J6_numberOfTrailingZeros_0f7a4_b74 C0  x2 (v1 + 2)  hH (lv_sub hl [0, 1] rfl) h
set_option maxRecDepth 100000 in
set_option maxHeartbeats 4000000 in
theorem w_J6_numberOfTrailingZeros_0f7a4_b49 {r : Int32} (C0 : Cx E p m c cJ6_numberOfTrailingZeros_0f7a4 2 s args RJ6 meth (some .int))  (v0 : Int32) (v1 : Int32)  {σ : Mem} {H : Heap} {locs : List Loc} {ls : Array Slot} (hH : Hs E s σ H locs) (hl : lv_has ls 2 [(0, .int v0), (1, .int v1)]) (h : J6_numberOfTrailingZeros_0f7a4_b49 v0 v1 = r) : W p l e (rmD 0) s m args below meth c H locs 0 0 (MQ below (QiM E r σ) args s 0 0 (eA E)) (F0 m 49 ls []) := by
  obtain ⟨⟨hx, hb, hml, hown, hts⟩, hr, hlocks, hF, hAd⟩ := id C0
  unfold J6_numberOfTrailingZeros_0f7a4_b49 at h
  refine lv_iload_n hx hb dJ6_numberOfTrailingZeros_0f7a4_49 rfl (lv_at hl 0 rfl) ?_
  refine lv_bipush (v := 16) hx hb dJ6_numberOfTrailingZeros_0f7a4_50 (by decide) ?_
  refine lv_icmp_le (tgt := 62) hx hb dJ6_numberOfTrailingZeros_0f7a4_52 (by decide) (fun c1 => ?_) (fun c1 => ?_)
  · replace h := if_t h c1
    exact w_J6_numberOfTrailingZeros_0f7a4_b62 C0  v0 v1  hH (lv_sub hl [0, 1] rfl) h
  · replace h := if_f h c1
    refine lv_iinc (v := v1 + 4) (lv' := [(1, .int (v1 + 4)), (0, .int v0)]) hx hb dJ6_numberOfTrailingZeros_0f7a4_55 hl (k := 1) rfl rfl (by decide) rfl (fun ls hl => ?_)
    refine lv_iload_n hx hb dJ6_numberOfTrailingZeros_0f7a4_58 rfl (lv_at hl 1 rfl) ?_
    refine lv_iconst (v := 4) hx hb dJ6_numberOfTrailingZeros_0f7a4_59 (by decide) ?_
    refine lv_iushr (v := ushr v0 4) hx hb dJ6_numberOfTrailingZeros_0f7a4_60 rfl ?_
    obtain ⟨x2, ex2, h⟩ := letv_s h
    refine topi_of ex2 ?_
    refine lv_istore_n (lv' := [(0, .int x2), (1, .int (v1 + 4))]) hx hb dJ6_numberOfTrailingZeros_0f7a4_61 rfl hl (by decide) rfl (fun ls hl => ?_)
    exact w_J6_numberOfTrailingZeros_0f7a4_b62 C0  x2 (v1 + 4)  hH (lv_sub hl [0, 1] rfl) h
set_option maxRecDepth 100000 in
set_option maxHeartbeats 4000000 in
theorem w_J6_numberOfTrailingZeros_0f7a4_b34 {r : Int32} (C0 : Cx E p m c cJ6_numberOfTrailingZeros_0f7a4 2 s args RJ6 meth (some .int))  (v0 : Int32) (v1 : Int32)  {σ : Mem} {H : Heap} {locs : List Loc} {ls : Array Slot} (hH : Hs E s σ H locs) (hl : lv_has ls 2 [(0, .int v0), (1, .int v1)]) (h : J6_numberOfTrailingZeros_0f7a4_b34 v0 v1 = r) : W p l e (rmD 0) s m args below meth c H locs 0 0 (MQ below (QiM E r σ) args s 0 0 (eA E)) (F0 m 34 ls []) := by
  obtain ⟨⟨hx, hb, hml, hown, hts⟩, hr, hlocks, hF, hAd⟩ := id C0
  unfold J6_numberOfTrailingZeros_0f7a4_b34 at h
  refine lv_iload_n hx hb dJ6_numberOfTrailingZeros_0f7a4_34 rfl (lv_at hl 0 rfl) ?_
  refine lv_sipush (v := 256) hx hb dJ6_numberOfTrailingZeros_0f7a4_35 (by decide) ?_
  refine lv_icmp_le (tgt := 49) hx hb dJ6_numberOfTrailingZeros_0f7a4_38 (by decide) (fun c1 => ?_) (fun c1 => ?_)
  · replace h := if_t h c1
    exact w_J6_numberOfTrailingZeros_0f7a4_b49 C0  v0 v1  hH (lv_sub hl [0, 1] rfl) h
  · replace h := if_f h c1
    refine lv_iinc (v := v1 + 8) (lv' := [(1, .int (v1 + 8)), (0, .int v0)]) hx hb dJ6_numberOfTrailingZeros_0f7a4_41 hl (k := 1) rfl rfl (by decide) rfl (fun ls hl => ?_)
    refine lv_iload_n hx hb dJ6_numberOfTrailingZeros_0f7a4_44 rfl (lv_at hl 1 rfl) ?_
    refine lv_bipush (v := 8) hx hb dJ6_numberOfTrailingZeros_0f7a4_45 (by decide) ?_
    refine lv_iushr (v := ushr v0 8) hx hb dJ6_numberOfTrailingZeros_0f7a4_47 rfl ?_
    obtain ⟨x2, ex2, h⟩ := letv_s h
    refine topi_of ex2 ?_
    refine lv_istore_n (lv' := [(0, .int x2), (1, .int (v1 + 8))]) hx hb dJ6_numberOfTrailingZeros_0f7a4_48 rfl hl (by decide) rfl (fun ls hl => ?_)
    exact w_J6_numberOfTrailingZeros_0f7a4_b49 C0  x2 (v1 + 8)  hH (lv_sub hl [0, 1] rfl) h
set_option maxRecDepth 100000 in
set_option maxHeartbeats 4000000 in
theorem w_J6_numberOfTrailingZeros_0f7a4_b0 {r : Int32} (C0 : Cx E p m c cJ6_numberOfTrailingZeros_0f7a4 2 s args RJ6 meth (some .int))  (v0 : Int32)  {σ : Mem} {H : Heap} {locs : List Loc} {ls : Array Slot} (hH : Hs E s σ H locs) (hl : lv_has ls 2 [(0, .int v0)]) (h : J6_numberOfTrailingZeros_0f7a4_b0 v0 = r) : W p l e (rmD 0) s m args below meth c H locs 0 0 (MQ below (QiM E r σ) args s 0 0 (eA E)) (F0 m 0 ls []) := by
  obtain ⟨⟨hx, hb, hml, hown, hts⟩, hr, hlocks, hF, hAd⟩ := id C0
  unfold J6_numberOfTrailingZeros_0f7a4_b0 at h
  refine lv_iload_n hx hb dJ6_numberOfTrailingZeros_0f7a4_0 rfl (lv_at hl 0 rfl) ?_
  refine lv_iconst (v := (-1)) hx hb dJ6_numberOfTrailingZeros_0f7a4_1 (by decide) ?_
  refine lv_ixor hx hb dJ6_numberOfTrailingZeros_0f7a4_2 ?_
  refine lv_iload_n hx hb dJ6_numberOfTrailingZeros_0f7a4_3 rfl (lv_at hl 0 rfl) ?_
  refine lv_iconst (v := 1) hx hb dJ6_numberOfTrailingZeros_0f7a4_4 (by decide) ?_
  refine lv_isub hx hb dJ6_numberOfTrailingZeros_0f7a4_5 ?_
  refine lv_iand hx hb dJ6_numberOfTrailingZeros_0f7a4_6 ?_
  obtain ⟨x1, ex1, h⟩ := letv_s h
  refine topi_of ex1 ?_
  refine lv_istore_n (lv' := [(0, .int x1)]) hx hb dJ6_numberOfTrailingZeros_0f7a4_7 rfl hl (by decide) rfl (fun ls hl => ?_)
  refine lv_iload_n hx hb dJ6_numberOfTrailingZeros_0f7a4_8 rfl (lv_at hl 0 rfl) ?_
  refine lv_if_gt (tgt := 17) hx hb dJ6_numberOfTrailingZeros_0f7a4_9 (by decide) (fun c2 => ?_) (fun c2 => ?_)
  · replace h := if_t h c2
    refine lv_iconst (v := 1) hx hb dJ6_numberOfTrailingZeros_0f7a4_17 (by decide) ?_
    refine lv_istore_n (lv' := [(1, .int 1), (0, .int x1)]) hx hb dJ6_numberOfTrailingZeros_0f7a4_18 rfl hl (by decide) rfl (fun ls hl => ?_)
    refine lv_iload_n hx hb dJ6_numberOfTrailingZeros_0f7a4_19 rfl (lv_at hl 1 rfl) ?_
    refine lv_ldcw hx hb hown (hts _ qK_J6_264) dJ6_numberOfTrailingZeros_0f7a4_20 ?_
    refine lv_icmp_le (tgt := 34) hx hb dJ6_numberOfTrailingZeros_0f7a4_23 (by decide) (fun c3 => ?_) (fun c3 => ?_)
    · replace h := if_t h c3
      exact w_J6_numberOfTrailingZeros_0f7a4_b34 C0  x1 1  hH (lv_sub hl [1, 0] rfl) h
    · replace h := if_f h c3
      refine lv_iinc (v := 1 + 16) (lv' := [(1, .int (1 + 16)), (0, .int x1)]) hx hb dJ6_numberOfTrailingZeros_0f7a4_26 hl (k := 0) rfl rfl (by decide) rfl (fun ls hl => ?_)
      refine lv_iload_n hx hb dJ6_numberOfTrailingZeros_0f7a4_29 rfl (lv_at hl 1 rfl) ?_
      refine lv_bipush (v := 16) hx hb dJ6_numberOfTrailingZeros_0f7a4_30 (by decide) ?_
      refine lv_iushr (v := ushr x1 16) hx hb dJ6_numberOfTrailingZeros_0f7a4_32 rfl ?_
      obtain ⟨x4, ex4, h⟩ := letv_s h
      refine topi_of ex4 ?_
      refine lv_istore_n (lv' := [(0, .int x4), (1, .int (1 + 16))]) hx hb dJ6_numberOfTrailingZeros_0f7a4_33 rfl hl (by decide) rfl (fun ls hl => ?_)
      exact w_J6_numberOfTrailingZeros_0f7a4_b34 C0  x4 (1 + 16)  hH (lv_sub hl [0, 1] rfl) h
  · replace h := if_f h c2
    refine lv_iload_n hx hb dJ6_numberOfTrailingZeros_0f7a4_12 rfl (lv_at hl 0 rfl) ?_
    refine lv_bipush (v := 32) hx hb dJ6_numberOfTrailingZeros_0f7a4_13 (by decide) ?_
    refine lv_iand hx hb dJ6_numberOfTrailingZeros_0f7a4_15 ?_
    exact r_iret C0 hH h rfl dJ6_numberOfTrailingZeros_0f7a4_16
theorem c_J6_numberOfTrailingZeros_0f7a4 {l : Launch} {E : EnvT} (hAd : Ad E) (v0 : Int32)  (σ : Mem) {r : Int32} (h : J6_numberOfTrailingZeros_0f7a4 v0 = r) : Met l yJ6_numberOfTrailingZeros_0f7a4 (wsM yJ6_numberOfTrailingZeros_0f7a4 cJ6_numberOfTrailingZeros_0f7a4 2 (some .int)) (rmD 0) (PcM E [.int v0] σ) (QiM E r σ) 0 0 (eA E) :=
  Met.ofM (by decide) (Nat.le_of_ble_eq_true rfl) (fun p e s m below meth c ls C0 hH hl => w_J6_numberOfTrailingZeros_0f7a4_b0 C0 v0  hH hl h) hAd
set_option maxRecDepth 100000 in
set_option maxHeartbeats 4000000 in
theorem w_J13_bitCount_95d88_b0 {r : Int32} (C0 : Cx E p m c cJ13_bitCount_95d88 2 s args RJ13 meth (some .int))  (v0 : Int64)  {σ : Mem} {H : Heap} {locs : List Loc} {ls : Array Slot} (hH : Hs E s σ H locs) (hl : lv_has ls 2 [(0, .long v0)]) (h : J13_bitCount_95d88_b0 v0 = r) : W p l e (rmD 0) s m args below meth c H locs 0 0 (MQ below (QiM E r σ) args s 0 0 (eA E)) (F0 m 0 ls []) := by
  obtain ⟨⟨hx, hb, hml, hown, hts⟩, hr, hlocks, hF, hAd⟩ := id C0
  unfold J13_bitCount_95d88_b0 at h
  refine lv_lload_n hx hb dJ13_bitCount_95d88_0 rfl (lv_at hl 0 rfl) ?_
  refine lv_lload_n hx hb dJ13_bitCount_95d88_1 rfl (lv_at hl 0 rfl) ?_
  refine lv_iconst (v := 1) hx hb dJ13_bitCount_95d88_2 (by decide) ?_
  refine lv_lushr (v := lushr v0 1) hx hb dJ13_bitCount_95d88_3 rfl ?_
  refine lv_ldc2 hx hb hown (hts _ qL_J13_314) dJ13_bitCount_95d88_4 ?_
  refine lv_land hx hb dJ13_bitCount_95d88_7 ?_
  refine lv_lsub hx hb dJ13_bitCount_95d88_8 ?_
  obtain ⟨x1, ex1, h⟩ := letv_s h
  refine topl_of ex1 ?_
  refine lv_lstore_n (lv' := [(0, .long x1)]) hx hb dJ13_bitCount_95d88_9 rfl hl (by decide) rfl (fun ls hl => ?_)
  refine lv_lload_n hx hb dJ13_bitCount_95d88_10 rfl (lv_at hl 0 rfl) ?_
  refine lv_ldc2 hx hb hown (hts _ qL_J13_316) dJ13_bitCount_95d88_11 ?_
  refine lv_land hx hb dJ13_bitCount_95d88_14 ?_
  refine lv_lload_n hx hb dJ13_bitCount_95d88_15 rfl (lv_at hl 0 rfl) ?_
  refine lv_iconst (v := 2) hx hb dJ13_bitCount_95d88_16 (by decide) ?_
  refine lv_lushr (v := lushr x1 2) hx hb dJ13_bitCount_95d88_17 rfl ?_
  refine lv_ldc2 hx hb hown (hts _ qL_J13_316) dJ13_bitCount_95d88_18 ?_
  refine lv_land hx hb dJ13_bitCount_95d88_21 ?_
  refine lv_ladd hx hb dJ13_bitCount_95d88_22 ?_
  obtain ⟨x2, ex2, h⟩ := letv_s h
  refine topl_of ex2 ?_
  refine lv_lstore_n (lv' := [(0, .long x2)]) hx hb dJ13_bitCount_95d88_23 rfl hl (by decide) rfl (fun ls hl => ?_)
  refine lv_lload_n hx hb dJ13_bitCount_95d88_24 rfl (lv_at hl 0 rfl) ?_
  refine lv_lload_n hx hb dJ13_bitCount_95d88_25 rfl (lv_at hl 0 rfl) ?_
  refine lv_iconst (v := 4) hx hb dJ13_bitCount_95d88_26 (by decide) ?_
  refine lv_lushr (v := lushr x2 4) hx hb dJ13_bitCount_95d88_27 rfl ?_
  refine lv_ladd hx hb dJ13_bitCount_95d88_28 ?_
  refine lv_ldc2 hx hb hown (hts _ qL_J13_318) dJ13_bitCount_95d88_29 ?_
  refine lv_land hx hb dJ13_bitCount_95d88_32 ?_
  obtain ⟨x3, ex3, h⟩ := letv_s h
  refine topl_of ex3 ?_
  refine lv_lstore_n (lv' := [(0, .long x3)]) hx hb dJ13_bitCount_95d88_33 rfl hl (by decide) rfl (fun ls hl => ?_)
  refine lv_lload_n hx hb dJ13_bitCount_95d88_34 rfl (lv_at hl 0 rfl) ?_
  refine lv_lload_n hx hb dJ13_bitCount_95d88_35 rfl (lv_at hl 0 rfl) ?_
  refine lv_bipush (v := 8) hx hb dJ13_bitCount_95d88_36 (by decide) ?_
  refine lv_lushr (v := lushr x3 8) hx hb dJ13_bitCount_95d88_38 rfl ?_
  refine lv_ladd hx hb dJ13_bitCount_95d88_39 ?_
  obtain ⟨x4, ex4, h⟩ := letv_s h
  refine topl_of ex4 ?_
  refine lv_lstore_n (lv' := [(0, .long x4)]) hx hb dJ13_bitCount_95d88_40 rfl hl (by decide) rfl (fun ls hl => ?_)
  refine lv_lload_n hx hb dJ13_bitCount_95d88_41 rfl (lv_at hl 0 rfl) ?_
  refine lv_lload_n hx hb dJ13_bitCount_95d88_42 rfl (lv_at hl 0 rfl) ?_
  refine lv_bipush (v := 16) hx hb dJ13_bitCount_95d88_43 (by decide) ?_
  refine lv_lushr (v := lushr x4 16) hx hb dJ13_bitCount_95d88_45 rfl ?_
  refine lv_ladd hx hb dJ13_bitCount_95d88_46 ?_
  obtain ⟨x5, ex5, h⟩ := letv_s h
  refine topl_of ex5 ?_
  refine lv_lstore_n (lv' := [(0, .long x5)]) hx hb dJ13_bitCount_95d88_47 rfl hl (by decide) rfl (fun ls hl => ?_)
  refine lv_lload_n hx hb dJ13_bitCount_95d88_48 rfl (lv_at hl 0 rfl) ?_
  refine lv_lload_n hx hb dJ13_bitCount_95d88_49 rfl (lv_at hl 0 rfl) ?_
  refine lv_bipush (v := 32) hx hb dJ13_bitCount_95d88_50 (by decide) ?_
  refine lv_lushr (v := lushr x5 32) hx hb dJ13_bitCount_95d88_52 rfl ?_
  refine lv_ladd hx hb dJ13_bitCount_95d88_53 ?_
  obtain ⟨x6, ex6, h⟩ := letv_s h
  refine topl_of ex6 ?_
  refine lv_lstore_n (lv' := [(0, .long x6)]) hx hb dJ13_bitCount_95d88_54 rfl hl (by decide) rfl (fun ls hl => ?_)
  refine lv_lload_n hx hb dJ13_bitCount_95d88_55 rfl (lv_at hl 0 rfl) ?_
  refine lv_l2i (v := Int64.toInt32 x6) hx hb dJ13_bitCount_95d88_56 rfl ?_
  refine lv_bipush (v := 127) hx hb dJ13_bitCount_95d88_57 (by decide) ?_
  refine lv_iand hx hb dJ13_bitCount_95d88_59 ?_
  exact r_iret C0 hH h rfl dJ13_bitCount_95d88_60
theorem c_J13_bitCount_95d88 {l : Launch} {E : EnvT} (hAd : Ad E) (v0 : Int64)  (σ : Mem) {r : Int32} (h : J13_bitCount_95d88 v0 = r) : Met l yJ13_bitCount_95d88 (wsM yJ13_bitCount_95d88 cJ13_bitCount_95d88 2 (some .int)) (rmD 0) (PcM E [.long v0] σ) (QiM E r σ) 0 0 (eA E) :=
  Met.ofM (by decide) (Nat.le_of_ble_eq_true rfl) (fun p e s m below meth c ls C0 hH hl => w_J13_bitCount_95d88_b0 C0 v0  hH hl h) hAd
set_option maxRecDepth 100000 in
set_option maxHeartbeats 4000000 in
theorem w_J13_numberOfTrailingZeros_95d88_b0 {r : Int32} (C0 : Cx E p m c cJ13_numberOfTrailingZeros_95d88 3 s args RJ13 meth (some .int))  (v0 : Int64)  {σ : Mem} {H : Heap} {locs : List Loc} {ls : Array Slot} (hH : Hs E s σ H locs) (hl : lv_has ls 3 [(0, .long v0)]) (h : J13_numberOfTrailingZeros_95d88_b0 v0 = r) : W p l e (rmD 1) s m args below meth c H locs 0 0 (MQ below (QiM E r σ) args s 0 0 (eA E)) (F0 m 0 ls []) := by
  obtain ⟨⟨hx, hb, hml, hown, hts⟩, hr, hlocks, hF, hAd⟩ := id C0
  unfold J13_numberOfTrailingZeros_95d88_b0 at h
  refine lv_lload_n hx hb dJ13_numberOfTrailingZeros_95d88_0 rfl (lv_at hl 0 rfl) ?_
  refine lv_l2i (v := Int64.toInt32 v0) hx hb dJ13_numberOfTrailingZeros_95d88_1 rfl ?_
  obtain ⟨x1, ex1, h⟩ := letv_s h
  refine topi_of ex1 ?_
  refine lv_istore_n (lv' := [(2, .int x1), (0, .long v0)]) hx hb dJ13_numberOfTrailingZeros_95d88_2 rfl hl (by decide) rfl (fun ls hl => ?_)
  refine lv_iload_n hx hb dJ13_numberOfTrailingZeros_95d88_3 rfl (lv_at hl 0 rfl) ?_
  refine lv_if_ne (tgt := 21) hx hb dJ13_numberOfTrailingZeros_95d88_4 (by decide) (fun c2 => ?_) (fun c2 => ?_)
  · replace h := if_f h c2
    refine lv_iload_n hx hb dJ13_numberOfTrailingZeros_95d88_21 rfl (lv_at hl 0 rfl) ?_
    refine go_i hH (va_run_S (As := [.int x1]) (rest := []) C0 hH lk_J13_311 (c_J6_numberOfTrailingZeros_0f7a4 hAd x1  σ rfl) (by decide) rfl hl.1 rfl (Nat.le_of_ble_eq_true rfl) dJ13_numberOfTrailingZeros_95d88_22) (fun H locs hH => ?_)
    exact r_iret C0 hH h rfl dJ13_numberOfTrailingZeros_95d88_25
  · replace h := if_t h c2
    refine lv_bipush (v := 32) hx hb dJ13_numberOfTrailingZeros_95d88_7 (by decide) ?_
    refine lv_lload_n hx hb dJ13_numberOfTrailingZeros_95d88_9 rfl (lv_at hl 1 rfl) ?_
    refine lv_bipush (v := 32) hx hb dJ13_numberOfTrailingZeros_95d88_10 (by decide) ?_
    refine lv_lushr (v := lushr v0 32) hx hb dJ13_numberOfTrailingZeros_95d88_12 rfl ?_
    refine lv_l2i (v := Int64.toInt32 (lushr v0 32)) hx hb dJ13_numberOfTrailingZeros_95d88_13 rfl ?_
    refine go_i hH (va_run_S (As := [.int (Int64.toInt32 (lushr v0 32))]) (rest := [.int 32]) C0 hH lk_J13_311 (c_J6_numberOfTrailingZeros_0f7a4 hAd (Int64.toInt32 (lushr v0 32))  σ rfl) (by decide) rfl hl.1 rfl (Nat.le_of_ble_eq_true rfl) dJ13_numberOfTrailingZeros_95d88_14) (fun H locs hH => ?_)
    refine lv_iadd hx hb dJ13_numberOfTrailingZeros_95d88_17 ?_
    refine lv_goto (tgt := 25) hx hb dJ13_numberOfTrailingZeros_95d88_18 (by decide) ?_
    exact r_iret C0 hH h rfl dJ13_numberOfTrailingZeros_95d88_25
theorem c_J13_numberOfTrailingZeros_95d88 {l : Launch} {E : EnvT} (hAd : Ad E) (v0 : Int64)  (σ : Mem) {r : Int32} (h : J13_numberOfTrailingZeros_95d88 v0 = r) : Met l yJ13_numberOfTrailingZeros_95d88 (wsM yJ13_numberOfTrailingZeros_95d88 cJ13_numberOfTrailingZeros_95d88 3 (some .int)) (rmD 1) (PcM E [.long v0] σ) (QiM E r σ) 0 0 (eA E) :=
  Met.ofM (by decide) (Nat.le_of_ble_eq_true rfl) (fun p e s m below meth c ls C0 hH hl => w_J13_numberOfTrailingZeros_95d88_b0 C0 v0  hH hl h) hAd
end
