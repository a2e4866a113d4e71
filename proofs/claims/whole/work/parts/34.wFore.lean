section
variable {p : Program} {l : Launch} {e : Env} {s : State} {m : MethodId} {args : Array Value} {below : List Frame} {meth : Method} {c : Code} {E : EnvT}
set_option maxRecDepth 100000 in
set_option maxHeartbeats 4000000 in
theorem w_X3_handsWithout_b0 {r : Int32} {σ' : Mem} (C0 : Cx E p m c cX3_handsWithout 3 s args RX3 meth (some .int))  (k0 : Nat) (k1 : Nat) (v2 : Int32) (hk0 : kd k0 = 3) (hk1 : kd k1 = 2) {σ : Mem} {H : Heap} {locs : List Loc} {ls : Array Slot} (hH : Hs E s σ H locs) (hl : lv_has ls 3 [(0, .ref (ea E k0)), (1, .ref (ea E k1)), (2, .int v2)]) (h : X3_handsWithout_b0 k0 k1 v2 σ = some (r, σ')) : W p l e (rmD 17) s m args below meth c H locs 0 0 (MQ below (QiM E r σ') args s 0 0 (eA E)) (F0 m 0 ls []) := by
  obtain ⟨⟨hx, hb, hml, hown, hts⟩, hr, hlocks, hF, hAd⟩ := id C0
  unfold X3_handsWithout_b0 at h
  refine lv_aload_n hx hb dX3_handsWithout_0 rfl (lv_at hl 0 rfl) ?_
  refine gf_X3_12 C0 hH hk0 dX3_handsWithout_1 ?_
  refine lv_aload_n hx hb dX3_handsWithout_4 rfl (lv_at hl 1 rfl) ?_
  obtain ⟨σ1, qσ1, h⟩ := ob_s h
  refine go_v hH (va_run_V (As := [.ref (ea E k1)]) (rest := []) C0 hH lk_X3_39 (c_X2_becomeLike hAd (k0 + 1) k1 (kf_3_0 hk0) hk1 σ qσ1) (by decide) (ci := 2) (kf_3_0 hk0) (by decide) (cob_2 _ _ _) rfl rfl hl.1 rfl (Nat.le_of_ble_eq_true rfl) dX3_handsWithout_5) (fun H locs hH => ?_)
  refine lv_aload_n hx hb dX3_handsWithout_8 rfl (lv_at hl 0 rfl) ?_
  refine gf_X3_12 C0 hH hk0 dX3_handsWithout_9 ?_
  refine lv_iload_n hx hb dX3_handsWithout_12 rfl (lv_at hl 2 rfl) ?_
  obtain ⟨σ2, qσ2, h⟩ := ob_s h
  refine go_v hH (va_run_V (As := [.int v2]) (rest := []) C0 hH lk_X3_43 (c_X2_cut hAd (k0 + 1) v2 (kf_3_0 hk0) σ1 qσ2) (by decide) (ci := 2) (kf_3_0 hk0) (by decide) (cob_2 _ _ _) rfl rfl hl.1 rfl (Nat.le_of_ble_eq_true rfl) dX3_handsWithout_13) (fun H locs hH => ?_)
  refine lv_aload_n hx hb dX3_handsWithout_16 rfl (lv_at hl 0 rfl) ?_
  refine gf_X3_21 C0 hH hk0 dX3_handsWithout_17 ?_
  refine gf_X3_47 C0 hH (kf_3_1 hk0) dX3_handsWithout_20 ?_
  refine lv_aload_n hx hb dX3_handsWithout_23 rfl (lv_at hl 0 rfl) ?_
  refine gf_X3_12 C0 hH hk0 dX3_handsWithout_24 ?_
  obtain ⟨σ3, qσ3, h⟩ := ob_s h
  refine go_v hH (va_run_V (As := [.ref (ea E (k0 + 1))]) (rest := []) C0 hH lk_X3_51 (c_X5_survey hAd ((k0 + 7) + 1) (k0 + 1) (kf_6_0 (kf_3_1 hk0)) (kf_3_0 hk0) σ2 qσ3) (by decide) (ci := 5) (kf_6_0 (kf_3_1 hk0)) (by decide) (cob_5 _ _ _) rfl rfl hl.1 rfl (Nat.le_of_ble_eq_true rfl) dX3_handsWithout_27) (fun H locs hH => ?_)
  refine lv_aload_n hx hb dX3_handsWithout_30 rfl (lv_at hl 0 rfl) ?_
  refine gf_X3_21 C0 hH hk0 dX3_handsWithout_31 ?_
  refine lv_aload_n hx hb dX3_handsWithout_34 rfl (lv_at hl 0 rfl) ?_
  refine gf_X3_12 C0 hH hk0 dX3_handsWithout_35 ?_
  refine gf_X3_56 C0 hH (kf_3_0 hk0) dX3_handsWithout_38 ?_
  obtain ⟨σ4, qσ4, h⟩ := ob_s h
  refine go_v hH (va_run_V (As := [.int (σ3 (k0 + 1) 1)]) (rest := []) C0 hH lk_X3_59 (c_X6_findFor hAd (k0 + 7) (σ3 (k0 + 1) 1) (kf_3_1 hk0) σ3 qσ4) (by decide) (ci := 6) (kf_3_1 hk0) (by decide) (cob_6 _ _ _) rfl rfl hl.1 rfl (Nat.le_of_ble_eq_true rfl) dX3_handsWithout_41) (fun H locs hH => ?_)
  refine lv_aload_n hx hb dX3_handsWithout_44 rfl (lv_at hl 0 rfl) ?_
  refine gf_X3_21 C0 hH hk0 dX3_handsWithout_45 ?_
  refine gf_X3_62 C0 hH (kf_3_1 hk0) dX3_handsWithout_48 ?_
  exact r_iret C0 hH (pj1 h) (pj2 h) dX3_handsWithout_51
theorem c_X3_handsWithout {l : Launch} {E : EnvT} (hAd : Ad E) (k0 : Nat) (k1 : Nat) (v2 : Int32) (hk0 : kd k0 = 3) (hk1 : kd k1 = 2) (σ : Mem) {r : Int32} {σ' : Mem} (h : X3_handsWithout k0 k1 v2 σ = some (r, σ')) : Met l yX3_handsWithout (wsM yX3_handsWithout cX3_handsWithout 3 (some .int)) (rmD 17) (PcM E [.ref (ea E k0), .ref (ea E k1), .int v2] σ) (QiM E r σ') 0 0 (eA E) :=
  Met.ofM (by decide) (Nat.le_of_ble_eq_true rfl) (fun p e s m below meth c ls C0 hH hl => w_X3_handsWithout_b0 C0 k0 k1 v2 hk0 hk1 hH hl h) hAd
set_option maxRecDepth 100000 in
set_option maxHeartbeats 4000000 in
theorem w_X3_leastLimit_b88 {r : Int32} {σ' : Mem} (C0 : Cx E p m c cX3_leastLimit 7 s args RX3 meth (some .int)) (K21 : Nat → Int32 → Int32 → Int32 → Int32 → Mem → Option (Int32 × Mem)) (hK21 : ∀ (k0 : Nat) (v2 : Int32) (v3 : Int32) (v4 : Int32) (v5 : Int32) (hk0 : kd k0 = 3) (σ : Mem) (H : Heap) (locs : List Loc) (ls : Array Slot), Hs E s σ H locs → lv_has ls 7 [(0, .ref (ea E k0)), (2, .int v2), (3, .int v3), (4, .int v4), (5, .int v5)] → K21 k0 v2 v3 v4 v5 σ = some (r, σ') → W p l e (rmD 16) s m args below meth c H locs 0 0 (MQ below (QiM E r σ') args s 0 0 (eA E)) (F0 m 21 ls []))  (k0 : Nat) (v2 : Int32) (v3 : Int32) (v4 : Int32) (v5 : Int32) (hk0 : kd k0 = 3) {σ : Mem} {H : Heap} {locs : List Loc} {ls : Array Slot} (hH : Hs E s σ H locs) (hl : lv_has ls 7 [(0, .ref (ea E k0)), (2, .int v2), (3, .int v3), (4, .int v4), (5, .int v5)]) (h : X3_leastLimit_b88 K21 k0 v2 v3 v4 v5 σ = some (r, σ')) : W p l e (rmD 16) s m args below meth c H locs 0 0 (MQ below (QiM E r σ') args s 0 0 (eA E)) (F0 m 88 ls []) := by
  obtain ⟨⟨hx, hb, hml, hown, hts⟩, hr, hlocks, hF, hAd⟩ := id C0
  unfold X3_leastLimit_b88 at h
  refine lv_iinc (v := v5 + 1) (lv' := [(5, .int (v5 + 1)), (0, .ref (ea E k0)), (2, .int v2), (3, .int v3), (4, .int v4)]) hx hb dX3_leastLimit_88 hl (k := 4) rfl rfl (by decide) rfl (fun ls hl => ?_)
  refine lv_goto (tgt := 21) hx hb dX3_leastLimit_91 (by decide) ?_
  exact hK21 k0 v2 v3 v4 (v5 + 1) hk0 _ _ _ _ hH (lv_sub hl [1, 2, 3, 4, 0] rfl) h
set_option maxRecDepth 100000 in
set_option maxHeartbeats 4000000 in
theorem w_X3_leastLimit_b83 {r : Int32} {σ' : Mem} (C0 : Cx E p m c cX3_leastLimit 7 s args RX3 meth (some .int)) (K21 : Nat → Int32 → Int32 → Int32 → Int32 → Mem → Option (Int32 × Mem)) (hK21 : ∀ (k0 : Nat) (v2 : Int32) (v3 : Int32) (v4 : Int32) (v5 : Int32) (hk0 : kd k0 = 3) (σ : Mem) (H : Heap) (locs : List Loc) (ls : Array Slot), Hs E s σ H locs → lv_has ls 7 [(0, .ref (ea E k0)), (2, .int v2), (3, .int v3), (4, .int v4), (5, .int v5)] → K21 k0 v2 v3 v4 v5 σ = some (r, σ') → W p l e (rmD 16) s m args below meth c H locs 0 0 (MQ below (QiM E r σ') args s 0 0 (eA E)) (F0 m 21 ls []))  (k0 : Nat) (v2 : Int32) (v4 : Int32) (v5 : Int32) (v6 : Int32) (hk0 : kd k0 = 3) {σ : Mem} {H : Heap} {locs : List Loc} {ls : Array Slot} (hH : Hs E s σ H locs) (hl : lv_has ls 7 [(0, .ref (ea E k0)), (2, .int v2), (4, .int v4), (5, .int v5), (6, .int v6)]) (h : X3_leastLimit_b83 K21 k0 v2 v4 v5 v6 σ = some (r, σ')) : W p l e (rmD 16) s m args below meth c H locs 0 0 (MQ below (QiM E r σ') args s 0 0 (eA E)) (F0 m 83 ls []) := by
  obtain ⟨⟨hx, hb, hml, hown, hts⟩, hr, hlocks, hF, hAd⟩ := id C0
  unfold X3_leastLimit_b83 at h
  refine lv_iload hx hb dX3_leastLimit_83 (lv_at hl 4 rfl) ?_
  refine lv_iconst (v := 1) hx hb dX3_leastLimit_85 (by decide) ?_
  refine lv_iadd hx hb dX3_leastLimit_86 ?_
  obtain ⟨x1, ex1, h⟩ := letv_s h
  refine topi_of ex1 ?_
  refine lv_istore_n (lv' := [(3, .int x1), (0, .ref (ea E k0)), (2, .int v2), (4, .int v4), (5, .int v5), (6, .int v6)]) hx hb dX3_leastLimit_87 rfl hl (by decide) rfl (fun ls hl => ?_)
  exact w_X3_leastLimit_b88 C0 K21 hK21 k0 v2 x1 v4 v5 hk0 hH (lv_sub hl [1, 2, 0, 3, 4] rfl) h
set_option maxRecDepth 100000 in
set_option maxHeartbeats 4000000 in
theorem w_X3_leastLimit_b21 {r : Int32} {σ' : Mem} (C0 : Cx E p m c cX3_leastLimit 7 s args RX3 meth (some .int)) (K21 : Nat → Int32 → Int32 → Int32 → Int32 → Mem → Option (Int32 × Mem)) (hK21 : ∀ (k0 : Nat) (v2 : Int32) (v3 : Int32) (v4 : Int32) (v5 : Int32) (hk0 : kd k0 = 3) (σ : Mem) (H : Heap) (locs : List Loc) (ls : Array Slot), Hs E s σ H locs → lv_has ls 7 [(0, .ref (ea E k0)), (2, .int v2), (3, .int v3), (4, .int v4), (5, .int v5)] → K21 k0 v2 v3 v4 v5 σ = some (r, σ') → W p l e (rmD 16) s m args below meth c H locs 0 0 (MQ below (QiM E r σ') args s 0 0 (eA E)) (F0 m 21 ls []))  (k0 : Nat) (v2 : Int32) (v3 : Int32) (v4 : Int32) (v5 : Int32) (hk0 : kd k0 = 3) {σ : Mem} {H : Heap} {locs : List Loc} {ls : Array Slot} (hH : Hs E s σ H locs) (hl : lv_has ls 7 [(0, .ref (ea E k0)), (2, .int v2), (3, .int v3), (4, .int v4), (5, .int v5)]) (h : X3_leastLimit_b21 K21 k0 v2 v3 v4 v5 σ = some (r, σ')) : W p l e (rmD 16) s m args below meth c H locs 0 0 (MQ below (QiM E r σ') args s 0 0 (eA E)) (F0 m 21 ls []) := by
  obtain ⟨⟨hx, hb, hml, hown, hts⟩, hr, hlocks, hF, hAd⟩ := id C0
  unfold X3_leastLimit_b21 at h
  refine lv_iload hx hb dX3_leastLimit_21 (lv_at hl 4 rfl) ?_
  refine lv_bipush (v := 10) hx hb dX3_leastLimit_23 (by decide) ?_
  refine lv_icmp_ge (tgt := 94) hx hb dX3_leastLimit_25 (by decide) (fun c1 => ?_) (fun c1 => ?_)
  · replace h := if_t h c1
    refine lv_iload_n hx hb dX3_leastLimit_94 rfl (lv_at hl 2 rfl) ?_
    exact r_iret C0 hH (pj1 h) (pj2 h) dX3_leastLimit_95
  · replace h := if_f h c1
    refine lv_iload_n hx hb dX3_leastLimit_28 rfl (lv_at hl 2 rfl) ?_
    refine lv_iload hx hb dX3_leastLimit_29 (lv_at hl 3 rfl) ?_
    refine lv_icmp_ge (tgt := 94) hx hb dX3_leastLimit_31 (by decide) (fun c2 => ?_) (fun c2 => ?_)
    · replace h := if_t h c2
      refine lv_iload_n hx hb dX3_leastLimit_94 rfl (lv_at hl 2 rfl) ?_
      exact r_iret C0 hH (pj1 h) (pj2 h) dX3_leastLimit_95
    · replace h := if_f h c2
      refine lv_iload_n hx hb dX3_leastLimit_34 rfl (lv_at hl 2 rfl) ?_
      refine lv_iload hx hb dX3_leastLimit_35 (lv_at hl 3 rfl) ?_
      refine lv_iadd hx hb dX3_leastLimit_37 ?_
      refine lv_iconst (v := 2) hx hb dX3_leastLimit_38 (by decide) ?_
      refine lv_idiv hx hb dX3_leastLimit_39 (by decide) ?_
      obtain ⟨x3, ex3, h⟩ := letv_s h
      refine topi_of ex3 ?_
      refine lv_istore (lv' := [(6, .int x3), (0, .ref (ea E k0)), (2, .int v2), (3, .int v3), (4, .int v4), (5, .int v5)]) hx hb dX3_leastLimit_40 hl (by decide) rfl (fun ls hl => ?_)
      refine lv_aload_n hx hb dX3_leastLimit_42 rfl (lv_at hl 1 rfl) ?_
      refine gf_X3_21 C0 hH hk0 dX3_leastLimit_43 ?_
      refine gf_X3_47 C0 hH (kf_3_1 hk0) dX3_leastLimit_46 ?_
      refine lv_iload hx hb dX3_leastLimit_49 (lv_at hl 0 rfl) ?_
      obtain ⟨σ4, qσ4, h⟩ := ob_s h
      refine go_v hH (va_run_V (As := [.int x3]) (rest := []) C0 hH lk_X3_65 (c_X5_markNear hAd ((k0 + 7) + 1) x3 (kf_6_0 (kf_3_1 hk0)) σ qσ4) (by decide) (ci := 5) (kf_6_0 (kf_3_1 hk0)) (by decide) (cob_5 _ _ _) rfl rfl hl.1 rfl (Nat.le_of_ble_eq_true rfl) dX3_leastLimit_51) (fun H locs hH => ?_)
      refine lv_aload_n hx hb dX3_leastLimit_54 rfl (lv_at hl 1 rfl) ?_
      refine gf_X3_21 C0 hH hk0 dX3_leastLimit_55 ?_
      obtain ⟨r5, qr5, h⟩ := ob_s h
      refine go_i hH (va_run_V (As := []) (rest := []) C0 hH lk_X3_68 (c_X6_wantedAtLeast hAd (k0 + 7) (kf_3_1 hk0) σ4 qr5) (by decide) (ci := 6) (kf_3_1 hk0) (by decide) (cob_6 _ _ _) rfl rfl hl.1 rfl (Nat.le_of_ble_eq_true rfl) dX3_leastLimit_58) (fun H locs hH => ?_)
      refine lv_iload_n hx hb dX3_leastLimit_61 rfl (lv_at hl 2 rfl) ?_
      refine lv_icmp_gt (tgt := 83) hx hb dX3_leastLimit_62 (by decide) (fun c6 => ?_) (fun c6 => ?_)
      · replace h := if_t h c6
        exact w_X3_leastLimit_b83 C0 K21 hK21 k0 v2 v4 v5 x3 hk0 hH (lv_sub hl [1, 2, 4, 5, 0] rfl) h
      · replace h := if_f h c6
        refine lv_aload_n hx hb dX3_leastLimit_65 rfl (lv_at hl 1 rfl) ?_
        refine gf_X3_21 C0 hH hk0 dX3_leastLimit_66 ?_
        refine lv_iload_n hx hb dX3_leastLimit_69 rfl (lv_at hl 2 rfl) ?_
        obtain ⟨r7, σ8, qr7, h⟩ := ob2_s h
        refine go_i hH (va_run_V (As := [.int v2]) (rest := []) C0 hH lk_X3_72 (c_X6_areEnough hAd (k0 + 7) v2 (kf_3_1 hk0) σ4 qr7) (by decide) (ci := 6) (kf_3_1 hk0) (by decide) (cob_6 _ _ _) rfl rfl hl.1 rfl (Nat.le_of_ble_eq_true rfl) dX3_leastLimit_70) (fun H locs hH => ?_)
        refine lv_if_eq (tgt := 83) hx hb dX3_leastLimit_73 (by decide) (fun c9 => ?_) (fun c9 => ?_)
        · replace h := if_t h c9
          exact w_X3_leastLimit_b83 C0 K21 hK21 k0 v2 v4 v5 x3 hk0 hH (lv_sub hl [1, 2, 4, 5, 0] rfl) h
        · replace h := if_f h c9
          refine lv_iload hx hb dX3_leastLimit_76 (lv_at hl 0 rfl) ?_
          refine lv_istore (lv' := [(4, .int x3), (6, .int x3), (0, .ref (ea E k0)), (2, .int v2), (3, .int v3), (5, .int v5)]) hx hb dX3_leastLimit_78 hl (by decide) rfl (fun ls hl => ?_)
          refine lv_goto (tgt := 88) hx hb dX3_leastLimit_80 (by decide) ?_
          exact w_X3_leastLimit_b88 C0 K21 hK21 k0 v2 v3 x3 v5 hk0 hH (lv_sub hl [2, 3, 4, 0, 5] rfl) h
set_option maxRecDepth 100000 in
set_option maxHeartbeats 4000000 in
theorem w_X3_leastLimit_l21 {r : Int32} {σ' : Mem} (C0 : Cx E p m c cX3_leastLimit 7 s args RX3 meth (some .int))  (n : Nat) : ∀ (k0 : Nat) (v2 : Int32) (v3 : Int32) (v4 : Int32) (v5 : Int32) (hk0 : kd k0 = 3) (σ : Mem) (H : Heap) (locs : List Loc) (ls : Array Slot), Hs E s σ H locs → lv_has ls 7 [(0, .ref (ea E k0)), (2, .int v2), (3, .int v3), (4, .int v4), (5, .int v5)] → X3_leastLimit_l21 n k0 v2 v3 v4 v5 σ = some (r, σ') → W p l e (rmD 16) s m args below meth c H locs 0 0 (MQ below (QiM E r σ') args s 0 0 (eA E)) (F0 m 21 ls []) := by
  induction n with
  | zero =>
    intro k0 v2 v3 v4 v5 hk0 σ H locs ls hH hl h
    cases h
  | succ n ih =>
    intro k0 v2 v3 v4 v5 hk0 σ H locs ls hH hl h
    exact w_X3_leastLimit_b21 C0 (X3_leastLimit_l21 n)  ih k0 v2 v3 v4 v5 hk0 hH hl h
set_option maxRecDepth 100000 in
set_option maxHeartbeats 4000000 in
theorem w_X3_leastLimit_b0 {r : Int32} {σ' : Mem} (C0 : Cx E p m c cX3_leastLimit 7 s args RX3 meth (some .int))  (k0 : Nat) (k1 : Nat) (v2 : Int32) (hk0 : kd k0 = 3) (hk1 : kd k1 = 2) {σ : Mem} {H : Heap} {locs : List Loc} {ls : Array Slot} (hH : Hs E s σ H locs) (hl : lv_has ls 7 [(0, .ref (ea E k0)), (1, .ref (ea E k1)), (2, .int v2)]) (h : X3_leastLimit_b0 k0 k1 v2 σ = some (r, σ')) : W p l e (rmD 16) s m args below meth c H locs 0 0 (MQ below (QiM E r σ') args s 0 0 (eA E)) (F0 m 0 ls []) := by
  obtain ⟨⟨hx, hb, hml, hown, hts⟩, hr, hlocks, hF, hAd⟩ := id C0
  unfold X3_leastLimit_b0 at h
  refine lv_aload_n hx hb dX3_leastLimit_0 rfl (lv_at hl 0 rfl) ?_
  refine gf_X3_21 C0 hH hk0 dX3_leastLimit_1 ?_
  refine gf_X3_47 C0 hH (kf_3_1 hk0) dX3_leastLimit_4 ?_
  refine lv_aload_n hx hb dX3_leastLimit_7 rfl (lv_at hl 1 rfl) ?_
  obtain ⟨σ1, qσ1, h⟩ := ob_s h
  refine go_v hH (va_run_V (As := [.ref (ea E k1)]) (rest := []) C0 hH lk_X3_51 (c_X5_survey hAd ((k0 + 7) + 1) k1 (kf_6_0 (kf_3_1 hk0)) hk1 σ qσ1) (by decide) (ci := 5) (kf_6_0 (kf_3_1 hk0)) (by decide) (cob_5 _ _ _) rfl rfl hl.1 rfl (Nat.le_of_ble_eq_true rfl) dX3_leastLimit_8) (fun H locs hH => ?_)
  refine lv_iconst (v := 0) hx hb dX3_leastLimit_11 (by decide) ?_
  refine lv_istore_n (lv' := [(3, .int 0), (0, .ref (ea E k0)), (1, .ref (ea E k1)), (2, .int v2)]) hx hb dX3_leastLimit_12 rfl hl (by decide) rfl (fun ls hl => ?_)
  refine lv_sipush (v := 200) hx hb dX3_leastLimit_13 (by decide) ?_
  refine lv_istore (lv' := [(4, .int 200), (3, .int 0), (0, .ref (ea E k0)), (1, .ref (ea E k1)), (2, .int v2)]) hx hb dX3_leastLimit_16 hl (by decide) rfl (fun ls hl => ?_)
  refine lv_iconst (v := 0) hx hb dX3_leastLimit_18 (by decide) ?_
  refine lv_istore (lv' := [(5, .int 0), (4, .int 200), (3, .int 0), (0, .ref (ea E k0)), (1, .ref (ea E k1)), (2, .int v2)]) hx hb dX3_leastLimit_19 hl (by decide) rfl (fun ls hl => ?_)
  exact w_X3_leastLimit_l21 C0  FU k0 v2 0 200 0 hk0 _ _ _ _ hH (lv_sub hl [3, 5, 2, 1, 0] rfl) h
theorem c_X3_leastLimit {l : Launch} {E : EnvT} (hAd : Ad E) (k0 : Nat) (k1 : Nat) (v2 : Int32) (hk0 : kd k0 = 3) (hk1 : kd k1 = 2) (σ : Mem) {r : Int32} {σ' : Mem} (h : X3_leastLimit k0 k1 v2 σ = some (r, σ')) : Met l yX3_leastLimit (wsM yX3_leastLimit cX3_leastLimit 7 (some .int)) (rmD 16) (PcM E [.ref (ea E k0), .ref (ea E k1), .int v2] σ) (QiM E r σ') 0 0 (eA E) :=
  Met.ofM (by decide) (Nat.le_of_ble_eq_true rfl) (fun p e s m below meth c ls C0 hH hl => w_X3_leastLimit_b0 C0 k0 k1 v2 hk0 hk1 hH hl h) hAd
set_option maxRecDepth 100000 in
set_option maxHeartbeats 4000000 in
theorem w_X3_hear_b8 {σ' : Mem} (C0 : Cx E p m c cX3_hear 5 s args RX3 meth (none)) (K8 : Nat → Nat → Int32 → Int32 → Int32 → Mem → Option Mem) (hK8 : ∀ (k0 : Nat) (k1 : Nat) (v2 : Int32) (v3 : Int32) (v4 : Int32) (hk0 : kd k0 = 3) (hk1 : kd k1 = 140) (σ : Mem) (H : Heap) (locs : List Loc) (ls : Array Slot), Hs E s σ H locs → lv_has ls 5 [(0, .ref (ea E k0)), (1, .ref (ea E k1)), (2, .int v2), (3, .int v3), (4, .int v4)] → K8 k0 k1 v2 v3 v4 σ = some σ' → W p l e (rmD 0) s m args below meth c H locs 0 0 (MQ below (QvM E σ') args s 0 0 (eA E)) (F0 m 8 ls []))  (k0 : Nat) (k1 : Nat) (v2 : Int32) (v3 : Int32) (v4 : Int32) (hk0 : kd k0 = 3) (hk1 : kd k1 = 140) {σ : Mem} {H : Heap} {locs : List Loc} {ls : Array Slot} (hH : Hs E s σ H locs) (hl : lv_has ls 5 [(0, .ref (ea E k0)), (1, .ref (ea E k1)), (2, .int v2), (3, .int v3), (4, .int v4)]) (h : X3_hear_b8 K8 k0 k1 v2 v3 v4 σ = some σ') : W p l e (rmD 0) s m args below meth c H locs 0 0 (MQ below (QvM E σ') args s 0 0 (eA E)) (F0 m 8 ls []) := by
  obtain ⟨⟨hx, hb, hml, hown, hts⟩, hr, hlocks, hF, hAd⟩ := id C0
  unfold X3_hear_b8 at h
  refine lv_iload hx hb dX3_hear_8 (lv_at hl 4 rfl) ?_
  refine lv_iload_n hx hb dX3_hear_10 rfl (lv_at hl 3 rfl) ?_
  refine lv_icmp_ge (tgt := 59) hx hb dX3_hear_11 (by decide) (fun c1 => ?_) (fun c1 => ?_)
  · replace h := if_t h c1
    exact r_vret C0 hH (Option.some.inj h) dX3_hear_59
  · replace h := if_f h c1
    refine lv_iload hx hb dX3_hear_14 (lv_at hl 4 rfl) ?_
    refine lv_bipush (v := 10) hx hb dX3_hear_16 (by decide) ?_
    refine lv_icmp_ge (tgt := 59) hx hb dX3_hear_18 (by decide) (fun c2 => ?_) (fun c2 => ?_)
    · replace h := if_t h c2
      exact r_vret C0 hH (Option.some.inj h) dX3_hear_59
    · replace h := if_f h c2
      refine lv_iload_n hx hb dX3_hear_21 rfl (lv_at hl 2 rfl) ?_
      refine lv_iload hx hb dX3_hear_22 (lv_at hl 4 rfl) ?_
      refine lv_iadd hx hb dX3_hear_24 ?_
      refine lv_aload_n hx hb dX3_hear_25 rfl (lv_at hl 1 rfl) ?_
      refine r_alen C0 hH (n := 40) hk1 dX3_hear_26 ?_
      refine lv_icmp_ge (tgt := 59) hx hb dX3_hear_27 (by decide) (fun c3 => ?_) (fun c3 => ?_)
      · replace h := if_t h c3
        exact r_vret C0 hH (Option.some.inj h) dX3_hear_59
      · replace h := if_f h c3
        refine lv_aload_n hx hb dX3_hear_30 rfl (lv_at hl 0 rfl) ?_
        refine gf_X3_25 C0 hH hk0 dX3_hear_31 ?_
        refine lv_iload hx hb dX3_hear_34 (lv_at hl 4 rfl) ?_
        refine lv_aload_n hx hb dX3_hear_36 rfl (lv_at hl 1 rfl) ?_
        refine lv_iload_n hx hb dX3_hear_37 rfl (lv_at hl 2 rfl) ?_
        refine lv_iload hx hb dX3_hear_38 (lv_at hl 4 rfl) ?_
        refine lv_iadd hx hb dX3_hear_40 ?_
        obtain ⟨b4, h⟩ := gdx_s h
        refine r_iald C0 hH (n := 40) hk1 b4 dX3_hear_41 ?_
        obtain ⟨b5, h⟩ := gdx_s h
        refine r_iast C0 hH (n := 10) (kf_3_2 hk0) b5 dX3_hear_42 (fun H locs hH => ?_)
        refine lv_aload_n hx hb dX3_hear_43 rfl (lv_at hl 0 rfl) ?_
        refine lv_dup hx hb dX3_hear_44 rfl ?_
        obtain ⟨σ6, eσ6, h⟩ := letv_s h
        replace hH := hs_of eσ6 hH
        refine gf_X3_29 C0 hH hk0 dX3_hear_45 ?_
        refine lv_iconst (v := 1) hx hb dX3_hear_48 (by decide) ?_
        refine lv_iadd hx hb dX3_hear_49 ?_
        refine pf_X3_29 C0 hH hk0 dX3_hear_50 (fun H locs hH => ?_)
        refine lv_iinc (v := v4 + 1) (lv' := [(4, .int (v4 + 1)), (0, .ref (ea E k0)), (1, .ref (ea E k1)), (2, .int v2), (3, .int v3)]) hx hb dX3_hear_53 hl (k := 4) rfl rfl (by decide) rfl (fun ls hl => ?_)
        refine lv_goto (tgt := 8) hx hb dX3_hear_56 (by decide) ?_
        exact hK8 k0 k1 v2 v3 (v4 + 1) hk0 hk1 _ _ _ _ hH (lv_sub hl [1, 2, 3, 4, 0] rfl) h
set_option maxRecDepth 100000 in
set_option maxHeartbeats 4000000 in
theorem w_X3_hear_l8 {σ' : Mem} (C0 : Cx E p m c cX3_hear 5 s args RX3 meth (none))  (n : Nat) : ∀ (k0 : Nat) (k1 : Nat) (v2 : Int32) (v3 : Int32) (v4 : Int32) (hk0 : kd k0 = 3) (hk1 : kd k1 = 140) (σ : Mem) (H : Heap) (locs : List Loc) (ls : Array Slot), Hs E s σ H locs → lv_has ls 5 [(0, .ref (ea E k0)), (1, .ref (ea E k1)), (2, .int v2), (3, .int v3), (4, .int v4)] → X3_hear_l8 n k0 k1 v2 v3 v4 σ = some σ' → W p l e (rmD 0) s m args below meth c H locs 0 0 (MQ below (QvM E σ') args s 0 0 (eA E)) (F0 m 8 ls []) := by
  induction n with
  | zero =>
    intro k0 k1 v2 v3 v4 hk0 hk1 σ H locs ls hH hl h
    cases h
  | succ n ih =>
    intro k0 k1 v2 v3 v4 hk0 hk1 σ H locs ls hH hl h
    exact w_X3_hear_b8 C0 (X3_hear_l8 n)  ih k0 k1 v2 v3 v4 hk0 hk1 hH hl h
set_option maxRecDepth 100000 in
set_option maxHeartbeats 4000000 in
theorem w_X3_hear_b0 {σ' : Mem} (C0 : Cx E p m c cX3_hear 5 s args RX3 meth (none))  (k0 : Nat) (k1 : Nat) (v2 : Int32) (v3 : Int32) (hk0 : kd k0 = 3) (hk1 : kd k1 = 140) {σ : Mem} {H : Heap} {locs : List Loc} {ls : Array Slot} (hH : Hs E s σ H locs) (hl : lv_has ls 5 [(0, .ref (ea E k0)), (1, .ref (ea E k1)), (2, .int v2), (3, .int v3)]) (h : X3_hear_b0 k0 k1 v2 v3 σ = some σ') : W p l e (rmD 0) s m args below meth c H locs 0 0 (MQ below (QvM E σ') args s 0 0 (eA E)) (F0 m 0 ls []) := by
  obtain ⟨⟨hx, hb, hml, hown, hts⟩, hr, hlocks, hF, hAd⟩ := id C0
  unfold X3_hear_b0 at h
  refine lv_aload_n hx hb dX3_hear_0 rfl (lv_at hl 0 rfl) ?_
  refine lv_iconst (v := 0) hx hb dX3_hear_1 (by decide) ?_
  refine pf_X3_29 C0 hH hk0 dX3_hear_2 (fun H locs hH => ?_)
  refine lv_iconst (v := 0) hx hb dX3_hear_5 (by decide) ?_
  refine lv_istore (lv' := [(4, .int 0), (0, .ref (ea E k0)), (1, .ref (ea E k1)), (2, .int v2), (3, .int v3)]) hx hb dX3_hear_6 hl (by decide) rfl (fun ls hl => ?_)
  exact w_X3_hear_l8 C0  FU k0 k1 v2 v3 0 hk0 hk1 _ _ _ _ hH (lv_sub hl [1, 2, 3, 4, 0] rfl) h
theorem c_X3_hear {l : Launch} {E : EnvT} (hAd : Ad E) (k0 : Nat) (k1 : Nat) (v2 : Int32) (v3 : Int32) (hk0 : kd k0 = 3) (hk1 : kd k1 = 140) (σ : Mem) {σ' : Mem} (h : X3_hear k0 k1 v2 v3 σ = some σ') : Met l yX3_hear (wsM yX3_hear cX3_hear 5 (none)) (rmD 0) (PcM E [.ref (ea E k0), .ref (ea E k1), .int v2, .int v3] σ) (QvM E σ') 0 0 (eA E) :=
  Met.ofM (by decide) (Nat.le_of_ble_eq_true rfl) (fun p e s m below meth c ls C0 hH hl => w_X3_hear_b0 C0 k0 k1 v2 v3 hk0 hk1 hH hl h) hAd
set_option maxRecDepth 100000 in
set_option maxHeartbeats 4000000 in
theorem w_X3_isSoBy_b10 {r : Int32} {σ' : Mem} (C0 : Cx E p m c cX3_isSoBy 3 s args RX3 meth (some .boolean)) (K10 : Nat → Int32 → Mem → Option (Int32 × Mem)) (hK10 : ∀ (k0 : Nat) (v2 : Int32) (hk0 : kd k0 = 3) (σ : Mem) (H : Heap) (locs : List Loc) (ls : Array Slot), Hs E s σ H locs → lv_has ls 3 [(0, .ref (ea E k0)), (2, .int v2)] → K10 k0 v2 σ = some (r, σ') → W p l e (rmD 17) s m args below meth c H locs 0 0 (MQ below (QiM E r σ') args s 0 0 (eA E)) (F0 m 10 ls []))  (k0 : Nat) (v2 : Int32) (hk0 : kd k0 = 3) {σ : Mem} {H : Heap} {locs : List Loc} {ls : Array Slot} (hH : Hs E s σ H locs) (hl : lv_has ls 3 [(0, .ref (ea E k0)), (2, .int v2)]) (h : X3_isSoBy_b10 K10 k0 v2 σ = some (r, σ')) : W p l e (rmD 17) s m args below meth c H locs 0 0 (MQ below (QiM E r σ') args s 0 0 (eA E)) (F0 m 10 ls []) := by
  obtain ⟨⟨hx, hb, hml, hown, hts⟩, hr, hlocks, hF, hAd⟩ := id C0
  unfold X3_isSoBy_b10 at h
  refine lv_iload_n hx hb dX3_isSoBy_10 rfl (lv_at hl 1 rfl) ?_
  refine lv_aload_n hx hb dX3_isSoBy_11 rfl (lv_at hl 0 rfl) ?_
  refine gf_X3_29 C0 hH hk0 dX3_isSoBy_12 ?_
  refine lv_icmp_ge (tgt := 44) hx hb dX3_isSoBy_15 (by decide) (fun c1 => ?_) (fun c1 => ?_)
  · replace h := if_t h c1
    refine lv_iconst (v := 1) hx hb dX3_isSoBy_44 (by decide) ?_
    exact r_zret C0 rfl hH (pj1 h) (pj2 h) dX3_isSoBy_45
  · replace h := if_f h c1
    refine lv_aload_n hx hb dX3_isSoBy_18 rfl (lv_at hl 0 rfl) ?_
    refine gf_X3_21 C0 hH hk0 dX3_isSoBy_19 ?_
    refine gf_X3_90 C0 hH (kf_3_1 hk0) dX3_isSoBy_22 ?_
    refine lv_iload_n hx hb dX3_isSoBy_25 rfl (lv_at hl 1 rfl) ?_
    obtain ⟨b2, h⟩ := gdx_s h
    refine r_iald C0 hH (n := 10) (kf_6_1 (kf_3_1 hk0)) b2 dX3_isSoBy_26 ?_
    refine lv_aload_n hx hb dX3_isSoBy_27 rfl (lv_at hl 0 rfl) ?_
    refine gf_X3_25 C0 hH hk0 dX3_isSoBy_28 ?_
    refine lv_iload_n hx hb dX3_isSoBy_31 rfl (lv_at hl 1 rfl) ?_
    obtain ⟨b3, h⟩ := gdx_s h
    refine r_iald C0 hH (n := 10) (kf_3_2 hk0) b3 dX3_isSoBy_32 ?_
    refine lv_icmp_eq (tgt := 38) hx hb dX3_isSoBy_33 (by decide) (fun c4 => ?_) (fun c4 => ?_)
    · replace h := if_t h c4
      refine lv_iinc (v := v2 + 1) (lv' := [(2, .int (v2 + 1)), (0, .ref (ea E k0))]) hx hb dX3_isSoBy_38 hl (k := 1) rfl rfl (by decide) rfl (fun ls hl => ?_)
      refine lv_goto (tgt := 10) hx hb dX3_isSoBy_41 (by decide) ?_
      exact hK10 k0 (v2 + 1) hk0 _ _ _ _ hH (lv_sub hl [1, 0] rfl) h
    · replace h := if_f h c4
      refine lv_iconst (v := 0) hx hb dX3_isSoBy_36 (by decide) ?_
      exact r_zret C0 rfl hH (pj1 h) (pj2 h) dX3_isSoBy_37
set_option maxRecDepth 100000 in
set_option maxHeartbeats 4000000 in
theorem w_X3_isSoBy_l10 {r : Int32} {σ' : Mem} (C0 : Cx E p m c cX3_isSoBy 3 s args RX3 meth (some .boolean))  (n : Nat) : ∀ (k0 : Nat) (v2 : Int32) (hk0 : kd k0 = 3) (σ : Mem) (H : Heap) (locs : List Loc) (ls : Array Slot), Hs E s σ H locs → lv_has ls 3 [(0, .ref (ea E k0)), (2, .int v2)] → X3_isSoBy_l10 n k0 v2 σ = some (r, σ') → W p l e (rmD 17) s m args below meth c H locs 0 0 (MQ below (QiM E r σ') args s 0 0 (eA E)) (F0 m 10 ls []) := by
  induction n with
  | zero =>
    intro k0 v2 hk0 σ H locs ls hH hl h
    cases h
  | succ n ih =>
    intro k0 v2 hk0 σ H locs ls hH hl h
    exact w_X3_isSoBy_b10 C0 (X3_isSoBy_l10 n)  ih k0 v2 hk0 hH hl h
set_option maxRecDepth 100000 in
set_option maxHeartbeats 4000000 in
theorem w_X3_isSoBy_b0 {r : Int32} {σ' : Mem} (C0 : Cx E p m c cX3_isSoBy 3 s args RX3 meth (some .boolean))  (k0 : Nat) (v1 : Int32) (hk0 : kd k0 = 3) {σ : Mem} {H : Heap} {locs : List Loc} {ls : Array Slot} (hH : Hs E s σ H locs) (hl : lv_has ls 3 [(0, .ref (ea E k0)), (1, .int v1)]) (h : X3_isSoBy_b0 k0 v1 σ = some (r, σ')) : W p l e (rmD 17) s m args below meth c H locs 0 0 (MQ below (QiM E r σ') args s 0 0 (eA E)) (F0 m 0 ls []) := by
  obtain ⟨⟨hx, hb, hml, hown, hts⟩, hr, hlocks, hF, hAd⟩ := id C0
  unfold X3_isSoBy_b0 at h
  refine lv_aload_n hx hb dX3_isSoBy_0 rfl (lv_at hl 0 rfl) ?_
  refine gf_X3_21 C0 hH hk0 dX3_isSoBy_1 ?_
  refine lv_iload_n hx hb dX3_isSoBy_4 rfl (lv_at hl 1 rfl) ?_
  obtain ⟨σ1, qσ1, h⟩ := ob_s h
  refine go_v hH (va_run_V (As := [.int v1]) (rest := []) C0 hH lk_X3_59 (c_X6_findFor hAd (k0 + 7) v1 (kf_3_1 hk0) σ qσ1) (by decide) (ci := 6) (kf_3_1 hk0) (by decide) (cob_6 _ _ _) rfl rfl hl.1 rfl (Nat.le_of_ble_eq_true rfl) dX3_isSoBy_5) (fun H locs hH => ?_)
  refine lv_iconst (v := 0) hx hb dX3_isSoBy_8 (by decide) ?_
  refine lv_istore_n (lv' := [(2, .int 0), (0, .ref (ea E k0)), (1, .int v1)]) hx hb dX3_isSoBy_9 rfl hl (by decide) rfl (fun ls hl => ?_)
  exact w_X3_isSoBy_l10 C0  FU k0 0 hk0 _ _ _ _ hH (lv_sub hl [1, 0] rfl) h
theorem c_X3_isSoBy {l : Launch} {E : EnvT} (hAd : Ad E) (k0 : Nat) (v1 : Int32) (hk0 : kd k0 = 3) (σ : Mem) {r : Int32} {σ' : Mem} (h : X3_isSoBy k0 v1 σ = some (r, σ')) : Met l yX3_isSoBy (wsM yX3_isSoBy cX3_isSoBy 3 (some .boolean)) (rmD 17) (PcM E [.ref (ea E k0), .int v1] σ) (QiM E r σ') 0 0 (eA E) :=
  Met.ofM (by decide) (Nat.le_of_ble_eq_true rfl) (fun p e s m below meth c ls C0 hH hl => w_X3_isSoBy_b0 C0 k0 v1 hk0 hH hl h) hAd
set_option maxRecDepth 100000 in
set_option maxHeartbeats 4000000 in
theorem w_X3_limitsOf_b39 {r : Int64} {σ' : Mem} (C0 : Cx E p m c cX3_limitsOf 5 s args RX3 meth (some .long)) (K16 : Nat → Int64 → Int32 → Mem → Option (Int64 × Mem)) (hK16 : ∀ (k0 : Nat) (v2 : Int64) (v4 : Int32) (hk0 : kd k0 = 3) (σ : Mem) (H : Heap) (locs : List Loc) (ls : Array Slot), Hs E s σ H locs → lv_has ls 5 [(0, .ref (ea E k0)), (2, .long v2), (4, .int v4)] → K16 k0 v2 v4 σ = some (r, σ') → W p l e (rmD 18) s m args below meth c H locs 0 0 (MQ below (QlM E r σ') args s 0 0 (eA E)) (F0 m 16 ls []))  (k0 : Nat) (v2 : Int64) (v4 : Int32) (hk0 : kd k0 = 3) {σ : Mem} {H : Heap} {locs : List Loc} {ls : Array Slot} (hH : Hs E s σ H locs) (hl : lv_has ls 5 [(0, .ref (ea E k0)), (2, .long v2), (4, .int v4)]) (h : X3_limitsOf_b39 K16 k0 v2 v4 σ = some (r, σ')) : W p l e (rmD 18) s m args below meth c H locs 0 0 (MQ below (QlM E r σ') args s 0 0 (eA E)) (F0 m 39 ls []) := by
  obtain ⟨⟨hx, hb, hml, hown, hts⟩, hr, hlocks, hF, hAd⟩ := id C0
  unfold X3_limitsOf_b39 at h
  refine lv_iinc (v := v4 + 1) (lv' := [(4, .int (v4 + 1)), (0, .ref (ea E k0)), (2, .long v2)]) hx hb dX3_limitsOf_39 hl (k := 2) rfl rfl (by decide) rfl (fun ls hl => ?_)
  refine lv_goto (tgt := 16) hx hb dX3_limitsOf_42 (by decide) ?_
  exact hK16 k0 v2 (v4 + 1) hk0 _ _ _ _ hH (lv_sub hl [1, 2, 0] rfl) h
set_option maxRecDepth 100000 in
set_option maxHeartbeats 4000000 in
theorem w_X3_limitsOf_b16 {r : Int64} {σ' : Mem} (C0 : Cx E p m c cX3_limitsOf 5 s args RX3 meth (some .long)) (K16 : Nat → Int64 → Int32 → Mem → Option (Int64 × Mem)) (hK16 : ∀ (k0 : Nat) (v2 : Int64) (v4 : Int32) (hk0 : kd k0 = 3) (σ : Mem) (H : Heap) (locs : List Loc) (ls : Array Slot), Hs E s σ H locs → lv_has ls 5 [(0, .ref (ea E k0)), (2, .long v2), (4, .int v4)] → K16 k0 v2 v4 σ = some (r, σ') → W p l e (rmD 18) s m args below meth c H locs 0 0 (MQ below (QlM E r σ') args s 0 0 (eA E)) (F0 m 16 ls []))  (k0 : Nat) (v2 : Int64) (v4 : Int32) (hk0 : kd k0 = 3) {σ : Mem} {H : Heap} {locs : List Loc} {ls : Array Slot} (hH : Hs E s σ H locs) (hl : lv_has ls 5 [(0, .ref (ea E k0)), (2, .long v2), (4, .int v4)]) (h : X3_limitsOf_b16 K16 k0 v2 v4 σ = some (r, σ')) : W p l e (rmD 18) s m args below meth c H locs 0 0 (MQ below (QlM E r σ') args s 0 0 (eA E)) (F0 m 16 ls []) := by
  obtain ⟨⟨hx, hb, hml, hown, hts⟩, hr, hlocks, hF, hAd⟩ := id C0
  unfold X3_limitsOf_b16 at h
  refine lv_iload hx hb dX3_limitsOf_16 (lv_at hl 2 rfl) ?_
  refine lv_bipush (v := 60) hx hb dX3_limitsOf_18 (by decide) ?_
  refine lv_icmp_gt (tgt := 45) hx hb dX3_limitsOf_20 (by decide) (fun c1 => ?_) (fun c1 => ?_)
  · replace h := if_t h c1
    refine lv_lload_n hx hb dX3_limitsOf_45 rfl (lv_at hl 1 rfl) ?_
    exact r_lret C0 hH (pj1 h) (pj2 h) dX3_limitsOf_46
  · replace h := if_f h c1
    refine lv_aload_n hx hb dX3_limitsOf_23 rfl (lv_at hl 0 rfl) ?_
    refine lv_iload hx hb dX3_limitsOf_24 (lv_at hl 2 rfl) ?_
    obtain ⟨r2, σ3, qr2, h⟩ := ob2_s h
    refine go_i hH (va_run_V (As := [.int v4]) (rest := []) C0 hH lk_X3_76 (c_X3_isSoBy hAd k0 v4 hk0 σ qr2) (by decide) (ci := 3) hk0 (by decide) (cob_3 _ _ _) rfl rfl hl.1 rfl (Nat.le_of_ble_eq_true rfl) dX3_limitsOf_26) (fun H locs hH => ?_)
    refine lv_if_eq (tgt := 39) hx hb dX3_limitsOf_29 (by decide) (fun c4 => ?_) (fun c4 => ?_)
    · replace h := if_t h c4
      exact w_X3_limitsOf_b39 C0 K16 hK16 k0 v2 v4 hk0 hH (lv_sub hl [0, 1, 2] rfl) h
    · replace h := if_f h c4
      refine lv_lload_n hx hb dX3_limitsOf_32 rfl (lv_at hl 1 rfl) ?_
      refine lv_lconst (v := 1) hx hb dX3_limitsOf_33 (by decide) ?_
      refine lv_iload hx hb dX3_limitsOf_34 (lv_at hl 2 rfl) ?_
      refine lv_lshl (v := lshl 1 v4) hx hb dX3_limitsOf_36 rfl ?_
      refine lv_lor hx hb dX3_limitsOf_37 ?_
      obtain ⟨x5, ex5, h⟩ := letv_s h
      refine topl_of ex5 ?_
      refine lv_lstore_n (lv' := [(2, .long x5), (0, .ref (ea E k0)), (4, .int v4)]) hx hb dX3_limitsOf_38 rfl hl (by decide) rfl (fun ls hl => ?_)
      exact w_X3_limitsOf_b39 C0 K16 hK16 k0 x5 v4 hk0 hH (lv_sub hl [1, 0, 2] rfl) h
set_option maxRecDepth 100000 in
set_option maxHeartbeats 4000000 in
theorem w_X3_limitsOf_l16 {r : Int64} {σ' : Mem} (C0 : Cx E p m c cX3_limitsOf 5 s args RX3 meth (some .long))  (n : Nat) : ∀ (k0 : Nat) (v2 : Int64) (v4 : Int32) (hk0 : kd k0 = 3) (σ : Mem) (H : Heap) (locs : List Loc) (ls : Array Slot), Hs E s σ H locs → lv_has ls 5 [(0, .ref (ea E k0)), (2, .long v2), (4, .int v4)] → X3_limitsOf_l16 n k0 v2 v4 σ = some (r, σ') → W p l e (rmD 18) s m args below meth c H locs 0 0 (MQ below (QlM E r σ') args s 0 0 (eA E)) (F0 m 16 ls []) := by
  induction n with
  | zero =>
    intro k0 v2 v4 hk0 σ H locs ls hH hl h
    cases h
  | succ n ih =>
    intro k0 v2 v4 hk0 σ H locs ls hH hl h
    exact w_X3_limitsOf_b16 C0 (X3_limitsOf_l16 n)  ih k0 v2 v4 hk0 hH hl h
set_option maxRecDepth 100000 in
set_option maxHeartbeats 4000000 in
theorem w_X3_limitsOf_b0 {r : Int64} {σ' : Mem} (C0 : Cx E p m c cX3_limitsOf 5 s args RX3 meth (some .long))  (k0 : Nat) (k1 : Nat) (hk0 : kd k0 = 3) (hk1 : kd k1 = 2) {σ : Mem} {H : Heap} {locs : List Loc} {ls : Array Slot} (hH : Hs E s σ H locs) (hl : lv_has ls 5 [(0, .ref (ea E k0)), (1, .ref (ea E k1))]) (h : X3_limitsOf_b0 k0 k1 σ = some (r, σ')) : W p l e (rmD 18) s m args below meth c H locs 0 0 (MQ below (QlM E r σ') args s 0 0 (eA E)) (F0 m 0 ls []) := by
  obtain ⟨⟨hx, hb, hml, hown, hts⟩, hr, hlocks, hF, hAd⟩ := id C0
  unfold X3_limitsOf_b0 at h
  refine lv_aload_n hx hb dX3_limitsOf_0 rfl (lv_at hl 0 rfl) ?_
  refine gf_X3_21 C0 hH hk0 dX3_limitsOf_1 ?_
  refine gf_X3_47 C0 hH (kf_3_1 hk0) dX3_limitsOf_4 ?_
  refine lv_aload_n hx hb dX3_limitsOf_7 rfl (lv_at hl 1 rfl) ?_
  obtain ⟨σ1, qσ1, h⟩ := ob_s h
  refine go_v hH (va_run_V (As := [.ref (ea E k1)]) (rest := []) C0 hH lk_X3_51 (c_X5_survey hAd ((k0 + 7) + 1) k1 (kf_6_0 (kf_3_1 hk0)) hk1 σ qσ1) (by decide) (ci := 5) (kf_6_0 (kf_3_1 hk0)) (by decide) (cob_5 _ _ _) rfl rfl hl.1 rfl (Nat.le_of_ble_eq_true rfl) dX3_limitsOf_8) (fun H locs hH => ?_)
  refine lv_lconst (v := 0) hx hb dX3_limitsOf_11 (by decide) ?_
  refine lv_lstore_n (lv' := [(2, .long 0), (0, .ref (ea E k0)), (1, .ref (ea E k1))]) hx hb dX3_limitsOf_12 rfl hl (by decide) rfl (fun ls hl => ?_)
  refine lv_iconst (v := 0) hx hb dX3_limitsOf_13 (by decide) ?_
  refine lv_istore (lv' := [(4, .int 0), (2, .long 0), (0, .ref (ea E k0)), (1, .ref (ea E k1))]) hx hb dX3_limitsOf_14 hl (by decide) rfl (fun ls hl => ?_)
  exact w_X3_limitsOf_l16 C0  FU k0 0 0 hk0 _ _ _ _ hH (lv_sub hl [2, 1, 0] rfl) h
theorem c_X3_limitsOf {l : Launch} {E : EnvT} (hAd : Ad E) (k0 : Nat) (k1 : Nat) (hk0 : kd k0 = 3) (hk1 : kd k1 = 2) (σ : Mem) {r : Int64} {σ' : Mem} (h : X3_limitsOf k0 k1 σ = some (r, σ')) : Met l yX3_limitsOf (wsM yX3_limitsOf cX3_limitsOf 5 (some .long)) (rmD 18) (PcM E [.ref (ea E k0), .ref (ea E k1)] σ) (QlM E r σ') 0 0 (eA E) :=
  Met.ofM (by decide) (Nat.le_of_ble_eq_true rfl) (fun p e s m below meth c ls C0 hH hl => w_X3_limitsOf_b0 C0 k0 k1 hk0 hk1 hH hl h) hAd
set_option maxRecDepth 100000 in
set_option maxHeartbeats 4000000 in
theorem w_X3_kindsOf_b80 {r : Int32} {σ' : Mem} (C0 : Cx E p m c cX3_kindsOf 5 s args RX3 meth (some .int)) (K27 : Nat → Int32 → Int32 → Int32 → Mem → Option (Int32 × Mem)) (hK27 : ∀ (k0 : Nat) (v2 : Int32) (v3 : Int32) (v4 : Int32) (hk0 : kd k0 = 3) (σ : Mem) (H : Heap) (locs : List Loc) (ls : Array Slot), Hs E s σ H locs → lv_has ls 5 [(0, .ref (ea E k0)), (2, .int v2), (3, .int v3), (4, .int v4)] → K27 k0 v2 v3 v4 σ = some (r, σ') → W p l e (rmD 18) s m args below meth c H locs 0 0 (MQ below (QiM E r σ') args s 0 0 (eA E)) (F0 m 27 ls []))  (k0 : Nat) (v2 : Int32) (v3 : Int32) (v4 : Int32) (hk0 : kd k0 = 3) {σ : Mem} {H : Heap} {locs : List Loc} {ls : Array Slot} (hH : Hs E s σ H locs) (hl : lv_has ls 5 [(0, .ref (ea E k0)), (2, .int v2), (3, .int v3), (4, .int v4)]) (h : X3_kindsOf_b80 K27 k0 v2 v3 v4 σ = some (r, σ')) : W p l e (rmD 18) s m args below meth c H locs 0 0 (MQ below (QiM E r σ') args s 0 0 (eA E)) (F0 m 80 ls []) := by
  obtain ⟨⟨hx, hb, hml, hown, hts⟩, hr, hlocks, hF, hAd⟩ := id C0
  unfold X3_kindsOf_b80 at h
  refine lv_iinc (v := v4 + 1) (lv' := [(4, .int (v4 + 1)), (0, .ref (ea E k0)), (2, .int v2), (3, .int v3)]) hx hb dX3_kindsOf_80 hl (k := 3) rfl rfl (by decide) rfl (fun ls hl => ?_)
  refine lv_goto (tgt := 27) hx hb dX3_kindsOf_83 (by decide) ?_
  exact hK27 k0 v2 v3 (v4 + 1) hk0 _ _ _ _ hH (lv_sub hl [1, 2, 3, 0] rfl) h
set_option maxRecDepth 100000 in
set_option maxHeartbeats 4000000 in
theorem w_X3_kindsOf_b27 {r : Int32} {σ' : Mem} (C0 : Cx E p m c cX3_kindsOf 5 s args RX3 meth (some .int)) (K27 : Nat → Int32 → Int32 → Int32 → Mem → Option (Int32 × Mem)) (hK27 : ∀ (k0 : Nat) (v2 : Int32) (v3 : Int32) (v4 : Int32) (hk0 : kd k0 = 3) (σ : Mem) (H : Heap) (locs : List Loc) (ls : Array Slot), Hs E s σ H locs → lv_has ls 5 [(0, .ref (ea E k0)), (2, .int v2), (3, .int v3), (4, .int v4)] → K27 k0 v2 v3 v4 σ = some (r, σ') → W p l e (rmD 18) s m args below meth c H locs 0 0 (MQ below (QiM E r σ') args s 0 0 (eA E)) (F0 m 27 ls []))  (k0 : Nat) (v2 : Int32) (v3 : Int32) (v4 : Int32) (hk0 : kd k0 = 3) {σ : Mem} {H : Heap} {locs : List Loc} {ls : Array Slot} (hH : Hs E s σ H locs) (hl : lv_has ls 5 [(0, .ref (ea E k0)), (2, .int v2), (3, .int v3), (4, .int v4)]) (h : X3_kindsOf_b27 K27 k0 v2 v3 v4 σ = some (r, σ')) : W p l e (rmD 18) s m args below meth c H locs 0 0 (MQ below (QiM E r σ') args s 0 0 (eA E)) (F0 m 27 ls []) := by
  obtain ⟨⟨hx, hb, hml, hown, hts⟩, hr, hlocks, hF, hAd⟩ := id C0
  unfold X3_kindsOf_b27 at h
  refine lv_iload hx hb dX3_kindsOf_27 (lv_at hl 3 rfl) ?_
  refine lv_iconst (v := 5) hx hb dX3_kindsOf_29 (by decide) ?_
  refine lv_icmp_gt (tgt := 86) hx hb dX3_kindsOf_30 (by decide) (fun c1 => ?_) (fun c1 => ?_)
  · replace h := if_t h c1
    refine lv_iload_n hx hb dX3_kindsOf_86 rfl (lv_at hl 2 rfl) ?_
    exact r_iret C0 hH (pj1 h) (pj2 h) dX3_kindsOf_87
  · replace h := if_f h c1
    refine lv_aload_n hx hb dX3_kindsOf_33 rfl (lv_at hl 0 rfl) ?_
    refine gf_X3_12 C0 hH hk0 dX3_kindsOf_34 ?_
    refine gf_X3_79 C0 hH (kf_3_0 hk0) dX3_kindsOf_37 ?_
    refine lv_iload_n hx hb dX3_kindsOf_40 rfl (lv_at hl 1 rfl) ?_
    refine lv_iload hx hb dX3_kindsOf_41 (lv_at hl 3 rfl) ?_
    obtain ⟨b2, h⟩ := gdx_s h
    refine r_iast C0 hH (n := 10) (kf_2_3 (kf_3_0 hk0)) b2 dX3_kindsOf_43 (fun H locs hH => ?_)
    refine lv_aload_n hx hb dX3_kindsOf_44 rfl (lv_at hl 0 rfl) ?_
    refine gf_X3_21 C0 hH hk0 dX3_kindsOf_45 ?_
    refine gf_X3_47 C0 hH (kf_3_1 hk0) dX3_kindsOf_48 ?_
    refine lv_aload_n hx hb dX3_kindsOf_51 rfl (lv_at hl 0 rfl) ?_
    refine gf_X3_12 C0 hH hk0 dX3_kindsOf_52 ?_
    refine lv_iload_n hx hb dX3_kindsOf_55 rfl (lv_at hl 1 rfl) ?_
    obtain ⟨σ3, qσ3, h⟩ := ob_s h
    refine go_v hH (va_run_V (As := [.ref (ea E (k0 + 1)), .int v2]) (rest := []) C0 hH lk_X3_82 (c_X5_surveyFrom hAd ((k0 + 7) + 1) (k0 + 1) v2 (kf_6_0 (kf_3_1 hk0)) (kf_3_0 hk0) (wr σ ((k0 + 1) + 1) (nc v2) v4) qσ3) (by decide) (ci := 5) (kf_6_0 (kf_3_1 hk0)) (by decide) (cob_5 _ _ _) rfl rfl hl.1 rfl (Nat.le_of_ble_eq_true rfl) dX3_kindsOf_56) (fun H locs hH => ?_)
    refine lv_aload_n hx hb dX3_kindsOf_59 rfl (lv_at hl 0 rfl) ?_
    refine lv_aload_n hx hb dX3_kindsOf_60 rfl (lv_at hl 0 rfl) ?_
    refine gf_X3_12 C0 hH hk0 dX3_kindsOf_61 ?_
    refine gf_X3_56 C0 hH (kf_3_0 hk0) dX3_kindsOf_64 ?_
    obtain ⟨r4, σ5, qr4, h⟩ := ob2_s h
    refine go_i hH (va_run_V (As := [.int (σ3 (k0 + 1) 1)]) (rest := []) C0 hH lk_X3_76 (c_X3_isSoBy hAd k0 (σ3 (k0 + 1) 1) hk0 σ3 qr4) (by decide) (ci := 3) hk0 (by decide) (cob_3 _ _ _) rfl rfl hl.1 rfl (Nat.le_of_ble_eq_true rfl) dX3_kindsOf_67) (fun H locs hH => ?_)
    refine lv_if_eq (tgt := 80) hx hb dX3_kindsOf_70 (by decide) (fun c6 => ?_) (fun c6 => ?_)
    · replace h := if_t h c6
      exact w_X3_kindsOf_b80 C0 K27 hK27 k0 v2 v3 v4 hk0 hH (lv_sub hl [0, 1, 2, 3] rfl) h
    · replace h := if_f h c6
      refine lv_iload_n hx hb dX3_kindsOf_73 rfl (lv_at hl 2 rfl) ?_
      refine lv_iconst (v := 1) hx hb dX3_kindsOf_74 (by decide) ?_
      refine lv_iload hx hb dX3_kindsOf_75 (lv_at hl 3 rfl) ?_
      refine lv_ishl hx hb dX3_kindsOf_77 ?_
      refine lv_ior hx hb dX3_kindsOf_78 ?_
      obtain ⟨x7, ex7, h⟩ := letv_s h
      refine topi_of ex7 ?_
      refine lv_istore_n (lv' := [(3, .int x7), (0, .ref (ea E k0)), (2, .int v2), (4, .int v4)]) hx hb dX3_kindsOf_79 rfl hl (by decide) rfl (fun ls hl => ?_)
      exact w_X3_kindsOf_b80 C0 K27 hK27 k0 v2 x7 v4 hk0 hH (lv_sub hl [1, 2, 0, 3] rfl) h
set_option maxRecDepth 100000 in
set_option maxHeartbeats 4000000 in
theorem w_X3_kindsOf_l27 {r : Int32} {σ' : Mem} (C0 : Cx E p m c cX3_kindsOf 5 s args RX3 meth (some .int))  (n : Nat) : ∀ (k0 : Nat) (v2 : Int32) (v3 : Int32) (v4 : Int32) (hk0 : kd k0 = 3) (σ : Mem) (H : Heap) (locs : List Loc) (ls : Array Slot), Hs E s σ H locs → lv_has ls 5 [(0, .ref (ea E k0)), (2, .int v2), (3, .int v3), (4, .int v4)] → X3_kindsOf_l27 n k0 v2 v3 v4 σ = some (r, σ') → W p l e (rmD 18) s m args below meth c H locs 0 0 (MQ below (QiM E r σ') args s 0 0 (eA E)) (F0 m 27 ls []) := by
  induction n with
  | zero =>
    intro k0 v2 v3 v4 hk0 σ H locs ls hH hl h
    cases h
  | succ n ih =>
    intro k0 v2 v3 v4 hk0 σ H locs ls hH hl h
    exact w_X3_kindsOf_b27 C0 (X3_kindsOf_l27 n)  ih k0 v2 v3 v4 hk0 hH hl h
set_option maxRecDepth 100000 in
set_option maxHeartbeats 4000000 in
theorem w_X3_kindsOf_b0 {r : Int32} {σ' : Mem} (C0 : Cx E p m c cX3_kindsOf 5 s args RX3 meth (some .int))  (k0 : Nat) (k1 : Nat) (v2 : Int32) (hk0 : kd k0 = 3) (hk1 : kd k1 = 2) {σ : Mem} {H : Heap} {locs : List Loc} {ls : Array Slot} (hH : Hs E s σ H locs) (hl : lv_has ls 5 [(0, .ref (ea E k0)), (1, .ref (ea E k1)), (2, .int v2)]) (h : X3_kindsOf_b0 k0 k1 v2 σ = some (r, σ')) : W p l e (rmD 18) s m args below meth c H locs 0 0 (MQ below (QiM E r σ') args s 0 0 (eA E)) (F0 m 0 ls []) := by
  obtain ⟨⟨hx, hb, hml, hown, hts⟩, hr, hlocks, hF, hAd⟩ := id C0
  unfold X3_kindsOf_b0 at h
  refine lv_aload_n hx hb dX3_kindsOf_0 rfl (lv_at hl 0 rfl) ?_
  refine gf_X3_12 C0 hH hk0 dX3_kindsOf_1 ?_
  refine lv_aload_n hx hb dX3_kindsOf_4 rfl (lv_at hl 1 rfl) ?_
  obtain ⟨σ1, qσ1, h⟩ := ob_s h
  refine go_v hH (va_run_V (As := [.ref (ea E k1)]) (rest := []) C0 hH lk_X3_39 (c_X2_becomeLike hAd (k0 + 1) k1 (kf_3_0 hk0) hk1 σ qσ1) (by decide) (ci := 2) (kf_3_0 hk0) (by decide) (cob_2 _ _ _) rfl rfl hl.1 rfl (Nat.le_of_ble_eq_true rfl) dX3_kindsOf_5) (fun H locs hH => ?_)
  refine lv_aload_n hx hb dX3_kindsOf_8 rfl (lv_at hl 0 rfl) ?_
  refine gf_X3_21 C0 hH hk0 dX3_kindsOf_9 ?_
  refine gf_X3_47 C0 hH (kf_3_1 hk0) dX3_kindsOf_12 ?_
  refine lv_aload_n hx hb dX3_kindsOf_15 rfl (lv_at hl 0 rfl) ?_
  refine gf_X3_12 C0 hH hk0 dX3_kindsOf_16 ?_
  obtain ⟨σ2, qσ2, h⟩ := ob_s h
  refine go_v hH (va_run_V (As := [.ref (ea E (k0 + 1))]) (rest := []) C0 hH lk_X3_51 (c_X5_survey hAd ((k0 + 7) + 1) (k0 + 1) (kf_6_0 (kf_3_1 hk0)) (kf_3_0 hk0) σ1 qσ2) (by decide) (ci := 5) (kf_6_0 (kf_3_1 hk0)) (by decide) (cob_5 _ _ _) rfl rfl hl.1 rfl (Nat.le_of_ble_eq_true rfl) dX3_kindsOf_19) (fun H locs hH => ?_)
  refine lv_iconst (v := 0) hx hb dX3_kindsOf_22 (by decide) ?_
  refine lv_istore_n (lv' := [(3, .int 0), (0, .ref (ea E k0)), (1, .ref (ea E k1)), (2, .int v2)]) hx hb dX3_kindsOf_23 rfl hl (by decide) rfl (fun ls hl => ?_)
  refine lv_iconst (v := 1) hx hb dX3_kindsOf_24 (by decide) ?_
  refine lv_istore (lv' := [(4, .int 1), (3, .int 0), (0, .ref (ea E k0)), (1, .ref (ea E k1)), (2, .int v2)]) hx hb dX3_kindsOf_25 hl (by decide) rfl (fun ls hl => ?_)
  exact w_X3_kindsOf_l27 C0  FU k0 v2 0 1 hk0 _ _ _ _ hH (lv_sub hl [2, 4, 1, 0] rfl) h
theorem c_X3_kindsOf {l : Launch} {E : EnvT} (hAd : Ad E) (k0 : Nat) (k1 : Nat) (v2 : Int32) (hk0 : kd k0 = 3) (hk1 : kd k1 = 2) (σ : Mem) {r : Int32} {σ' : Mem} (h : X3_kindsOf k0 k1 v2 σ = some (r, σ')) : Met l yX3_kindsOf (wsM yX3_kindsOf cX3_kindsOf 5 (some .int)) (rmD 18) (PcM E [.ref (ea E k0), .ref (ea E k1), .int v2] σ) (QiM E r σ') 0 0 (eA E) :=
  Met.ofM (by decide) (Nat.le_of_ble_eq_true rfl) (fun p e s m below meth c ls C0 hH hl => w_X3_kindsOf_b0 C0 k0 k1 v2 hk0 hk1 hH hl h) hAd
set_option maxRecDepth 100000 in
set_option maxHeartbeats 4000000 in
theorem w_X3_numbersOf_b86 {r : Int32} {σ' : Mem} (C0 : Cx E p m c cX3_numbersOf 6 s args RX3 meth (some .int)) (K28 : Nat → Int32 → Int32 → Int32 → Int32 → Mem → Option (Int32 × Mem)) (hK28 : ∀ (k0 : Nat) (v2 : Int32) (v3 : Int32) (v4 : Int32) (v5 : Int32) (hk0 : kd k0 = 3) (σ : Mem) (H : Heap) (locs : List Loc) (ls : Array Slot), Hs E s σ H locs → lv_has ls 6 [(0, .ref (ea E k0)), (2, .int v2), (3, .int v3), (4, .int v4), (5, .int v5)] → K28 k0 v2 v3 v4 v5 σ = some (r, σ') → W p l e (rmD 18) s m args below meth c H locs 0 0 (MQ below (QiM E r σ') args s 0 0 (eA E)) (F0 m 28 ls []))  (k0 : Nat) (v2 : Int32) (v3 : Int32) (v4 : Int32) (v5 : Int32) (hk0 : kd k0 = 3) {σ : Mem} {H : Heap} {locs : List Loc} {ls : Array Slot} (hH : Hs E s σ H locs) (hl : lv_has ls 6 [(0, .ref (ea E k0)), (2, .int v2), (3, .int v3), (4, .int v4), (5, .int v5)]) (h : X3_numbersOf_b86 K28 k0 v2 v3 v4 v5 σ = some (r, σ')) : W p l e (rmD 18) s m args below meth c H locs 0 0 (MQ below (QiM E r σ') args s 0 0 (eA E)) (F0 m 86 ls []) := by
  obtain ⟨⟨hx, hb, hml, hown, hts⟩, hr, hlocks, hF, hAd⟩ := id C0
  unfold X3_numbersOf_b86 at h
  refine lv_iinc (v := v5 + 1) (lv' := [(5, .int (v5 + 1)), (0, .ref (ea E k0)), (2, .int v2), (3, .int v3), (4, .int v4)]) hx hb dX3_numbersOf_86 hl (k := 4) rfl rfl (by decide) rfl (fun ls hl => ?_)
  refine lv_goto (tgt := 28) hx hb dX3_numbersOf_89 (by decide) ?_
  exact hK28 k0 v2 v3 v4 (v5 + 1) hk0 _ _ _ _ hH (lv_sub hl [1, 2, 3, 4, 0] rfl) h
set_option maxRecDepth 100000 in
set_option maxHeartbeats 4000000 in
theorem w_X3_numbersOf_b28 {r : Int32} {σ' : Mem} (C0 : Cx E p m c cX3_numbersOf 6 s args RX3 meth (some .int)) (K28 : Nat → Int32 → Int32 → Int32 → Int32 → Mem → Option (Int32 × Mem)) (hK28 : ∀ (k0 : Nat) (v2 : Int32) (v3 : Int32) (v4 : Int32) (v5 : Int32) (hk0 : kd k0 = 3) (σ : Mem) (H : Heap) (locs : List Loc) (ls : Array Slot), Hs E s σ H locs → lv_has ls 6 [(0, .ref (ea E k0)), (2, .int v2), (3, .int v3), (4, .int v4), (5, .int v5)] → K28 k0 v2 v3 v4 v5 σ = some (r, σ') → W p l e (rmD 18) s m args below meth c H locs 0 0 (MQ below (QiM E r σ') args s 0 0 (eA E)) (F0 m 28 ls []))  (k0 : Nat) (v2 : Int32) (v3 : Int32) (v4 : Int32) (v5 : Int32) (hk0 : kd k0 = 3) {σ : Mem} {H : Heap} {locs : List Loc} {ls : Array Slot} (hH : Hs E s σ H locs) (hl : lv_has ls 6 [(0, .ref (ea E k0)), (2, .int v2), (3, .int v3), (4, .int v4), (5, .int v5)]) (h : X3_numbersOf_b28 K28 k0 v2 v3 v4 v5 σ = some (r, σ')) : W p l e (rmD 18) s m args below meth c H locs 0 0 (MQ below (QiM E r σ') args s 0 0 (eA E)) (F0 m 28 ls []) := by
  obtain ⟨⟨hx, hb, hml, hown, hts⟩, hr, hlocks, hF, hAd⟩ := id C0
  unfold X3_numbersOf_b28 at h
  refine lv_iload hx hb dX3_numbersOf_28 (lv_at hl 4 rfl) ?_
  refine lv_bipush (v := 30) hx hb dX3_numbersOf_30 (by decide) ?_
  refine lv_icmp_gt (tgt := 92) hx hb dX3_numbersOf_32 (by decide) (fun c1 => ?_) (fun c1 => ?_)
  · replace h := if_t h c1
    refine lv_iload hx hb dX3_numbersOf_92 (lv_at hl 3 rfl) ?_
    exact r_iret C0 hH (pj1 h) (pj2 h) dX3_numbersOf_94
  · replace h := if_f h c1
    refine lv_aload_n hx hb dX3_numbersOf_35 rfl (lv_at hl 0 rfl) ?_
    refine gf_X3_12 C0 hH hk0 dX3_numbersOf_36 ?_
    refine gf_X3_86 C0 hH (kf_3_0 hk0) dX3_numbersOf_39 ?_
    refine lv_iload_n hx hb dX3_numbersOf_42 rfl (lv_at hl 2 rfl) ?_
    obtain ⟨b2, h⟩ := gdx_s h
    refine ra_13 C0 hH (kf_2_4 (kf_3_0 hk0)) b2 dX3_numbersOf_43 ?_
    refine lv_iload_n hx hb dX3_numbersOf_44 rfl (lv_at hl 1 rfl) ?_
    refine lv_iload hx hb dX3_numbersOf_45 (lv_at hl 4 rfl) ?_
    obtain ⟨b3, h⟩ := gdx_s h
    refine r_iast C0 hH (n := 10) (ka_13 (kf_2_4 (kf_3_0 hk0)) b2) b3 dX3_numbersOf_47 (fun H locs hH => ?_)
    refine lv_aload_n hx hb dX3_numbersOf_48 rfl (lv_at hl 0 rfl) ?_
    refine gf_X3_21 C0 hH hk0 dX3_numbersOf_49 ?_
    refine gf_X3_47 C0 hH (kf_3_1 hk0) dX3_numbersOf_52 ?_
    refine lv_aload_n hx hb dX3_numbersOf_55 rfl (lv_at hl 0 rfl) ?_
    refine gf_X3_12 C0 hH hk0 dX3_numbersOf_56 ?_
    refine lv_iload_n hx hb dX3_numbersOf_59 rfl (lv_at hl 1 rfl) ?_
    obtain ⟨σ4, qσ4, h⟩ := ob_s h
    refine go_v hH (va_run_V (As := [.ref (ea E (k0 + 1)), .int v2]) (rest := []) C0 hH lk_X3_82 (c_X5_surveyFrom hAd ((k0 + 7) + 1) (k0 + 1) v2 (kf_6_0 (kf_3_1 hk0)) (kf_3_0 hk0) (wr σ (((k0 + 1) + 2) + 1 + nc v3) (nc v2) v5) qσ4) (by decide) (ci := 5) (kf_6_0 (kf_3_1 hk0)) (by decide) (cob_5 _ _ _) rfl rfl hl.1 rfl (Nat.le_of_ble_eq_true rfl) dX3_numbersOf_60) (fun H locs hH => ?_)
    refine lv_aload_n hx hb dX3_numbersOf_63 rfl (lv_at hl 0 rfl) ?_
    refine lv_aload_n hx hb dX3_numbersOf_64 rfl (lv_at hl 0 rfl) ?_
    refine gf_X3_12 C0 hH hk0 dX3_numbersOf_65 ?_
    refine gf_X3_56 C0 hH (kf_3_0 hk0) dX3_numbersOf_68 ?_
    obtain ⟨r5, σ6, qr5, h⟩ := ob2_s h
    refine go_i hH (va_run_V (As := [.int (σ4 (k0 + 1) 1)]) (rest := []) C0 hH lk_X3_76 (c_X3_isSoBy hAd k0 (σ4 (k0 + 1) 1) hk0 σ4 qr5) (by decide) (ci := 3) hk0 (by decide) (cob_3 _ _ _) rfl rfl hl.1 rfl (Nat.le_of_ble_eq_true rfl) dX3_numbersOf_71) (fun H locs hH => ?_)
    refine lv_if_eq (tgt := 86) hx hb dX3_numbersOf_74 (by decide) (fun c7 => ?_) (fun c7 => ?_)
    · replace h := if_t h c7
      exact w_X3_numbersOf_b86 C0 K28 hK28 k0 v2 v3 v4 v5 hk0 hH (lv_sub hl [0, 1, 2, 3, 4] rfl) h
    · replace h := if_f h c7
      refine lv_iload hx hb dX3_numbersOf_77 (lv_at hl 3 rfl) ?_
      refine lv_iconst (v := 1) hx hb dX3_numbersOf_79 (by decide) ?_
      refine lv_iload hx hb dX3_numbersOf_80 (lv_at hl 4 rfl) ?_
      refine lv_ishl hx hb dX3_numbersOf_82 ?_
      refine lv_ior hx hb dX3_numbersOf_83 ?_
      obtain ⟨x8, ex8, h⟩ := letv_s h
      refine topi_of ex8 ?_
      refine lv_istore (lv' := [(4, .int x8), (0, .ref (ea E k0)), (2, .int v2), (3, .int v3), (5, .int v5)]) hx hb dX3_numbersOf_84 hl (by decide) rfl (fun ls hl => ?_)
      exact w_X3_numbersOf_b86 C0 K28 hK28 k0 v2 v3 x8 v5 hk0 hH (lv_sub hl [1, 2, 3, 0, 4] rfl) h
set_option maxRecDepth 100000 in
set_option maxHeartbeats 4000000 in
theorem w_X3_numbersOf_l28 {r : Int32} {σ' : Mem} (C0 : Cx E p m c cX3_numbersOf 6 s args RX3 meth (some .int))  (n : Nat) : ∀ (k0 : Nat) (v2 : Int32) (v3 : Int32) (v4 : Int32) (v5 : Int32) (hk0 : kd k0 = 3) (σ : Mem) (H : Heap) (locs : List Loc) (ls : Array Slot), Hs E s σ H locs → lv_has ls 6 [(0, .ref (ea E k0)), (2, .int v2), (3, .int v3), (4, .int v4), (5, .int v5)] → X3_numbersOf_l28 n k0 v2 v3 v4 v5 σ = some (r, σ') → W p l e (rmD 18) s m args below meth c H locs 0 0 (MQ below (QiM E r σ') args s 0 0 (eA E)) (F0 m 28 ls []) := by
  induction n with
  | zero =>
    intro k0 v2 v3 v4 v5 hk0 σ H locs ls hH hl h
    cases h
  | succ n ih =>
    intro k0 v2 v3 v4 v5 hk0 σ H locs ls hH hl h
    exact w_X3_numbersOf_b28 C0 (X3_numbersOf_l28 n)  ih k0 v2 v3 v4 v5 hk0 hH hl h
set_option maxRecDepth 100000 in
set_option maxHeartbeats 4000000 in
theorem w_X3_numbersOf_b0 {r : Int32} {σ' : Mem} (C0 : Cx E p m c cX3_numbersOf 6 s args RX3 meth (some .int))  (k0 : Nat) (k1 : Nat) (v2 : Int32) (v3 : Int32) (hk0 : kd k0 = 3) (hk1 : kd k1 = 2) {σ : Mem} {H : Heap} {locs : List Loc} {ls : Array Slot} (hH : Hs E s σ H locs) (hl : lv_has ls 6 [(0, .ref (ea E k0)), (1, .ref (ea E k1)), (2, .int v2), (3, .int v3)]) (h : X3_numbersOf_b0 k0 k1 v2 v3 σ = some (r, σ')) : W p l e (rmD 18) s m args below meth c H locs 0 0 (MQ below (QiM E r σ') args s 0 0 (eA E)) (F0 m 0 ls []) := by
  obtain ⟨⟨hx, hb, hml, hown, hts⟩, hr, hlocks, hF, hAd⟩ := id C0
  unfold X3_numbersOf_b0 at h
  refine lv_aload_n hx hb dX3_numbersOf_0 rfl (lv_at hl 0 rfl) ?_
  refine gf_X3_12 C0 hH hk0 dX3_numbersOf_1 ?_
  refine lv_aload_n hx hb dX3_numbersOf_4 rfl (lv_at hl 1 rfl) ?_
  obtain ⟨σ1, qσ1, h⟩ := ob_s h
  refine go_v hH (va_run_V (As := [.ref (ea E k1)]) (rest := []) C0 hH lk_X3_39 (c_X2_becomeLike hAd (k0 + 1) k1 (kf_3_0 hk0) hk1 σ qσ1) (by decide) (ci := 2) (kf_3_0 hk0) (by decide) (cob_2 _ _ _) rfl rfl hl.1 rfl (Nat.le_of_ble_eq_true rfl) dX3_numbersOf_5) (fun H locs hH => ?_)
  refine lv_aload_n hx hb dX3_numbersOf_8 rfl (lv_at hl 0 rfl) ?_
  refine gf_X3_21 C0 hH hk0 dX3_numbersOf_9 ?_
  refine gf_X3_47 C0 hH (kf_3_1 hk0) dX3_numbersOf_12 ?_
  refine lv_aload_n hx hb dX3_numbersOf_15 rfl (lv_at hl 0 rfl) ?_
  refine gf_X3_12 C0 hH hk0 dX3_numbersOf_16 ?_
  obtain ⟨σ2, qσ2, h⟩ := ob_s h
  refine go_v hH (va_run_V (As := [.ref (ea E (k0 + 1))]) (rest := []) C0 hH lk_X3_51 (c_X5_survey hAd ((k0 + 7) + 1) (k0 + 1) (kf_6_0 (kf_3_1 hk0)) (kf_3_0 hk0) σ1 qσ2) (by decide) (ci := 5) (kf_6_0 (kf_3_1 hk0)) (by decide) (cob_5 _ _ _) rfl rfl hl.1 rfl (Nat.le_of_ble_eq_true rfl) dX3_numbersOf_19) (fun H locs hH => ?_)
  refine lv_iconst (v := 0) hx hb dX3_numbersOf_22 (by decide) ?_
  refine lv_istore (lv' := [(4, .int 0), (0, .ref (ea E k0)), (1, .ref (ea E k1)), (2, .int v2), (3, .int v3)]) hx hb dX3_numbersOf_23 hl (by decide) rfl (fun ls hl => ?_)
  refine lv_iconst (v := 0) hx hb dX3_numbersOf_25 (by decide) ?_
  refine lv_istore (lv' := [(5, .int 0), (4, .int 0), (0, .ref (ea E k0)), (1, .ref (ea E k1)), (2, .int v2), (3, .int v3)]) hx hb dX3_numbersOf_26 hl (by decide) rfl (fun ls hl => ?_)
  exact w_X3_numbersOf_l28 C0  FU k0 v2 v3 0 0 hk0 _ _ _ _ hH (lv_sub hl [2, 4, 5, 1, 0] rfl) h
theorem c_X3_numbersOf {l : Launch} {E : EnvT} (hAd : Ad E) (k0 : Nat) (k1 : Nat) (v2 : Int32) (v3 : Int32) (hk0 : kd k0 = 3) (hk1 : kd k1 = 2) (σ : Mem) {r : Int32} {σ' : Mem} (h : X3_numbersOf k0 k1 v2 v3 σ = some (r, σ')) : Met l yX3_numbersOf (wsM yX3_numbersOf cX3_numbersOf 6 (some .int)) (rmD 18) (PcM E [.ref (ea E k0), .ref (ea E k1), .int v2, .int v3] σ) (QiM E r σ') 0 0 (eA E) :=
  Met.ofM (by decide) (Nat.le_of_ble_eq_true rfl) (fun p e s m below meth c ls C0 hH hl => w_X3_numbersOf_b0 C0 k0 k1 v2 v3 hk0 hk1 hH hl h) hAd
set_option maxRecDepth 100000 in
set_option maxHeartbeats 4000000 in
theorem w_X11_power_b5 {r : Int64} (C0 : Cx E p m c cX11_power 5 s args RX11 meth (some .long)) (K5 : Int32 → Int32 → Int64 → Int32 → Option Int64) (hK5 : ∀ (v0 : Int32) (v1 : Int32) (v2 : Int64) (v4 : Int32)  (σ : Mem) (H : Heap) (locs : List Loc) (ls : Array Slot), Hs E s σ H locs → lv_has ls 5 [(0, .int v0), (1, .int v1), (2, .long v2), (4, .int v4)] → K5 v0 v1 v2 v4 = some r → W p l e (rmD 0) s m args below meth c H locs 0 0 (MQ below (QlM E r σ) args s 0 0 (eA E)) (F0 m 5 ls []))  (v0 : Int32) (v1 : Int32) (v2 : Int64) (v4 : Int32)  {σ : Mem} {H : Heap} {locs : List Loc} {ls : Array Slot} (hH : Hs E s σ H locs) (hl : lv_has ls 5 [(0, .int v0), (1, .int v1), (2, .long v2), (4, .int v4)]) (h : X11_power_b5 K5 v0 v1 v2 v4 = some r) : W p l e (rmD 0) s m args below meth c H locs 0 0 (MQ below (QlM E r σ) args s 0 0 (eA E)) (F0 m 5 ls []) := by
  obtain ⟨⟨hx, hb, hml, hown, hts⟩, hr, hlocks, hF, hAd⟩ := id C0
  unfold X11_power_b5 at h
  refine lv_iload hx hb dX11_power_5 (lv_at hl 3 rfl) ?_
  refine lv_iload_n hx hb dX11_power_7 rfl (lv_at hl 1 rfl) ?_
  refine lv_icmp_ge (tgt := 22) hx hb dX11_power_8 (by decide) (fun c1 => ?_) (fun c1 => ?_)
  · replace h := if_t h c1
    refine lv_lload_n hx hb dX11_power_22 rfl (lv_at hl 2 rfl) ?_
    exact r_lret C0 hH (Option.some.inj h) rfl dX11_power_23
  · replace h := if_f h c1
    refine lv_lload_n hx hb dX11_power_11 rfl (lv_at hl 2 rfl) ?_
    refine lv_iload_n hx hb dX11_power_12 rfl (lv_at hl 0 rfl) ?_
    refine lv_i2l (v := Int32.toInt64 v0) hx hb dX11_power_13 rfl ?_
    refine lv_lmul hx hb dX11_power_14 ?_
    obtain ⟨x2, ex2, h⟩ := letv_s h
    refine topl_of ex2 ?_
    refine lv_lstore_n (lv' := [(2, .long x2), (0, .int v0), (1, .int v1), (4, .int v4)]) hx hb dX11_power_15 rfl hl (by decide) rfl (fun ls hl => ?_)
    refine lv_iinc (v := v4 + 1) (lv' := [(4, .int (v4 + 1)), (2, .long x2), (0, .int v0), (1, .int v1)]) hx hb dX11_power_16 hl (k := 3) rfl rfl (by decide) rfl (fun ls hl => ?_)
    refine lv_goto (tgt := 5) hx hb dX11_power_19 (by decide) ?_
    exact hK5 v0 v1 x2 (v4 + 1)  _ _ _ _ hH (lv_sub hl [2, 3, 1, 0] rfl) h
set_option maxRecDepth 100000 in
set_option maxHeartbeats 4000000 in
theorem w_X11_power_l5 {r : Int64} (C0 : Cx E p m c cX11_power 5 s args RX11 meth (some .long))  (n : Nat) : ∀ (v0 : Int32) (v1 : Int32) (v2 : Int64) (v4 : Int32)  (σ : Mem) (H : Heap) (locs : List Loc) (ls : Array Slot), Hs E s σ H locs → lv_has ls 5 [(0, .int v0), (1, .int v1), (2, .long v2), (4, .int v4)] → X11_power_l5 n v0 v1 v2 v4 = some r → W p l e (rmD 0) s m args below meth c H locs 0 0 (MQ below (QlM E r σ) args s 0 0 (eA E)) (F0 m 5 ls []) := by
  induction n with
  | zero =>
    intro v0 v1 v2 v4  σ H locs ls hH hl h
    cases h
  | succ n ih =>
    intro v0 v1 v2 v4  σ H locs ls hH hl h
    exact w_X11_power_b5 C0 (X11_power_l5 n)  ih v0 v1 v2 v4  hH hl h
set_option maxRecDepth 100000 in
set_option maxHeartbeats 4000000 in
theorem w_X11_power_b0 {r : Int64} (C0 : Cx E p m c cX11_power 5 s args RX11 meth (some .long))  (v0 : Int32) (v1 : Int32)  {σ : Mem} {H : Heap} {locs : List Loc} {ls : Array Slot} (hH : Hs E s σ H locs) (hl : lv_has ls 5 [(0, .int v0), (1, .int v1)]) (h : X11_power_b0 v0 v1 = some r) : W p l e (rmD 0) s m args below meth c H locs 0 0 (MQ below (QlM E r σ) args s 0 0 (eA E)) (F0 m 0 ls []) := by
  obtain ⟨⟨hx, hb, hml, hown, hts⟩, hr, hlocks, hF, hAd⟩ := id C0
  unfold X11_power_b0 at h
  refine lv_lconst (v := 1) hx hb dX11_power_0 (by decide) ?_
  refine lv_lstore_n (lv' := [(2, .long 1), (0, .int v0), (1, .int v1)]) hx hb dX11_power_1 rfl hl (by decide) rfl (fun ls hl => ?_)
  refine lv_iconst (v := 0) hx hb dX11_power_2 (by decide) ?_
  refine lv_istore (lv' := [(4, .int 0), (2, .long 1), (0, .int v0), (1, .int v1)]) hx hb dX11_power_3 hl (by decide) rfl (fun ls hl => ?_)
  exact w_X11_power_l5 C0  FU v0 v1 1 0  _ _ _ _ hH (lv_sub hl [2, 3, 1, 0] rfl) h
theorem c_X11_power {l : Launch} {E : EnvT} (hAd : Ad E) (v0 : Int32) (v1 : Int32)  (σ : Mem) {r : Int64} (h : X11_power v0 v1 = some r) : Met l yX11_power (wsM yX11_power cX11_power 5 (some .long)) (rmD 0) (PcM E [.int v0, .int v1] σ) (QlM E r σ) 0 0 (eA E) :=
  Met.ofM (by decide) (Nat.le_of_ble_eq_true rfl) (fun p e s m below meth c ls C0 hH hl => w_X11_power_b0 C0 v0 v1  hH hl h) hAd
set_option maxRecDepth 100000 in
set_option maxHeartbeats 4000000 in
theorem w_X3_fewestFor_b83 {r : Int32} (C0 : Cx E p m c cX3_fewestFor 7 s args RX3 meth (some .int)) (K47 : Nat → Int32 → Int32 → Int32 → Int32 → Mem → Option Int32) (hK47 : ∀ (k0 : Nat) (v3 : Int32) (v4 : Int32) (v5 : Int32) (v6 : Int32) (hk0 : kd k0 = 3) (σ : Mem) (H : Heap) (locs : List Loc) (ls : Array Slot), Hs E s σ H locs → lv_has ls 7 [(0, .ref (ea E k0)), (3, .int v3), (4, .int v4), (5, .int v5), (6, .int v6)] → K47 k0 v3 v4 v5 v6 σ = some r → W p l e (rmD 1) s m args below meth c H locs 0 0 (MQ below (QiM E r σ) args s 0 0 (eA E)) (F0 m 47 ls []))  (k0 : Nat) (v3 : Int32) (v4 : Int32) (v5 : Int32) (v6 : Int32) (hk0 : kd k0 = 3) {σ : Mem} {H : Heap} {locs : List Loc} {ls : Array Slot} (hH : Hs E s σ H locs) (hl : lv_has ls 7 [(0, .ref (ea E k0)), (3, .int v3), (4, .int v4), (5, .int v5), (6, .int v6)]) (h : X3_fewestFor_b83 K47 k0 v3 v4 v5 v6 σ = some r) : W p l e (rmD 1) s m args below meth c H locs 0 0 (MQ below (QiM E r σ) args s 0 0 (eA E)) (F0 m 83 ls []) := by
  obtain ⟨⟨hx, hb, hml, hown, hts⟩, hr, hlocks, hF, hAd⟩ := id C0
  unfold X3_fewestFor_b83 at h
  refine lv_iload hx hb dX3_fewestFor_83 (lv_at hl 4 rfl) ?_
  refine lv_iconst (v := 1) hx hb dX3_fewestFor_85 (by decide) ?_
  refine lv_isub hx hb dX3_fewestFor_86 ?_
  refine lv_iload hx hb dX3_fewestFor_87 (lv_at hl 2 rfl) ?_
  refine lv_iand hx hb dX3_fewestFor_89 ?_
  obtain ⟨x1, ex1, h⟩ := letv_s h
  refine topi_of ex1 ?_
  refine lv_istore (lv' := [(6, .int x1), (0, .ref (ea E k0)), (3, .int v3), (4, .int v4), (5, .int v5)]) hx hb dX3_fewestFor_90 hl (by decide) rfl (fun ls hl => ?_)
  refine lv_goto (tgt := 47) hx hb dX3_fewestFor_92 (by decide) ?_
  exact hK47 k0 v3 v4 v5 x1 hk0 _ _ _ _ hH (lv_sub hl [1, 2, 3, 4, 0] rfl) h
set_option maxRecDepth 100000 in
set_option maxHeartbeats 4000000 in
theorem w_X3_fewestFor_b47 {r : Int32} (C0 : Cx E p m c cX3_fewestFor 7 s args RX3 meth (some .int)) (K47 : Nat → Int32 → Int32 → Int32 → Int32 → Mem → Option Int32) (hK47 : ∀ (k0 : Nat) (v3 : Int32) (v4 : Int32) (v5 : Int32) (v6 : Int32) (hk0 : kd k0 = 3) (σ : Mem) (H : Heap) (locs : List Loc) (ls : Array Slot), Hs E s σ H locs → lv_has ls 7 [(0, .ref (ea E k0)), (3, .int v3), (4, .int v4), (5, .int v5), (6, .int v6)] → K47 k0 v3 v4 v5 v6 σ = some r → W p l e (rmD 1) s m args below meth c H locs 0 0 (MQ below (QiM E r σ) args s 0 0 (eA E)) (F0 m 47 ls []))  (k0 : Nat) (v3 : Int32) (v4 : Int32) (v5 : Int32) (v6 : Int32) (hk0 : kd k0 = 3) {σ : Mem} {H : Heap} {locs : List Loc} {ls : Array Slot} (hH : Hs E s σ H locs) (hl : lv_has ls 7 [(0, .ref (ea E k0)), (3, .int v3), (4, .int v4), (5, .int v5), (6, .int v6)]) (h : X3_fewestFor_b47 K47 k0 v3 v4 v5 v6 σ = some r) : W p l e (rmD 1) s m args below meth c H locs 0 0 (MQ below (QiM E r σ) args s 0 0 (eA E)) (F0 m 47 ls []) := by
  obtain ⟨⟨hx, hb, hml, hown, hts⟩, hr, hlocks, hF, hAd⟩ := id C0
  unfold X3_fewestFor_b47 at h
  refine lv_iload hx hb dX3_fewestFor_47 (lv_at hl 4 rfl) ?_
  refine lv_if_le (tgt := 95) hx hb dX3_fewestFor_49 (by decide) (fun c1 => ?_) (fun c1 => ?_)
  · replace h := if_t h c1
    refine lv_iload hx hb dX3_fewestFor_95 (lv_at hl 3 rfl) ?_
    exact r_iret C0 hH (Option.some.inj h) rfl dX3_fewestFor_97
  · replace h := if_f h c1
    refine lv_aload_n hx hb dX3_fewestFor_52 rfl (lv_at hl 0 rfl) ?_
    refine gf_X3_33 C0 hH hk0 dX3_fewestFor_53 ?_
    refine lv_iload hx hb dX3_fewestFor_56 (lv_at hl 4 rfl) ?_
    obtain ⟨b2, h⟩ := gdx_s h
    refine r_iald C0 hH (n := 1024) (kf_3_4 hk0) b2 dX3_fewestFor_58 ?_
    refine lv_iconst (v := 1) hx hb dX3_fewestFor_59 (by decide) ?_
    refine lv_icmp_ne (tgt := 83) hx hb dX3_fewestFor_60 (by decide) (fun c3 => ?_) (fun c3 => ?_)
    · replace h := if_f h c3
      exact w_X3_fewestFor_b83 C0 K47 hK47 k0 v3 v4 v5 v6 hk0 hH (lv_sub hl [0, 1, 2, 3, 4] rfl) h
    · replace h := if_t h c3
      refine lv_iload hx hb dX3_fewestFor_63 (lv_at hl 3 rfl) ?_
      refine lv_iconst (v := 1) hx hb dX3_fewestFor_65 (by decide) ?_
      refine lv_aload_n hx hb dX3_fewestFor_66 rfl (lv_at hl 0 rfl) ?_
      refine gf_X3_33 C0 hH hk0 dX3_fewestFor_67 ?_
      refine lv_iload_n hx hb dX3_fewestFor_70 rfl (lv_at hl 1 rfl) ?_
      refine lv_iload hx hb dX3_fewestFor_71 (lv_at hl 4 rfl) ?_
      refine lv_iconst (v := (-1)) hx hb dX3_fewestFor_73 (by decide) ?_
      refine lv_ixor hx hb dX3_fewestFor_74 ?_
      refine lv_iand hx hb dX3_fewestFor_75 ?_
      obtain ⟨b4, h⟩ := gdx_s h
      refine r_iald C0 hH (n := 1024) (kf_3_4 hk0) b4 dX3_fewestFor_76 ?_
      refine lv_iadd hx hb dX3_fewestFor_77 ?_
      refine r_mmin C0 (h := 0) qM_X3_121 hl.1 rfl (Nat.le_of_ble_eq_true rfl) dX3_fewestFor_78 ?_
      obtain ⟨x5, ex5, h⟩ := letv_s h
      refine topi_of ex5 ?_
      refine lv_istore (lv' := [(5, .int x5), (0, .ref (ea E k0)), (3, .int v3), (4, .int v4), (6, .int v6)]) hx hb dX3_fewestFor_81 hl (by decide) rfl (fun ls hl => ?_)
      exact w_X3_fewestFor_b83 C0 K47 hK47 k0 v3 v4 x5 v6 hk0 hH (lv_sub hl [1, 2, 3, 0, 4] rfl) h
set_option maxRecDepth 100000 in
set_option maxHeartbeats 4000000 in
theorem w_X3_fewestFor_l47 {r : Int32} (C0 : Cx E p m c cX3_fewestFor 7 s args RX3 meth (some .int))  (n : Nat) : ∀ (k0 : Nat) (v3 : Int32) (v4 : Int32) (v5 : Int32) (v6 : Int32) (hk0 : kd k0 = 3) (σ : Mem) (H : Heap) (locs : List Loc) (ls : Array Slot), Hs E s σ H locs → lv_has ls 7 [(0, .ref (ea E k0)), (3, .int v3), (4, .int v4), (5, .int v5), (6, .int v6)] → X3_fewestFor_l47 n k0 v3 v4 v5 v6 σ = some r → W p l e (rmD 1) s m args below meth c H locs 0 0 (MQ below (QiM E r σ) args s 0 0 (eA E)) (F0 m 47 ls []) := by
  induction n with
  | zero =>
    intro k0 v3 v4 v5 v6 hk0 σ H locs ls hH hl h
    cases h
  | succ n ih =>
    intro k0 v3 v4 v5 v6 hk0 σ H locs ls hH hl h
    exact w_X3_fewestFor_b47 C0 (X3_fewestFor_l47 n)  ih k0 v3 v4 v5 v6 hk0 hH hl h
set_option maxRecDepth 100000 in
set_option maxHeartbeats 4000000 in
theorem w_X3_fewestFor_b0 {r : Int32} (C0 : Cx E p m c cX3_fewestFor 7 s args RX3 meth (some .int))  (k0 : Nat) (v1 : Int32) (hk0 : kd k0 = 3) {σ : Mem} {H : Heap} {locs : List Loc} {ls : Array Slot} (hH : Hs E s σ H locs) (hl : lv_has ls 7 [(0, .ref (ea E k0)), (1, .int v1)]) (h : X3_fewestFor_b0 k0 v1 σ = some r) : W p l e (rmD 1) s m args below meth c H locs 0 0 (MQ below (QiM E r σ) args s 0 0 (eA E)) (F0 m 0 ls []) := by
  obtain ⟨⟨hx, hb, hml, hown, hts⟩, hr, hlocks, hF, hAd⟩ := id C0
  unfold X3_fewestFor_b0 at h
  refine lv_iload_n hx hb dX3_fewestFor_0 rfl (lv_at hl 1 rfl) ?_
  refine lv_if_ne (tgt := 6) hx hb dX3_fewestFor_1 (by decide) (fun c1 => ?_) (fun c1 => ?_)
  · replace h := if_f h c1
    refine lv_iload_n hx hb dX3_fewestFor_6 rfl (lv_at hl 1 rfl) ?_
    refine go_i hH (va_run_S (As := [.int v1]) (rest := []) C0 hH lk_X3_115 (c_J6_numberOfTrailingZeros_0f7a4 hAd v1  σ rfl) (by decide) rfl hl.1 rfl (Nat.le_of_ble_eq_true rfl) dX3_fewestFor_7) (fun H locs hH => ?_)
    obtain ⟨x2, ex2, h⟩ := letv_s h
    refine topi_of ex2 ?_
    refine lv_istore_n (lv' := [(2, .int x2), (0, .ref (ea E k0)), (1, .int v1)]) hx hb dX3_fewestFor_10 rfl hl (by decide) rfl (fun ls hl => ?_)
    refine lv_iload_n hx hb dX3_fewestFor_11 rfl (lv_at hl 2 rfl) ?_
    refine lv_iload_n hx hb dX3_fewestFor_12 rfl (lv_at hl 2 rfl) ?_
    refine lv_iconst (v := 1) hx hb dX3_fewestFor_13 (by decide) ?_
    refine lv_isub hx hb dX3_fewestFor_14 ?_
    refine lv_iand hx hb dX3_fewestFor_15 ?_
    obtain ⟨x3, ex3, h⟩ := letv_s h
    refine topi_of ex3 ?_
    refine lv_istore_n (lv' := [(3, .int x3), (2, .int x2), (0, .ref (ea E k0)), (1, .int v1)]) hx hb dX3_fewestFor_16 rfl hl (by decide) rfl (fun ls hl => ?_)
    refine lv_iload_n hx hb dX3_fewestFor_17 rfl (lv_at hl 0 rfl) ?_
    refine lv_aload_n hx hb dX3_fewestFor_18 rfl (lv_at hl 2 rfl) ?_
    refine gf_X3_21 C0 hH hk0 dX3_fewestFor_19 ?_
    refine gf_X3_47 C0 hH (kf_3_1 hk0) dX3_fewestFor_22 ?_
    refine gf_X3_118 C0 hH (kf_6_0 (kf_3_1 hk0)) dX3_fewestFor_25 ?_
    refine lv_iload_n hx hb dX3_fewestFor_28 rfl (lv_at hl 1 rfl) ?_
    obtain ⟨b4, h⟩ := gdx_s h
    refine r_iald C0 hH (n := 10) (kf_5_2 (kf_6_0 (kf_3_1 hk0))) b4 dX3_fewestFor_29 ?_
    refine lv_iand hx hb dX3_fewestFor_30 ?_
    obtain ⟨x5, ex5, h⟩ := letv_s h
    refine topi_of ex5 ?_
    refine lv_istore (lv' := [(4, .int x5), (3, .int x3), (2, .int x2), (0, .ref (ea E k0)), (1, .int v1)]) hx hb dX3_fewestFor_31 hl (by decide) rfl (fun ls hl => ?_)
    refine lv_iconst (v := 1) hx hb dX3_fewestFor_33 (by decide) ?_
    refine lv_aload_n hx hb dX3_fewestFor_34 rfl (lv_at hl 3 rfl) ?_
    refine gf_X3_33 C0 hH hk0 dX3_fewestFor_35 ?_
    refine lv_iload_n hx hb dX3_fewestFor_38 rfl (lv_at hl 1 rfl) ?_
    obtain ⟨b6, h⟩ := gdx_s h
    refine r_iald C0 hH (n := 1024) (kf_3_4 hk0) b6 dX3_fewestFor_39 ?_
    refine lv_iadd hx hb dX3_fewestFor_40 ?_
    obtain ⟨x7, ex7, h⟩ := letv_s h
    refine topi_of ex7 ?_
    refine lv_istore (lv' := [(5, .int x7), (4, .int x5), (3, .int x3), (2, .int x2), (0, .ref (ea E k0)), (1, .int v1)]) hx hb dX3_fewestFor_41 hl (by decide) rfl (fun ls hl => ?_)
    refine lv_iload hx hb dX3_fewestFor_43 (lv_at hl 1 rfl) ?_
    refine lv_istore (lv' := [(6, .int x5), (5, .int x7), (4, .int x5), (3, .int x3), (2, .int x2), (0, .ref (ea E k0)), (1, .int v1)]) hx hb dX3_fewestFor_45 hl (by decide) rfl (fun ls hl => ?_)
    exact w_X3_fewestFor_l47 C0  FU k0 x3 x5 x7 x5 hk0 _ _ _ _ hH (lv_sub hl [5, 3, 2, 1, 0] rfl) h
  · replace h := if_t h c1
    refine lv_iconst (v := 0) hx hb dX3_fewestFor_4 (by decide) ?_
    exact r_iret C0 hH (Option.some.inj h) rfl dX3_fewestFor_5
theorem c_X3_fewestFor {l : Launch} {E : EnvT} (hAd : Ad E) (k0 : Nat) (v1 : Int32) (hk0 : kd k0 = 3) (σ : Mem) {r : Int32} (h : X3_fewestFor k0 v1 σ = some r) : Met l yX3_fewestFor (wsM yX3_fewestFor cX3_fewestFor 7 (some .int)) (rmD 1) (PcM E [.ref (ea E k0), .int v1] σ) (QiM E r σ) 0 0 (eA E) :=
  Met.ofM (by decide) (Nat.le_of_ble_eq_true rfl) (fun p e s m below meth c ls C0 hH hl => w_X3_fewestFor_b0 C0 k0 v1 hk0 hH hl h) hAd
set_option maxRecDepth 100000 in
set_option maxHeartbeats 4000000 in
theorem w_X3_goodCases_b97 {r : Int64} {σ' : Mem} (C0 : Cx E p m c cX3_goodCases 7 s args RX3 meth (some .long)) (K97 : Nat → Nat → Int32 → Int64 → Int32 → Mem → Option (Int64 × Mem)) (hK97 : ∀ (k0 : Nat) (k1 : Nat) (v3 : Int32) (v4 : Int64) (v6 : Int32) (hk0 : kd k0 = 3) (hk1 : kd k1 = 2) (σ : Mem) (H : Heap) (locs : List Loc) (ls : Array Slot), Hs E s σ H locs → lv_has ls 7 [(0, .ref (ea E k0)), (1, .ref (ea E k1)), (3, .int v3), (4, .long v4), (6, .int v6)] → K97 k0 k1 v3 v4 v6 σ = some (r, σ') → W p l e (rmD 5) s m args below meth c H locs 0 0 (MQ below (QlM E r σ') args s 0 0 (eA E)) (F0 m 97 ls []))  (k0 : Nat) (k1 : Nat) (v3 : Int32) (v4 : Int64) (v6 : Int32) (hk0 : kd k0 = 3) (hk1 : kd k1 = 2) {σ : Mem} {H : Heap} {locs : List Loc} {ls : Array Slot} (hH : Hs E s σ H locs) (hl : lv_has ls 7 [(0, .ref (ea E k0)), (1, .ref (ea E k1)), (3, .int v3), (4, .long v4), (6, .int v6)]) (h : X3_goodCases_b97 K97 k0 k1 v3 v4 v6 σ = some (r, σ')) : W p l e (rmD 5) s m args below meth c H locs 0 0 (MQ below (QlM E r σ') args s 0 0 (eA E)) (F0 m 97 ls []) := by
  obtain ⟨⟨hx, hb, hml, hown, hts⟩, hr, hlocks, hF, hAd⟩ := id C0
  unfold X3_goodCases_b97 at h
  refine lv_iload hx hb dX3_goodCases_97 (lv_at hl 4 rfl) ?_
  refine lv_aload_n hx hb dX3_goodCases_99 rfl (lv_at hl 1 rfl) ?_
  refine gf_X3_99 C0 hH hk1 dX3_goodCases_100 ?_
  refine lv_icmp_gt (tgt := 147) hx hb dX3_goodCases_103 (by decide) (fun c1 => ?_) (fun c1 => ?_)
  · replace h := if_t h c1
    refine lv_lload hx hb dX3_goodCases_147 (lv_at hl 3 rfl) ?_
    exact r_lret C0 hH (pj1 h) (pj2 h) dX3_goodCases_149
  · replace h := if_f h c1
    refine lv_lload hx hb dX3_goodCases_106 (lv_at hl 3 rfl) ?_
    refine lv_aload_n hx hb dX3_goodCases_108 rfl (lv_at hl 0 rfl) ?_
    refine gf_X3_36 C0 hH hk0 dX3_goodCases_109 ?_
    refine lv_iload hx hb dX3_goodCases_112 (lv_at hl 4 rfl) ?_
    obtain ⟨b2, h⟩ := gdx_s h
    refine r_iald C0 hH (n := 11) (kf_3_5 hk0) b2 dX3_goodCases_114 ?_
    refine lv_i2l (v := Int32.toInt64 (σ (k0 + 25) (nc v6))) hx hb dX3_goodCases_115 rfl ?_
    refine lv_bipush (v := 10) hx hb dX3_goodCases_116 (by decide) ?_
    refine lv_iload_n hx hb dX3_goodCases_118 rfl (lv_at hl 2 rfl) ?_
    refine lv_isub hx hb dX3_goodCases_119 ?_
    refine lv_iload hx hb dX3_goodCases_120 (lv_at hl 4 rfl) ?_
    obtain ⟨r3, qr3, h⟩ := ob_s h
    refine go_l hH (va_run_SN (As := [.int (10 - v3), .int v6]) (rest := [.long (Int32.toInt64 (σ (k0 + 25) (nc v6))), .long v4]) C0 hH hF.2.2.2.2.2.2.2 lk_X3_111 (c_X11_power hAd (10 - v3) v6  σ qr3) (by decide) rfl hl.1 rfl (Nat.le_of_ble_eq_true rfl) dX3_goodCases_122) (fun H locs hH => ?_)
    refine lv_lmul hx hb dX3_goodCases_125 ?_
    refine lv_iload_n hx hb dX3_goodCases_126 rfl (lv_at hl 2 rfl) ?_
    refine lv_aload_n hx hb dX3_goodCases_127 rfl (lv_at hl 1 rfl) ?_
    refine gf_X3_99 C0 hH hk1 dX3_goodCases_128 ?_
    refine lv_iload hx hb dX3_goodCases_131 (lv_at hl 4 rfl) ?_
    refine lv_isub hx hb dX3_goodCases_133 ?_
    obtain ⟨r4, qr4, h⟩ := ob_s h
    refine go_l hH (va_run_SN (As := [.int v3, .int ((σ k1 0) - v6)]) (rest := [.long ((Int32.toInt64 (σ (k0 + 25) (nc v6))) * r3), .long v4]) C0 hH hF.2.2.2.2.2.2.2 lk_X3_111 (c_X11_power hAd v3 ((σ k1 0) - v6)  σ qr4) (by decide) rfl hl.1 rfl (Nat.le_of_ble_eq_true rfl) dX3_goodCases_134) (fun H locs hH => ?_)
    refine lv_lmul hx hb dX3_goodCases_137 ?_
    refine lv_ladd hx hb dX3_goodCases_138 ?_
    obtain ⟨x5, ex5, h⟩ := letv_s h
    refine topl_of ex5 ?_
    refine lv_lstore (lv' := [(4, .long x5), (0, .ref (ea E k0)), (1, .ref (ea E k1)), (3, .int v3), (6, .int v6)]) hx hb dX3_goodCases_139 hl (by decide) rfl (fun ls hl => ?_)
    refine lv_iinc (v := v6 + 1) (lv' := [(6, .int (v6 + 1)), (4, .long x5), (0, .ref (ea E k0)), (1, .ref (ea E k1)), (3, .int v3)]) hx hb dX3_goodCases_141 hl (k := 4) rfl rfl (by decide) rfl (fun ls hl => ?_)
    refine lv_goto (tgt := 97) hx hb dX3_goodCases_144 (by decide) ?_
    exact hK97 k0 k1 v3 x5 (v6 + 1) hk0 hk1 _ _ _ _ hH (lv_sub hl [2, 3, 4, 1, 0] rfl) h
set_option maxRecDepth 100000 in
set_option maxHeartbeats 4000000 in
theorem w_X3_goodCases_l97 {r : Int64} {σ' : Mem} (C0 : Cx E p m c cX3_goodCases 7 s args RX3 meth (some .long))  (n : Nat) : ∀ (k0 : Nat) (k1 : Nat) (v3 : Int32) (v4 : Int64) (v6 : Int32) (hk0 : kd k0 = 3) (hk1 : kd k1 = 2) (σ : Mem) (H : Heap) (locs : List Loc) (ls : Array Slot), Hs E s σ H locs → lv_has ls 7 [(0, .ref (ea E k0)), (1, .ref (ea E k1)), (3, .int v3), (4, .long v4), (6, .int v6)] → X3_goodCases_l97 n k0 k1 v3 v4 v6 σ = some (r, σ') → W p l e (rmD 5) s m args below meth c H locs 0 0 (MQ below (QlM E r σ') args s 0 0 (eA E)) (F0 m 97 ls []) := by
  induction n with
  | zero =>
    intro k0 k1 v3 v4 v6 hk0 hk1 σ H locs ls hH hl h
    cases h
  | succ n ih =>
    intro k0 k1 v3 v4 v6 hk0 hk1 σ H locs ls hH hl h
    exact w_X3_goodCases_b97 C0 (X3_goodCases_l97 n)  ih k0 k1 v3 v4 v6 hk0 hk1 hH hl h
set_option maxRecDepth 100000 in
set_option maxHeartbeats 4000000 in
theorem w_X3_goodCases_b85 {r : Int64} {σ' : Mem} (C0 : Cx E p m c cX3_goodCases 7 s args RX3 meth (some .long)) (K36 : Nat → Nat → Int32 → Int32 → Int32 → Mem → Option (Int64 × Mem)) (hK36 : ∀ (k0 : Nat) (k1 : Nat) (v2 : Int32) (v3 : Int32) (v4 : Int32) (hk0 : kd k0 = 3) (hk1 : kd k1 = 2) (σ : Mem) (H : Heap) (locs : List Loc) (ls : Array Slot), Hs E s σ H locs → lv_has ls 7 [(0, .ref (ea E k0)), (1, .ref (ea E k1)), (2, .int v2), (3, .int v3), (4, .int v4)] → K36 k0 k1 v2 v3 v4 σ = some (r, σ') → W p l e (rmD 5) s m args below meth c H locs 0 0 (MQ below (QlM E r σ') args s 0 0 (eA E)) (F0 m 36 ls []))  (k0 : Nat) (k1 : Nat) (v2 : Int32) (v3 : Int32) (v4 : Int32) (hk0 : kd k0 = 3) (hk1 : kd k1 = 2) {σ : Mem} {H : Heap} {locs : List Loc} {ls : Array Slot} (hH : Hs E s σ H locs) (hl : lv_has ls 7 [(0, .ref (ea E k0)), (1, .ref (ea E k1)), (2, .int v2), (3, .int v3), (4, .int v4)]) (h : X3_goodCases_b85 K36 k0 k1 v2 v3 v4 σ = some (r, σ')) : W p l e (rmD 5) s m args below meth c H locs 0 0 (MQ below (QlM E r σ') args s 0 0 (eA E)) (F0 m 85 ls []) := by
  obtain ⟨⟨hx, hb, hml, hown, hts⟩, hr, hlocks, hF, hAd⟩ := id C0
  unfold X3_goodCases_b85 at h
  refine lv_iinc (v := v4 + 1) (lv' := [(4, .int (v4 + 1)), (0, .ref (ea E k0)), (1, .ref (ea E k1)), (2, .int v2), (3, .int v3)]) hx hb dX3_goodCases_85 hl (k := 4) rfl rfl (by decide) rfl (fun ls hl => ?_)
  refine lv_goto (tgt := 36) hx hb dX3_goodCases_88 (by decide) ?_
  exact hK36 k0 k1 v2 v3 (v4 + 1) hk0 hk1 _ _ _ _ hH (lv_sub hl [1, 2, 3, 4, 0] rfl) h
set_option maxRecDepth 100000 in
set_option maxHeartbeats 4000000 in
theorem w_X3_goodCases_b36 {r : Int64} {σ' : Mem} (C0 : Cx E p m c cX3_goodCases 7 s args RX3 meth (some .long)) (K36 : Nat → Nat → Int32 → Int32 → Int32 → Mem → Option (Int64 × Mem)) (hK36 : ∀ (k0 : Nat) (k1 : Nat) (v2 : Int32) (v3 : Int32) (v4 : Int32) (hk0 : kd k0 = 3) (hk1 : kd k1 = 2) (σ : Mem) (H : Heap) (locs : List Loc) (ls : Array Slot), Hs E s σ H locs → lv_has ls 7 [(0, .ref (ea E k0)), (1, .ref (ea E k1)), (2, .int v2), (3, .int v3), (4, .int v4)] → K36 k0 k1 v2 v3 v4 σ = some (r, σ') → W p l e (rmD 5) s m args below meth c H locs 0 0 (MQ below (QlM E r σ') args s 0 0 (eA E)) (F0 m 36 ls []))  (k0 : Nat) (k1 : Nat) (v2 : Int32) (v3 : Int32) (v4 : Int32) (hk0 : kd k0 = 3) (hk1 : kd k1 = 2) {σ : Mem} {H : Heap} {locs : List Loc} {ls : Array Slot} (hH : Hs E s σ H locs) (hl : lv_has ls 7 [(0, .ref (ea E k0)), (1, .ref (ea E k1)), (2, .int v2), (3, .int v3), (4, .int v4)]) (h : X3_goodCases_b36 K36 k0 k1 v2 v3 v4 σ = some (r, σ')) : W p l e (rmD 5) s m args below meth c H locs 0 0 (MQ below (QlM E r σ') args s 0 0 (eA E)) (F0 m 36 ls []) := by
  obtain ⟨⟨hx, hb, hml, hown, hts⟩, hr, hlocks, hF, hAd⟩ := id C0
  unfold X3_goodCases_b36 at h
  refine lv_iload hx hb dX3_goodCases_36 (lv_at hl 4 rfl) ?_
  refine lv_iconst (v := 1) hx hb dX3_goodCases_38 (by decide) ?_
  refine lv_aload_n hx hb dX3_goodCases_39 rfl (lv_at hl 1 rfl) ?_
  refine gf_X3_99 C0 hH hk1 dX3_goodCases_40 ?_
  refine lv_ishl hx hb dX3_goodCases_43 ?_
  refine lv_icmp_ge (tgt := 91) hx hb dX3_goodCases_44 (by decide) (fun c1 => ?_) (fun c1 => ?_)
  · replace h := if_t h c1
    refine lv_lconst (v := 0) hx hb dX3_goodCases_91 (by decide) ?_
    refine lv_lstore (lv' := [(4, .long 0), (0, .ref (ea E k0)), (1, .ref (ea E k1)), (2, .int v2), (3, .int v3)]) hx hb dX3_goodCases_92 hl (by decide) rfl (fun ls hl => ?_)
    refine lv_iconst (v := 0) hx hb dX3_goodCases_94 (by decide) ?_
    refine lv_istore (lv' := [(6, .int 0), (4, .long 0), (0, .ref (ea E k0)), (1, .ref (ea E k1)), (2, .int v2), (3, .int v3)]) hx hb dX3_goodCases_95 hl (by decide) rfl (fun ls hl => ?_)
    exact w_X3_goodCases_l97 C0  FU k0 k1 v3 0 0 hk0 hk1 _ _ _ _ hH (lv_sub hl [2, 3, 5, 1, 0] rfl) h
  · replace h := if_f h c1
    refine lv_aload_n hx hb dX3_goodCases_47 rfl (lv_at hl 0 rfl) ?_
    refine gf_X3_33 C0 hH hk0 dX3_goodCases_48 ?_
    refine lv_iload hx hb dX3_goodCases_51 (lv_at hl 4 rfl) ?_
    refine lv_aload_n hx hb dX3_goodCases_53 rfl (lv_at hl 0 rfl) ?_
    refine lv_iload hx hb dX3_goodCases_54 (lv_at hl 4 rfl) ?_
    obtain ⟨r2, qr2, h⟩ := ob_s h
    refine go_i hH (va_run_V (As := [.int v4]) (rest := [.int v4, .ref (ea E (k0 + 24))]) C0 hH lk_X3_102 (c_X3_fewestFor hAd k0 v4 hk0 σ qr2) (by decide) (ci := 3) hk0 (by decide) (cob_3 _ _ _) rfl rfl hl.1 rfl (Nat.le_of_ble_eq_true rfl) dX3_goodCases_56) (fun H locs hH => ?_)
    obtain ⟨b3, h⟩ := gdx_s h
    refine r_iast C0 hH (n := 1024) (kf_3_4 hk0) b3 dX3_goodCases_59 (fun H locs hH => ?_)
    refine lv_aload_n hx hb dX3_goodCases_60 rfl (lv_at hl 0 rfl) ?_
    refine gf_X3_33 C0 hH hk0 dX3_goodCases_61 ?_
    refine lv_iload hx hb dX3_goodCases_64 (lv_at hl 4 rfl) ?_
    obtain ⟨σ4, eσ4, h⟩ := letv_s h
    replace hH := hs_of eσ4 hH
    obtain ⟨b5, h⟩ := gdx_s h
    refine r_iald C0 hH (n := 1024) (kf_3_4 hk0) b5 dX3_goodCases_66 ?_
    refine lv_iload_n hx hb dX3_goodCases_67 rfl (lv_at hl 2 rfl) ?_
    refine lv_icmp_gt (tgt := 85) hx hb dX3_goodCases_68 (by decide) (fun c6 => ?_) (fun c6 => ?_)
    · replace h := if_t h c6
      exact w_X3_goodCases_b85 C0 K36 hK36 k0 k1 v2 v3 v4 hk0 hk1 hH (lv_sub hl [0, 1, 2, 3, 4] rfl) h
    · replace h := if_f h c6
      refine lv_aload_n hx hb dX3_goodCases_71 rfl (lv_at hl 0 rfl) ?_
      refine gf_X3_36 C0 hH hk0 dX3_goodCases_72 ?_
      refine lv_iload hx hb dX3_goodCases_75 (lv_at hl 4 rfl) ?_
      refine go_i hH (va_run_S (As := [.int v4]) (rest := [.ref (ea E (k0 + 25))]) C0 hH lk_X3_106 (c_J6_bitCount_0f7a4 hAd v4  σ4 rfl) (by decide) rfl hl.1 rfl (Nat.le_of_ble_eq_true rfl) dX3_goodCases_77) (fun H locs hH => ?_)
      refine lv_dup2_11 hx hb dX3_goodCases_80 rfl rfl ?_
      obtain ⟨b7, h⟩ := gdx_s h
      refine r_iald C0 hH (n := 11) (kf_3_5 hk0) b7 dX3_goodCases_81 ?_
      refine lv_iconst (v := 1) hx hb dX3_goodCases_82 (by decide) ?_
      refine lv_iadd hx hb dX3_goodCases_83 ?_
      obtain ⟨b8, h⟩ := gdx_s h
      refine r_iast C0 hH (n := 11) (kf_3_5 hk0) b8 dX3_goodCases_84 (fun H locs hH => ?_)
      exact w_X3_goodCases_b85 C0 K36 hK36 k0 k1 v2 v3 v4 hk0 hk1 hH (lv_sub hl [0, 1, 2, 3, 4] rfl) h
set_option maxRecDepth 100000 in
set_option maxHeartbeats 4000000 in
theorem w_X3_goodCases_l36 {r : Int64} {σ' : Mem} (C0 : Cx E p m c cX3_goodCases 7 s args RX3 meth (some .long))  (n : Nat) : ∀ (k0 : Nat) (k1 : Nat) (v2 : Int32) (v3 : Int32) (v4 : Int32) (hk0 : kd k0 = 3) (hk1 : kd k1 = 2) (σ : Mem) (H : Heap) (locs : List Loc) (ls : Array Slot), Hs E s σ H locs → lv_has ls 7 [(0, .ref (ea E k0)), (1, .ref (ea E k1)), (2, .int v2), (3, .int v3), (4, .int v4)] → X3_goodCases_l36 n k0 k1 v2 v3 v4 σ = some (r, σ') → W p l e (rmD 5) s m args below meth c H locs 0 0 (MQ below (QlM E r σ') args s 0 0 (eA E)) (F0 m 36 ls []) := by
  induction n with
  | zero =>
    intro k0 k1 v2 v3 v4 hk0 hk1 σ H locs ls hH hl h
    cases h
  | succ n ih =>
    intro k0 k1 v2 v3 v4 hk0 hk1 σ H locs ls hH hl h
    exact w_X3_goodCases_b36 C0 (X3_goodCases_l36 n)  ih k0 k1 v2 v3 v4 hk0 hk1 hH hl h
set_option maxRecDepth 100000 in
set_option maxHeartbeats 4000000 in
theorem w_X3_goodCases_b0 {r : Int64} {σ' : Mem} (C0 : Cx E p m c cX3_goodCases 7 s args RX3 meth (some .long))  (k0 : Nat) (k1 : Nat) (v2 : Int32) (v3 : Int32) (hk0 : kd k0 = 3) (hk1 : kd k1 = 2) {σ : Mem} {H : Heap} {locs : List Loc} {ls : Array Slot} (hH : Hs E s σ H locs) (hl : lv_has ls 7 [(0, .ref (ea E k0)), (1, .ref (ea E k1)), (2, .int v2), (3, .int v3)]) (h : X3_goodCases_b0 k0 k1 v2 v3 σ = some (r, σ')) : W p l e (rmD 5) s m args below meth c H locs 0 0 (MQ below (QlM E r σ') args s 0 0 (eA E)) (F0 m 0 ls []) := by
  obtain ⟨⟨hx, hb, hml, hown, hts⟩, hr, hlocks, hF, hAd⟩ := id C0
  unfold X3_goodCases_b0 at h
  refine lv_aload_n hx hb dX3_goodCases_0 rfl (lv_at hl 0 rfl) ?_
  refine gf_X3_21 C0 hH hk0 dX3_goodCases_1 ?_
  refine gf_X3_47 C0 hH (kf_3_1 hk0) dX3_goodCases_4 ?_
  refine lv_aload_n hx hb dX3_goodCases_7 rfl (lv_at hl 1 rfl) ?_
  obtain ⟨σ1, qσ1, h⟩ := ob_s h
  refine go_v hH (va_run_V (As := [.ref (ea E k1)]) (rest := []) C0 hH lk_X3_51 (c_X5_survey hAd ((k0 + 7) + 1) k1 (kf_6_0 (kf_3_1 hk0)) hk1 σ qσ1) (by decide) (ci := 5) (kf_6_0 (kf_3_1 hk0)) (by decide) (cob_5 _ _ _) rfl rfl hl.1 rfl (Nat.le_of_ble_eq_true rfl) dX3_goodCases_8) (fun H locs hH => ?_)
  refine lv_aload_n hx hb dX3_goodCases_11 rfl (lv_at hl 0 rfl) ?_
  refine gf_X3_21 C0 hH hk0 dX3_goodCases_12 ?_
  refine gf_X3_47 C0 hH (kf_3_1 hk0) dX3_goodCases_15 ?_
  refine lv_aload_n hx hb dX3_goodCases_18 rfl (lv_at hl 1 rfl) ?_
  refine gf_X3_56 C0 hH hk1 dX3_goodCases_19 ?_
  obtain ⟨σ2, qσ2, h⟩ := ob_s h
  refine go_v hH (va_run_V (As := [.int (σ1 k1 1)]) (rest := []) C0 hH lk_X3_65 (c_X5_markNear hAd ((k0 + 7) + 1) (σ1 k1 1) (kf_6_0 (kf_3_1 hk0)) σ1 qσ2) (by decide) (ci := 5) (kf_6_0 (kf_3_1 hk0)) (by decide) (cob_5 _ _ _) rfl rfl hl.1 rfl (Nat.le_of_ble_eq_true rfl) dX3_goodCases_22) (fun H locs hH => ?_)
  refine lv_aload_n hx hb dX3_goodCases_25 rfl (lv_at hl 0 rfl) ?_
  refine gf_X3_36 C0 hH hk0 dX3_goodCases_26 ?_
  refine lv_iconst (v := 0) hx hb dX3_goodCases_29 (by decide) ?_
  obtain ⟨σ3, qσ3, h⟩ := ob_s h
  refine go_v hH (va_run_S (As := [.ref (ea E (k0 + 25)), .int 0]) (rest := []) C0 hH lk_X3_93 (c_J7_fill_53178 hAd 11 (k0 + 25) 0 (kf_3_5 hk0) σ2 qσ3) (by decide) rfl hl.1 rfl (Nat.le_of_ble_eq_true rfl) dX3_goodCases_30) (fun H locs hH => ?_)
  refine lv_iconst (v := 0) hx hb dX3_goodCases_33 (by decide) ?_
  refine lv_istore (lv' := [(4, .int 0), (0, .ref (ea E k0)), (1, .ref (ea E k1)), (2, .int v2), (3, .int v3)]) hx hb dX3_goodCases_34 hl (by decide) rfl (fun ls hl => ?_)
  exact w_X3_goodCases_l36 C0  FU k0 k1 v2 v3 0 hk0 hk1 _ _ _ _ hH (lv_sub hl [1, 2, 3, 4, 0] rfl) h
theorem c_X3_goodCases {l : Launch} {E : EnvT} (hAd : Ad E) (k0 : Nat) (k1 : Nat) (v2 : Int32) (v3 : Int32) (hk0 : kd k0 = 3) (hk1 : kd k1 = 2) (σ : Mem) {r : Int64} {σ' : Mem} (h : X3_goodCases k0 k1 v2 v3 σ = some (r, σ')) : Met l yX3_goodCases (wsM yX3_goodCases cX3_goodCases 7 (some .long)) (rmD 5) (PcM E [.ref (ea E k0), .ref (ea E k1), .int v2, .int v3] σ) (QlM E r σ') 0 0 (eA E) :=
  Met.ofM (by decide) (Nat.le_of_ble_eq_true rfl) (fun p e s m below meth c ls C0 hH hl => w_X3_goodCases_b0 C0 k0 k1 v2 v3 hk0 hk1 hH hl h) hAd
set_option maxRecDepth 100000 in
set_option maxHeartbeats 4000000 in
theorem w_X3_draw_b45 {r : Int32} {σ' : Mem} (C0 : Cx E p m c cX3_draw 10 s args RX3 meth (some .int)) (K45 : Nat → Int32 → Int64 → Int32 → Int32 → Mem → Option (Int32 × Mem)) (hK45 : ∀ (k0 : Nat) (v2 : Int32) (v4 : Int64) (v6 : Int32) (v7 : Int32) (hk0 : kd k0 = 3) (σ : Mem) (H : Heap) (locs : List Loc) (ls : Array Slot), Hs E s σ H locs → lv_has ls 10 [(0, .ref (ea E k0)), (2, .int v2), (4, .long v4), (6, .int v6), (7, .int v7)] → K45 k0 v2 v4 v6 v7 σ = some (r, σ') → W p l e (rmD 17) s m args below meth c H locs 0 0 (MQ below (QiM E r σ') args s 0 0 (eA E)) (F0 m 45 ls []))  (k0 : Nat) (v2 : Int32) (v4 : Int64) (v6 : Int32) (v7 : Int32) (hk0 : kd k0 = 3) {σ : Mem} {H : Heap} {locs : List Loc} {ls : Array Slot} (hH : Hs E s σ H locs) (hl : lv_has ls 10 [(0, .ref (ea E k0)), (2, .int v2), (4, .long v4), (6, .int v6), (7, .int v7)]) (h : X3_draw_b45 K45 k0 v2 v4 v6 v7 σ = some (r, σ')) : W p l e (rmD 17) s m args below meth c H locs 0 0 (MQ below (QiM E r σ') args s 0 0 (eA E)) (F0 m 45 ls []) := by
  obtain ⟨⟨hx, hb, hml, hown, hts⟩, hr, hlocks, hF, hAd⟩ := id C0
  unfold X3_draw_b45 at h
  refine lv_iload hx hb dX3_draw_45 (lv_at hl 4 rfl) ?_
  refine lv_iload_n hx hb dX3_draw_47 rfl (lv_at hl 1 rfl) ?_
  refine lv_icmp_ge (tgt := 162) hx hb dX3_draw_48 (by decide) (fun c1 => ?_) (fun c1 => ?_)
  · replace h := if_t h c1
    refine lv_iload hx hb dX3_draw_162 (lv_at hl 3 rfl) ?_
    exact r_iret C0 hH (pj1 h) (pj2 h) dX3_draw_164
  · replace h := if_f h c1
    refine lv_lload hx hb dX3_draw_51 (lv_at hl 2 rfl) ?_
    refine lv_ldc2 hx hb hown (hts _ qL_X3_127) dX3_draw_53 ?_
    refine lv_lmul hx hb dX3_draw_56 ?_
    refine lv_ldc2 hx hb hown (hts _ qL_X3_129) dX3_draw_57 ?_
    refine lv_lrem hx hb dX3_draw_60 (by decide) ?_
    obtain ⟨x2, ex2, h⟩ := letv_s h
    refine topl_of ex2 ?_
    refine lv_lstore (lv' := [(4, .long x2), (0, .ref (ea E k0)), (2, .int v2), (6, .int v6), (7, .int v7)]) hx hb dX3_draw_61 hl (by decide) rfl (fun ls hl => ?_)
    refine lv_lload hx hb dX3_draw_63 (lv_at hl 0 rfl) ?_
    refine lv_aload_n hx hb dX3_draw_65 rfl (lv_at hl 1 rfl) ?_
    refine gf_X3_12 C0 hH hk0 dX3_draw_66 ?_
    refine gf_X3_99 C0 hH (kf_3_0 hk0) dX3_draw_69 ?_
    refine lv_i2l (v := Int32.toInt64 (σ (k0 + 1) 0)) hx hb dX3_draw_72 rfl ?_
    obtain ⟨z3, h⟩ := gdl_s h
    refine lv_lrem hx hb dX3_draw_73 z3 ?_
    refine lv_l2i (v := Int64.toInt32 (lrm x2 (Int32.toInt64 (σ (k0 + 1) 0)))) hx hb dX3_draw_74 rfl ?_
    obtain ⟨x4, ex4, h⟩ := letv_s h
    refine topi_of ex4 ?_
    refine lv_istore (lv' := [(8, .int x4), (4, .long x2), (0, .ref (ea E k0)), (2, .int v2), (6, .int v6), (7, .int v7)]) hx hb dX3_draw_75 hl (by decide) rfl (fun ls hl => ?_)
    refine lv_lload hx hb dX3_draw_77 (lv_at hl 1 rfl) ?_
    refine lv_ldc2 hx hb hown (hts _ qL_X3_131) dX3_draw_79 ?_
    refine lv_ldiv hx hb dX3_draw_82 (by decide) ?_
    refine lv_ldc2 hx hb hown (hts _ qL_X3_133) dX3_draw_83 ?_
    refine lv_lrem hx hb dX3_draw_86 (by decide) ?_
    refine lv_l2i (v := Int64.toInt32 (lrm (x2 / 16) 3)) hx hb dX3_draw_87 rfl ?_
    obtain ⟨x5, ex5, h⟩ := letv_s h
    refine topi_of ex5 ?_
    refine lv_istore (lv' := [(9, .int x5), (8, .int x4), (4, .long x2), (0, .ref (ea E k0)), (2, .int v2), (6, .int v6), (7, .int v7)]) hx hb dX3_draw_88 hl (by decide) rfl (fun ls hl => ?_)
    refine lv_aload_n hx hb dX3_draw_90 rfl (lv_at hl 3 rfl) ?_
    refine gf_X3_12 C0 hH hk0 dX3_draw_91 ?_
    refine gf_X3_86 C0 hH (kf_3_0 hk0) dX3_draw_94 ?_
    refine lv_iload hx hb dX3_draw_97 (lv_at hl 0 rfl) ?_
    obtain ⟨b6, h⟩ := gdx_s h
    refine ra_13 C0 hH (kf_2_4 (kf_3_0 hk0)) b6 dX3_draw_99 ?_
    refine lv_iload hx hb dX3_draw_100 (lv_at hl 1 rfl) ?_
    refine lv_lload hx hb dX3_draw_102 (lv_at hl 2 rfl) ?_
    refine lv_ldc2 hx hb hown (hts _ qL_X3_135) dX3_draw_104 ?_
    refine lv_ldiv hx hb dX3_draw_107 (by decide) ?_
    refine lv_ldc2 hx hb hown (hts _ qL_X3_137) dX3_draw_108 ?_
    refine lv_lrem hx hb dX3_draw_111 (by decide) ?_
    refine lv_l2i (v := Int64.toInt32 (lrm (x2 / 64) 31)) hx hb dX3_draw_112 rfl ?_
    obtain ⟨b7, h⟩ := gdx_s h
    refine r_iast C0 hH (n := 10) (ka_13 (kf_2_4 (kf_3_0 hk0)) b6) b7 dX3_draw_113 (fun H locs hH => ?_)
    refine lv_aload_n hx hb dX3_draw_114 rfl (lv_at hl 3 rfl) ?_
    refine gf_X3_21 C0 hH hk0 dX3_draw_115 ?_
    refine gf_X3_47 C0 hH (kf_3_1 hk0) dX3_draw_118 ?_
    refine lv_aload_n hx hb dX3_draw_121 rfl (lv_at hl 3 rfl) ?_
    refine gf_X3_12 C0 hH hk0 dX3_draw_122 ?_
    refine lv_iload hx hb dX3_draw_125 (lv_at hl 1 rfl) ?_
    obtain ⟨σ8, qσ8, h⟩ := ob_s h
    refine go_v hH (va_run_V (As := [.ref (ea E (k0 + 1)), .int x4]) (rest := []) C0 hH lk_X3_82 (c_X5_surveyFrom hAd ((k0 + 7) + 1) (k0 + 1) x4 (kf_6_0 (kf_3_1 hk0)) (kf_3_0 hk0) (wr σ (((k0 + 1) + 2) + 1 + nc x5) (nc x4) (Int64.toInt32 (lrm (x2 / 64) 31))) qσ8) (by decide) (ci := 5) (kf_6_0 (kf_3_1 hk0)) (by decide) (cob_5 _ _ _) rfl rfl hl.1 rfl (Nat.le_of_ble_eq_true rfl) dX3_draw_127) (fun H locs hH => ?_)
    refine lv_aload_n hx hb dX3_draw_130 rfl (lv_at hl 3 rfl) ?_
    refine gf_X3_21 C0 hH hk0 dX3_draw_131 ?_
    refine lv_aload_n hx hb dX3_draw_134 rfl (lv_at hl 3 rfl) ?_
    refine gf_X3_12 C0 hH hk0 dX3_draw_135 ?_
    refine gf_X3_56 C0 hH (kf_3_0 hk0) dX3_draw_138 ?_
    obtain ⟨σ9, qσ9, h⟩ := ob_s h
    refine go_v hH (va_run_V (As := [.int (σ8 (k0 + 1) 1)]) (rest := []) C0 hH lk_X3_59 (c_X6_findFor hAd (k0 + 7) (σ8 (k0 + 1) 1) (kf_3_1 hk0) σ8 qσ9) (by decide) (ci := 6) (kf_3_1 hk0) (by decide) (cob_6 _ _ _) rfl rfl hl.1 rfl (Nat.le_of_ble_eq_true rfl) dX3_draw_141) (fun H locs hH => ?_)
    refine lv_iload hx hb dX3_draw_144 (lv_at hl 5 rfl) ?_
    refine lv_aload_n hx hb dX3_draw_146 rfl (lv_at hl 3 rfl) ?_
    refine gf_X3_21 C0 hH hk0 dX3_draw_147 ?_
    refine gf_X3_62 C0 hH (kf_3_1 hk0) dX3_draw_150 ?_
    refine lv_iadd hx hb dX3_draw_153 ?_
    obtain ⟨x10, ex10, h⟩ := letv_s h
    refine topi_of ex10 ?_
    refine lv_istore (lv' := [(6, .int x10), (9, .int x5), (8, .int x4), (4, .long x2), (0, .ref (ea E k0)), (2, .int v2), (7, .int v7)]) hx hb dX3_draw_154 hl (by decide) rfl (fun ls hl => ?_)
    refine lv_iinc (v := v7 + 1) (lv' := [(7, .int (v7 + 1)), (6, .int x10), (9, .int x5), (8, .int x4), (4, .long x2), (0, .ref (ea E k0)), (2, .int v2)]) hx hb dX3_draw_156 hl (k := 6) rfl rfl (by decide) rfl (fun ls hl => ?_)
    refine lv_goto (tgt := 45) hx hb dX3_draw_159 (by decide) ?_
    exact hK45 k0 v2 x2 x10 (v7 + 1) hk0 _ _ _ _ hH (lv_sub hl [5, 6, 4, 1, 0] rfl) h
set_option maxRecDepth 100000 in
set_option maxHeartbeats 4000000 in
theorem w_X3_draw_l45 {r : Int32} {σ' : Mem} (C0 : Cx E p m c cX3_draw 10 s args RX3 meth (some .int))  (n : Nat) : ∀ (k0 : Nat) (v2 : Int32) (v4 : Int64) (v6 : Int32) (v7 : Int32) (hk0 : kd k0 = 3) (σ : Mem) (H : Heap) (locs : List Loc) (ls : Array Slot), Hs E s σ H locs → lv_has ls 10 [(0, .ref (ea E k0)), (2, .int v2), (4, .long v4), (6, .int v6), (7, .int v7)] → X3_draw_l45 n k0 v2 v4 v6 v7 σ = some (r, σ') → W p l e (rmD 17) s m args below meth c H locs 0 0 (MQ below (QiM E r σ') args s 0 0 (eA E)) (F0 m 45 ls []) := by
  induction n with
  | zero =>
    intro k0 v2 v4 v6 v7 hk0 σ H locs ls hH hl h
    cases h
  | succ n ih =>
    intro k0 v2 v4 v6 v7 hk0 σ H locs ls hH hl h
    exact w_X3_draw_b45 C0 (X3_draw_l45 n)  ih k0 v2 v4 v6 v7 hk0 hH hl h
set_option maxRecDepth 100000 in
set_option maxHeartbeats 4000000 in
theorem w_X3_draw_b0 {r : Int32} {σ' : Mem} (C0 : Cx E p m c cX3_draw 10 s args RX3 meth (some .int))  (k0 : Nat) (k1 : Nat) (v2 : Int32) (v3 : Int32) (hk0 : kd k0 = 3) (hk1 : kd k1 = 2) {σ : Mem} {H : Heap} {locs : List Loc} {ls : Array Slot} (hH : Hs E s σ H locs) (hl : lv_has ls 10 [(0, .ref (ea E k0)), (1, .ref (ea E k1)), (2, .int v2), (3, .int v3)]) (h : X3_draw_b0 k0 k1 v2 v3 σ = some (r, σ')) : W p l e (rmD 17) s m args below meth c H locs 0 0 (MQ below (QiM E r σ') args s 0 0 (eA E)) (F0 m 0 ls []) := by
  obtain ⟨⟨hx, hb, hml, hown, hts⟩, hr, hlocks, hF, hAd⟩ := id C0
  unfold X3_draw_b0 at h
  refine lv_aload_n hx hb dX3_draw_0 rfl (lv_at hl 0 rfl) ?_
  refine gf_X3_12 C0 hH hk0 dX3_draw_1 ?_
  refine lv_aload_n hx hb dX3_draw_4 rfl (lv_at hl 1 rfl) ?_
  obtain ⟨σ1, qσ1, h⟩ := ob_s h
  refine go_v hH (va_run_V (As := [.ref (ea E k1)]) (rest := []) C0 hH lk_X3_39 (c_X2_becomeLike hAd (k0 + 1) k1 (kf_3_0 hk0) hk1 σ qσ1) (by decide) (ci := 2) (kf_3_0 hk0) (by decide) (cob_2 _ _ _) rfl rfl hl.1 rfl (Nat.le_of_ble_eq_true rfl) dX3_draw_5) (fun H locs hH => ?_)
  refine lv_aload_n hx hb dX3_draw_8 rfl (lv_at hl 0 rfl) ?_
  refine gf_X3_21 C0 hH hk0 dX3_draw_9 ?_
  refine gf_X3_47 C0 hH (kf_3_1 hk0) dX3_draw_12 ?_
  refine lv_aload_n hx hb dX3_draw_15 rfl (lv_at hl 0 rfl) ?_
  refine gf_X3_12 C0 hH hk0 dX3_draw_16 ?_
  obtain ⟨σ2, qσ2, h⟩ := ob_s h
  refine go_v hH (va_run_V (As := [.ref (ea E (k0 + 1))]) (rest := []) C0 hH lk_X3_51 (c_X5_survey hAd ((k0 + 7) + 1) (k0 + 1) (kf_6_0 (kf_3_1 hk0)) (kf_3_0 hk0) σ1 qσ2) (by decide) (ci := 5) (kf_6_0 (kf_3_1 hk0)) (by decide) (cob_5 _ _ _) rfl rfl hl.1 rfl (Nat.le_of_ble_eq_true rfl) dX3_draw_19) (fun H locs hH => ?_)
  refine lv_aload_n hx hb dX3_draw_22 rfl (lv_at hl 0 rfl) ?_
  refine gf_X3_12 C0 hH hk0 dX3_draw_23 ?_
  refine gf_X3_99 C0 hH (kf_3_0 hk0) dX3_draw_26 ?_
  refine lv_iconst (v := 1) hx hb dX3_draw_29 (by decide) ?_
  refine lv_icmp_ge (tgt := 35) hx hb dX3_draw_30 (by decide) (fun c3 => ?_) (fun c3 => ?_)
  · replace h := if_t h c3
    refine lv_iload_n hx hb dX3_draw_35 rfl (lv_at hl 3 rfl) ?_
    refine lv_i2l (v := Int32.toInt64 v3) hx hb dX3_draw_36 rfl ?_
    obtain ⟨x4, ex4, h⟩ := letv_s h
    refine topl_of ex4 ?_
    refine lv_lstore (lv' := [(4, .long x4), (0, .ref (ea E k0)), (1, .ref (ea E k1)), (2, .int v2), (3, .int v3)]) hx hb dX3_draw_37 hl (by decide) rfl (fun ls hl => ?_)
    refine lv_iconst (v := 0) hx hb dX3_draw_39 (by decide) ?_
    refine lv_istore (lv' := [(6, .int 0), (4, .long x4), (0, .ref (ea E k0)), (1, .ref (ea E k1)), (2, .int v2), (3, .int v3)]) hx hb dX3_draw_40 hl (by decide) rfl (fun ls hl => ?_)
    refine lv_iconst (v := 0) hx hb dX3_draw_42 (by decide) ?_
    refine lv_istore (lv' := [(7, .int 0), (6, .int 0), (4, .long x4), (0, .ref (ea E k0)), (1, .ref (ea E k1)), (2, .int v2), (3, .int v3)]) hx hb dX3_draw_43 hl (by decide) rfl (fun ls hl => ?_)
    exact w_X3_draw_l45 C0  FU k0 v2 x4 0 0 hk0 _ _ _ _ hH (lv_sub hl [3, 5, 2, 1, 0] rfl) h
  · replace h := if_f h c3
    refine lv_iconst (v := 0) hx hb dX3_draw_33 (by decide) ?_
    exact r_iret C0 hH (pj1 h) (pj2 h) dX3_draw_34
theorem c_X3_draw {l : Launch} {E : EnvT} (hAd : Ad E) (k0 : Nat) (k1 : Nat) (v2 : Int32) (v3 : Int32) (hk0 : kd k0 = 3) (hk1 : kd k1 = 2) (σ : Mem) {r : Int32} {σ' : Mem} (h : X3_draw k0 k1 v2 v3 σ = some (r, σ')) : Met l yX3_draw (wsM yX3_draw cX3_draw 10 (some .int)) (rmD 17) (PcM E [.ref (ea E k0), .ref (ea E k1), .int v2, .int v3] σ) (QiM E r σ') 0 0 (eA E) :=
  Met.ofM (by decide) (Nat.le_of_ble_eq_true rfl) (fun p e s m below meth c ls C0 hH hl => w_X3_draw_b0 C0 k0 k1 v2 v3 hk0 hk1 hH hl h) hAd
set_option maxRecDepth 100000 in
set_option maxHeartbeats 4000000 in
theorem w_X3_spreadOfAll_b0 {r : Int32} (C0 : Cx E p m c cX3_spreadOfAll 1 s args RX3 meth (some .int))  (k0 : Nat) (hk0 : kd k0 = 3) {σ : Mem} {H : Heap} {locs : List Loc} {ls : Array Slot} (hH : Hs E s σ H locs) (hl : lv_has ls 1 [(0, .ref (ea E k0))]) (h : X3_spreadOfAll_b0 k0 σ = some r) : W p l e (rmD 2) s m args below meth c H locs 0 0 (MQ below (QiM E r σ) args s 0 0 (eA E)) (F0 m 0 ls []) := by
  obtain ⟨⟨hx, hb, hml, hown, hts⟩, hr, hlocks, hF, hAd⟩ := id C0
  unfold X3_spreadOfAll_b0 at h
  refine lv_aload_n hx hb dX3_spreadOfAll_0 rfl (lv_at hl 0 rfl) ?_
  refine gf_X3_21 C0 hH hk0 dX3_spreadOfAll_1 ?_
  refine gf_X3_47 C0 hH (kf_3_1 hk0) dX3_spreadOfAll_4 ?_
  refine lv_iconst (v := 1) hx hb dX3_spreadOfAll_7 (by decide) ?_
  refine lv_aload_n hx hb dX3_spreadOfAll_8 rfl (lv_at hl 0 rfl) ?_
  refine gf_X3_12 C0 hH hk0 dX3_spreadOfAll_9 ?_
  refine gf_X3_99 C0 hH (kf_3_0 hk0) dX3_spreadOfAll_12 ?_
  refine lv_ishl hx hb dX3_spreadOfAll_15 ?_
  refine lv_iconst (v := 1) hx hb dX3_spreadOfAll_16 (by decide) ?_
  refine lv_isub hx hb dX3_spreadOfAll_17 ?_
  obtain ⟨r1, qr1, h⟩ := ob_s h
  refine go_i hH (va_run_V (As := [.int ((shl 1 (σ (k0 + 1) 0)) - 1)]) (rest := []) C0 hH lk_X3_139 (c_X5_widest hAd ((k0 + 7) + 1) ((shl 1 (σ (k0 + 1) 0)) - 1) (kf_6_0 (kf_3_1 hk0)) σ qr1) (by decide) (ci := 5) (kf_6_0 (kf_3_1 hk0)) (by decide) (cob_5 _ _ _) rfl rfl hl.1 rfl (Nat.le_of_ble_eq_true rfl) dX3_spreadOfAll_18) (fun H locs hH => ?_)
  exact r_iret C0 hH (Option.some.inj h) rfl dX3_spreadOfAll_21
theorem c_X3_spreadOfAll {l : Launch} {E : EnvT} (hAd : Ad E) (k0 : Nat) (hk0 : kd k0 = 3) (σ : Mem) {r : Int32} (h : X3_spreadOfAll k0 σ = some r) : Met l yX3_spreadOfAll (wsM yX3_spreadOfAll cX3_spreadOfAll 1 (some .int)) (rmD 2) (PcM E [.ref (ea E k0)] σ) (QiM E r σ) 0 0 (eA E) :=
  Met.ofM (by decide) (Nat.le_of_ble_eq_true rfl) (fun p e s m below meth c ls C0 hH hl => w_X3_spreadOfAll_b0 C0 k0 hk0 hH hl h) hAd
end
