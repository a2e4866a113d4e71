section
variable {p : Program} {l : Launch} {e : Env} {s : State} {m : MethodId} {args : Array Value} {below : List Frame} {meth : Method} {c : Code} {E : EnvT}
set_option maxRecDepth 100000 in
set_option maxHeartbeats 4000000 in
theorem w_X12_closes_b6 {σ' : Mem} (C0 : Cx E p m c cX12_closes 3 s args RX12 meth (none)) (K6 : Nat → Int32 → Mem → Option Mem) (hK6 : ∀ (k0 : Nat) (v2 : Int32) (hk0 : kd k0 = 143) (σ : Mem) (H : Heap) (locs : List Loc) (ls : Array Slot), Hs E s σ H locs → lv_has ls 3 [(0, .ref (ea E k0)), (2, .int v2)] → K6 k0 v2 σ = some σ' → W p l e (rmD 0) s m args below meth c H locs 0 0 (MQ below (QvM E σ') args s 0 0 (eA E)) (F0 m 6 ls []))  (k0 : Nat) (v2 : Int32) (hk0 : kd k0 = 143) {σ : Mem} {H : Heap} {locs : List Loc} {ls : Array Slot} (hH : Hs E s σ H locs) (hl : lv_has ls 3 [(0, .ref (ea E k0)), (2, .int v2)]) (h : X12_closes_b6 K6 k0 v2 σ = some σ') : W p l e (rmD 0) s m args below meth c H locs 0 0 (MQ below (QvM E σ') args s 0 0 (eA E)) (F0 m 6 ls []) := by
  obtain ⟨⟨hx, hb, hml, hown, hts⟩, hr, hlocks, hF, hAd⟩ := id C0
  unfold X12_closes_b6 at h
  refine lv_iload_n hx hb dX12_closes_6 rfl (lv_at hl 1 rfl) ?_
  refine lv_iconst (v := 3) hx hb dX12_closes_7 (by decide) ?_
  refine lv_iconst (v := 4) hx hb dX12_closes_8 (by decide) ?_
  refine lv_aload_n hx hb dX12_closes_9 rfl (lv_at hl 0 rfl) ?_
  refine lv_iconst (v := 0) hx hb dX12_closes_10 (by decide) ?_
  refine r_iald C0 hH (n := 43) hk0 (vin (by decide)) dX12_closes_11 ?_
  refine lv_imul hx hb dX12_closes_12 ?_
  refine lv_iadd hx hb dX12_closes_13 ?_
  refine lv_iconst (v := 4) hx hb dX12_closes_14 (by decide) ?_
  refine lv_isub hx hb dX12_closes_15 ?_
  refine lv_icmp_ge (tgt := 33) hx hb dX12_closes_16 (by decide) (fun c1 => ?_) (fun c1 => ?_)
  · replace h := if_t h c1
    refine lv_aload_n hx hb dX12_closes_33 rfl (lv_at hl 0 rfl) ?_
    refine lv_iconst (v := 0) hx hb dX12_closes_34 (by decide) ?_
    refine lv_dup2_11 hx hb dX12_closes_35 rfl rfl ?_
    refine r_iald C0 hH (n := 43) hk0 (vin (by decide)) dX12_closes_36 ?_
    refine lv_iconst (v := 1) hx hb dX12_closes_37 (by decide) ?_
    refine lv_isub hx hb dX12_closes_38 ?_
    refine r_iast C0 hH (n := 43) hk0 (vin (by decide)) dX12_closes_39 (fun H locs hH => ?_)
    exact r_vret C0 hH (Option.some.inj h) dX12_closes_40
  · replace h := if_f h c1
    refine lv_aload_n hx hb dX12_closes_19 rfl (lv_at hl 0 rfl) ?_
    refine lv_iload_n hx hb dX12_closes_20 rfl (lv_at hl 1 rfl) ?_
    refine lv_aload_n hx hb dX12_closes_21 rfl (lv_at hl 0 rfl) ?_
    refine lv_iload_n hx hb dX12_closes_22 rfl (lv_at hl 1 rfl) ?_
    refine lv_iconst (v := 4) hx hb dX12_closes_23 (by decide) ?_
    refine lv_iadd hx hb dX12_closes_24 ?_
    obtain ⟨b2, h⟩ := gdx_s h
    refine r_iald C0 hH (n := 43) hk0 b2 dX12_closes_25 ?_
    obtain ⟨b3, h⟩ := gdx_s h
    refine r_iast C0 hH (n := 43) hk0 b3 dX12_closes_26 (fun H locs hH => ?_)
    refine lv_iinc (v := v2 + 1) (lv' := [(2, .int (v2 + 1)), (0, .ref (ea E k0))]) hx hb dX12_closes_27 hl (k := 1) rfl rfl (by decide) rfl (fun ls hl => ?_)
    refine lv_goto (tgt := 6) hx hb dX12_closes_30 (by decide) ?_
    exact hK6 k0 (v2 + 1) hk0 _ _ _ _ hH (lv_sub hl [1, 0] rfl) h
set_option maxRecDepth 100000 in
set_option maxHeartbeats 4000000 in
theorem w_X12_closes_l6 {σ' : Mem} (C0 : Cx E p m c cX12_closes 3 s args RX12 meth (none))  (n : Nat) : ∀ (k0 : Nat) (v2 : Int32) (hk0 : kd k0 = 143) (σ : Mem) (H : Heap) (locs : List Loc) (ls : Array Slot), Hs E s σ H locs → lv_has ls 3 [(0, .ref (ea E k0)), (2, .int v2)] → X12_closes_l6 n k0 v2 σ = some σ' → W p l e (rmD 0) s m args below meth c H locs 0 0 (MQ below (QvM E σ') args s 0 0 (eA E)) (F0 m 6 ls []) := by
  induction n with
  | zero =>
    intro k0 v2 hk0 σ H locs ls hH hl h
    cases h
  | succ n ih =>
    intro k0 v2 hk0 σ H locs ls hH hl h
    exact w_X12_closes_b6 C0 (X12_closes_l6 n)  ih k0 v2 hk0 hH hl h
set_option maxRecDepth 100000 in
set_option maxHeartbeats 4000000 in
theorem w_X12_closes_b0 {σ' : Mem} (C0 : Cx E p m c cX12_closes 3 s args RX12 meth (none))  (k0 : Nat) (v1 : Int32) (hk0 : kd k0 = 143) {σ : Mem} {H : Heap} {locs : List Loc} {ls : Array Slot} (hH : Hs E s σ H locs) (hl : lv_has ls 3 [(0, .ref (ea E k0)), (1, .int v1)]) (h : X12_closes_b0 k0 v1 σ = some σ') : W p l e (rmD 0) s m args below meth c H locs 0 0 (MQ below (QvM E σ') args s 0 0 (eA E)) (F0 m 0 ls []) := by
  obtain ⟨⟨hx, hb, hml, hown, hts⟩, hr, hlocks, hF, hAd⟩ := id C0
  unfold X12_closes_b0 at h
  refine lv_iconst (v := 3) hx hb dX12_closes_0 (by decide) ?_
  refine lv_iconst (v := 4) hx hb dX12_closes_1 (by decide) ?_
  refine lv_iload_n hx hb dX12_closes_2 rfl (lv_at hl 1 rfl) ?_
  refine lv_imul hx hb dX12_closes_3 ?_
  refine lv_iadd hx hb dX12_closes_4 ?_
  obtain ⟨x1, ex1, h⟩ := letv_s h
  refine topi_of ex1 ?_
  refine lv_istore_n (lv' := [(2, .int x1), (0, .ref (ea E k0)), (1, .int v1)]) hx hb dX12_closes_5 rfl hl (by decide) rfl (fun ls hl => ?_)
  exact w_X12_closes_l6 C0  FU k0 x1 hk0 _ _ _ _ hH (lv_sub hl [1, 0] rfl) h
theorem c_X12_closes {l : Launch} {E : EnvT} (hAd : Ad E) (k0 : Nat) (v1 : Int32) (hk0 : kd k0 = 143) (σ : Mem) {σ' : Mem} (h : X12_closes k0 v1 σ = some σ') : Met l yX12_closes (wsM yX12_closes cX12_closes 3 (none)) (rmD 0) (PcM E [.ref (ea E k0), .int v1] σ) (QvM E σ') 0 0 (eA E) :=
  Met.ofM (by decide) (Nat.le_of_ble_eq_true rfl) (fun p e s m below meth c ls C0 hH hl => w_X12_closes_b0 C0 k0 v1 hk0 hH hl h) hAd
set_option maxRecDepth 100000 in
set_option maxHeartbeats 4000000 in
theorem w_X12_lays_b0 {σ' : Mem} (C0 : Cx E p m c cX12_lays 7 s args RX12 meth (none))  (k0 : Nat) (v1 : Int32) (v2 : Int32) (v3 : Int32) (v4 : Int32) (v5 : Int32) (hk0 : kd k0 = 143) {σ : Mem} {H : Heap} {locs : List Loc} {ls : Array Slot} (hH : Hs E s σ H locs) (hl : lv_has ls 7 [(0, .ref (ea E k0)), (1, .int v1), (2, .int v2), (3, .int v3), (4, .int v4), (5, .int v5)]) (h : X12_lays_b0 k0 v1 v2 v3 v4 v5 σ = some σ') : W p l e (rmD 0) s m args below meth c H locs 0 0 (MQ below (QvM E σ') args s 0 0 (eA E)) (F0 m 0 ls []) := by
  obtain ⟨⟨hx, hb, hml, hown, hts⟩, hr, hlocks, hF, hAd⟩ := id C0
  unfold X12_lays_b0 at h
  refine lv_iconst (v := 3) hx hb dX12_lays_0 (by decide) ?_
  refine lv_iconst (v := 4) hx hb dX12_lays_1 (by decide) ?_
  refine lv_iload_n hx hb dX12_lays_2 rfl (lv_at hl 1 rfl) ?_
  refine lv_imul hx hb dX12_lays_3 ?_
  refine lv_iadd hx hb dX12_lays_4 ?_
  obtain ⟨x1, ex1, h⟩ := letv_s h
  refine topi_of ex1 ?_
  refine lv_istore (lv' := [(6, .int x1), (0, .ref (ea E k0)), (1, .int v1), (2, .int v2), (3, .int v3), (4, .int v4), (5, .int v5)]) hx hb dX12_lays_5 hl (by decide) rfl (fun ls hl => ?_)
  refine lv_aload_n hx hb dX12_lays_7 rfl (lv_at hl 1 rfl) ?_
  refine lv_iload hx hb dX12_lays_8 (lv_at hl 0 rfl) ?_
  refine lv_iload_n hx hb dX12_lays_10 rfl (lv_at hl 3 rfl) ?_
  obtain ⟨b2, h⟩ := gdx_s h
  refine r_iast C0 hH (n := 43) hk0 b2 dX12_lays_11 (fun H locs hH => ?_)
  refine lv_aload_n hx hb dX12_lays_12 rfl (lv_at hl 1 rfl) ?_
  refine lv_iload hx hb dX12_lays_13 (lv_at hl 0 rfl) ?_
  refine lv_iconst (v := 1) hx hb dX12_lays_15 (by decide) ?_
  refine lv_iadd hx hb dX12_lays_16 ?_
  refine lv_iload_n hx hb dX12_lays_17 rfl (lv_at hl 4 rfl) ?_
  obtain ⟨σ3, eσ3, h⟩ := letv_s h
  replace hH := hs_of eσ3 hH
  obtain ⟨b4, h⟩ := gdx_s h
  refine r_iast C0 hH (n := 43) hk0 b4 dX12_lays_18 (fun H locs hH => ?_)
  refine lv_aload_n hx hb dX12_lays_19 rfl (lv_at hl 1 rfl) ?_
  refine lv_iload hx hb dX12_lays_20 (lv_at hl 0 rfl) ?_
  refine lv_iconst (v := 2) hx hb dX12_lays_22 (by decide) ?_
  refine lv_iadd hx hb dX12_lays_23 ?_
  refine lv_iload hx hb dX12_lays_24 (lv_at hl 5 rfl) ?_
  obtain ⟨σ5, eσ5, h⟩ := letv_s h
  replace hH := hs_of eσ5 hH
  obtain ⟨b6, h⟩ := gdx_s h
  refine r_iast C0 hH (n := 43) hk0 b6 dX12_lays_26 (fun H locs hH => ?_)
  refine lv_aload_n hx hb dX12_lays_27 rfl (lv_at hl 1 rfl) ?_
  refine lv_iload hx hb dX12_lays_28 (lv_at hl 0 rfl) ?_
  refine lv_iconst (v := 3) hx hb dX12_lays_30 (by decide) ?_
  refine lv_iadd hx hb dX12_lays_31 ?_
  refine lv_iload hx hb dX12_lays_32 (lv_at hl 6 rfl) ?_
  obtain ⟨σ7, eσ7, h⟩ := letv_s h
  replace hH := hs_of eσ7 hH
  obtain ⟨b8, h⟩ := gdx_s h
  refine r_iast C0 hH (n := 43) hk0 b8 dX12_lays_34 (fun H locs hH => ?_)
  exact r_vret C0 hH (Option.some.inj h) dX12_lays_35
theorem c_X12_lays {l : Launch} {E : EnvT} (hAd : Ad E) (k0 : Nat) (v1 : Int32) (v2 : Int32) (v3 : Int32) (v4 : Int32) (v5 : Int32) (hk0 : kd k0 = 143) (σ : Mem) {σ' : Mem} (h : X12_lays k0 v1 v2 v3 v4 v5 σ = some σ') : Met l yX12_lays (wsM yX12_lays cX12_lays 7 (none)) (rmD 0) (PcM E [.ref (ea E k0), .int v1, .int v2, .int v3, .int v4, .int v5] σ) (QvM E σ') 0 0 (eA E) :=
  Met.ofM (by decide) (Nat.le_of_ble_eq_true rfl) (fun p e s m below meth c ls C0 hH hl => w_X12_lays_b0 C0 k0 v1 v2 v3 v4 v5 hk0 hH hl h) hAd
set_option maxRecDepth 100000 in
set_option maxHeartbeats 4000000 in
theorem w_X12_put_b0 {r : Int32} {σ' : Mem} (C0 : Cx E p m c cX12_put 6 s args RX12 meth (some .int))  (k0 : Nat) (v1 : Int32) (v2 : Int32) (v3 : Int32) (v4 : Int32) (v5 : Int32) (hk0 : kd k0 = 12) {σ : Mem} {H : Heap} {locs : List Loc} {ls : Array Slot} (hH : Hs E s σ H locs) (hl : lv_has ls 6 [(0, .ref (ea E k0)), (1, .int v1), (2, .int v2), (3, .int v3), (4, .int v4), (5, .int v5)]) (h : X12_put_b0 k0 v1 v2 v3 v4 v5 σ = some (r, σ')) : W p l e (rmD 1) s m args below meth c H locs 0 0 (MQ below (QiM E r σ') args s 0 0 (eA E)) (F0 m 0 ls []) := by
  obtain ⟨⟨hx, hb, hml, hown, hts⟩, hr, hlocks, hF, hAd⟩ := id C0
  unfold X12_put_b0 at h
  refine lv_aload_n hx hb dX12_put_0 rfl (lv_at hl 0 rfl) ?_
  obtain ⟨r1, qr1, h⟩ := ob_s h
  refine go_i hH (va_run_V (As := []) (rest := []) C0 hH lk_X12_159 (c_X12_isThere hAd k0 hk0 σ qr1) (by decide) (ci := 12) hk0 (by decide) (cob_12 _ _ _) rfl rfl hl.1 rfl (Nat.le_of_ble_eq_true rfl) dX12_put_1) (fun H locs hH => ?_)
  refine lv_if_ne (tgt := 10) hx hb dX12_put_4 (by decide) (fun c2 => ?_) (fun c2 => ?_)
  · replace h := if_f h c2
    refine lv_iload_n hx hb dX12_put_10 rfl (lv_at hl 1 rfl) ?_
    refine lv_i2l (v := Int32.toInt64 v1) hx hb dX12_put_11 rfl ?_
    refine lv_lconst (v := 0) hx hb dX12_put_12 (by decide) ?_
    refine lv_aload_n hx hb dX12_put_13 rfl (lv_at hl 0 rfl) ?_
    refine gf_X12_19 C0 hH hk0 dX12_put_14 ?_
    refine lv_iconst (v := 0) hx hb dX12_put_17 (by decide) ?_
    refine r_iald C0 hH (n := 43) (kf_12_4 hk0) (vin (by decide)) dX12_put_18 ?_
    refine lv_i2l (v := Int32.toInt64 (σ (k0 + 4) (nc 0))) hx hb dX12_put_19 rfl ?_
    refine go_i hH (va_run_S (As := [.long (Int32.toInt64 v1), .long 0, .long (Int32.toInt64 (σ (k0 + 4) (nc 0)))]) (rest := []) C0 hH lk_X12_75 (c_X12_in hAd (Int32.toInt64 v1) 0 (Int32.toInt64 (σ (k0 + 4) (nc 0)))  σ rfl) (by decide) rfl hl.1 rfl (Nat.le_of_ble_eq_true rfl) dX12_put_20) (fun H locs hH => ?_)
    refine lv_if_eq (tgt := 76) hx hb dX12_put_23 (by decide) (fun c3 => ?_) (fun c3 => ?_)
    · replace h := if_t h c3
      refine lv_ldc hx hb hown (hts _ qK_X12_85) dX12_put_76 ?_
      exact r_iret C0 hH (pj1 h) (pj2 h) dX12_put_78
    · replace h := if_f h c3
      refine lv_iload_n hx hb dX12_put_26 rfl (lv_at hl 2 rfl) ?_
      refine lv_i2l (v := Int32.toInt64 v2) hx hb dX12_put_27 rfl ?_
      refine lv_lconst (v := 1) hx hb dX12_put_28 (by decide) ?_
      refine lv_ldc2 hx hb hown (hts _ qL_X12_163) dX12_put_29 ?_
      refine go_i hH (va_run_S (As := [.long (Int32.toInt64 v2), .long 1, .long 5]) (rest := []) C0 hH lk_X12_75 (c_X12_in hAd (Int32.toInt64 v2) 1 5  σ rfl) (by decide) rfl hl.1 rfl (Nat.le_of_ble_eq_true rfl) dX12_put_32) (fun H locs hH => ?_)
      refine lv_if_eq (tgt := 76) hx hb dX12_put_35 (by decide) (fun c4 => ?_) (fun c4 => ?_)
      · replace h := if_t h c4
        refine lv_ldc hx hb hown (hts _ qK_X12_85) dX12_put_76 ?_
        exact r_iret C0 hH (pj1 h) (pj2 h) dX12_put_78
      · replace h := if_f h c4
        refine lv_iload_n hx hb dX12_put_38 rfl (lv_at hl 3 rfl) ?_
        refine lv_i2l (v := Int32.toInt64 v3) hx hb dX12_put_39 rfl ?_
        refine lv_lconst (v := 0) hx hb dX12_put_40 (by decide) ?_
        refine lv_ldc2 hx hb hown (hts _ qL_X12_165) dX12_put_41 ?_
        refine go_i hH (va_run_S (As := [.long (Int32.toInt64 v3), .long 0, .long 30]) (rest := []) C0 hH lk_X12_75 (c_X12_in hAd (Int32.toInt64 v3) 0 30  σ rfl) (by decide) rfl hl.1 rfl (Nat.le_of_ble_eq_true rfl) dX12_put_44) (fun H locs hH => ?_)
        refine lv_if_eq (tgt := 76) hx hb dX12_put_47 (by decide) (fun c5 => ?_) (fun c5 => ?_)
        · replace h := if_t h c5
          refine lv_ldc hx hb hown (hts _ qK_X12_85) dX12_put_76 ?_
          exact r_iret C0 hH (pj1 h) (pj2 h) dX12_put_78
        · replace h := if_f h c5
          refine lv_iload hx hb dX12_put_50 (lv_at hl 4 rfl) ?_
          refine lv_i2l (v := Int32.toInt64 v4) hx hb dX12_put_52 rfl ?_
          refine lv_lconst (v := 0) hx hb dX12_put_53 (by decide) ?_
          refine lv_ldc2 hx hb hown (hts _ qL_X12_165) dX12_put_54 ?_
          refine go_i hH (va_run_S (As := [.long (Int32.toInt64 v4), .long 0, .long 30]) (rest := []) C0 hH lk_X12_75 (c_X12_in hAd (Int32.toInt64 v4) 0 30  σ rfl) (by decide) rfl hl.1 rfl (Nat.le_of_ble_eq_true rfl) dX12_put_57) (fun H locs hH => ?_)
          refine lv_if_eq (tgt := 76) hx hb dX12_put_60 (by decide) (fun c6 => ?_) (fun c6 => ?_)
          · replace h := if_t h c6
            refine lv_ldc hx hb hown (hts _ qK_X12_85) dX12_put_76 ?_
            exact r_iret C0 hH (pj1 h) (pj2 h) dX12_put_78
          · replace h := if_f h c6
            refine lv_iload hx hb dX12_put_63 (lv_at hl 5 rfl) ?_
            refine lv_i2l (v := Int32.toInt64 v5) hx hb dX12_put_65 rfl ?_
            refine lv_lconst (v := 0) hx hb dX12_put_66 (by decide) ?_
            refine lv_ldc2 hx hb hown (hts _ qL_X12_165) dX12_put_67 ?_
            refine go_i hH (va_run_S (As := [.long (Int32.toInt64 v5), .long 0, .long 30]) (rest := []) C0 hH lk_X12_75 (c_X12_in hAd (Int32.toInt64 v5) 0 30  σ rfl) (by decide) rfl hl.1 rfl (Nat.le_of_ble_eq_true rfl) dX12_put_70) (fun H locs hH => ?_)
            refine lv_if_ne (tgt := 79) hx hb dX12_put_73 (by decide) (fun c7 => ?_) (fun c7 => ?_)
            · replace h := if_f h c7
              refine lv_aload_n hx hb dX12_put_79 rfl (lv_at hl 0 rfl) ?_
              refine gf_X12_19 C0 hH hk0 dX12_put_80 ?_
              refine lv_iconst (v := 0) hx hb dX12_put_83 (by decide) ?_
              refine r_iald C0 hH (n := 43) (kf_12_4 hk0) (vin (by decide)) dX12_put_84 ?_
              refine lv_bipush (v := 10) hx hb dX12_put_85 (by decide) ?_
              refine lv_icmp_ne (tgt := 93) hx hb dX12_put_87 (by decide) (fun c8 => ?_) (fun c8 => ?_)
              · replace h := if_f h c8
                refine lv_aload_n hx hb dX12_put_93 rfl (lv_at hl 0 rfl) ?_
                obtain ⟨σ9, qσ9, h⟩ := ob_s h
                refine go_v hH (va_run_V (As := []) (rest := []) C0 hH lk_X12_167 (c_X12_keeps hAd k0 hk0 σ qσ9) (by decide) (ci := 12) hk0 (by decide) (cob_12 _ _ _) rfl rfl hl.1 rfl (Nat.le_of_ble_eq_true rfl) dX12_put_94) (fun H locs hH => ?_)
                refine lv_aload_n hx hb dX12_put_97 rfl (lv_at hl 0 rfl) ?_
                refine gf_X12_19 C0 hH hk0 dX12_put_98 ?_
                refine lv_iload_n hx hb dX12_put_101 rfl (lv_at hl 1 rfl) ?_
                obtain ⟨σ10, qσ10, h⟩ := ob_s h
                refine go_v hH (va_run_S (As := [.ref (ea E (k0 + 4)), .int v1]) (rest := []) C0 hH lk_X12_170 (c_X12_opens hAd (k0 + 4) v1 (kf_12_4 hk0) σ9 qσ10) (by decide) rfl hl.1 rfl (Nat.le_of_ble_eq_true rfl) dX12_put_102) (fun H locs hH => ?_)
                refine lv_aload_n hx hb dX12_put_105 rfl (lv_at hl 0 rfl) ?_
                refine gf_X12_19 C0 hH hk0 dX12_put_106 ?_
                refine lv_iload_n hx hb dX12_put_109 rfl (lv_at hl 1 rfl) ?_
                refine lv_iload_n hx hb dX12_put_110 rfl (lv_at hl 2 rfl) ?_
                refine lv_iload_n hx hb dX12_put_111 rfl (lv_at hl 3 rfl) ?_
                refine lv_iload hx hb dX12_put_112 (lv_at hl 4 rfl) ?_
                refine lv_iload hx hb dX12_put_114 (lv_at hl 5 rfl) ?_
                obtain ⟨σ11, qσ11, h⟩ := ob_s h
                refine go_v hH (va_run_S (As := [.ref (ea E (k0 + 4)), .int v1, .int v2, .int v3, .int v4, .int v5]) (rest := []) C0 hH lk_X12_174 (c_X12_lays hAd (k0 + 4) v1 v2 v3 v4 v5 (kf_12_4 hk0) σ10 qσ11) (by decide) rfl hl.1 rfl (Nat.le_of_ble_eq_true rfl) dX12_put_116) (fun H locs hH => ?_)
                refine lv_aload_n hx hb dX12_put_119 rfl (lv_at hl 0 rfl) ?_
                refine gf_X12_19 C0 hH hk0 dX12_put_120 ?_
                refine lv_iconst (v := 0) hx hb dX12_put_123 (by decide) ?_
                refine r_iald C0 hH (n := 43) (kf_12_4 hk0) (vin (by decide)) dX12_put_124 ?_
                exact r_iret C0 hH (pj1 h) (pj2 h) dX12_put_125
              · replace h := if_t h c8
                refine lv_ldc hx hb hown (hts _ qK_X12_99) dX12_put_90 ?_
                exact r_iret C0 hH (pj1 h) (pj2 h) dX12_put_92
            · replace h := if_t h c7
              refine lv_ldc hx hb hown (hts _ qK_X12_85) dX12_put_76 ?_
              exact r_iret C0 hH (pj1 h) (pj2 h) dX12_put_78
  · replace h := if_t h c2
    refine lv_ldc hx hb hown (hts _ qK_X12_158) dX12_put_7 ?_
    exact r_iret C0 hH (pj1 h) (pj2 h) dX12_put_9
theorem c_X12_put {l : Launch} {E : EnvT} (hAd : Ad E) (k0 : Nat) (v1 : Int32) (v2 : Int32) (v3 : Int32) (v4 : Int32) (v5 : Int32) (hk0 : kd k0 = 12) (σ : Mem) {r : Int32} {σ' : Mem} (h : X12_put k0 v1 v2 v3 v4 v5 σ = some (r, σ')) : Met l yX12_put (wsM yX12_put cX12_put 6 (some .int)) (rmD 1) (PcM E [.ref (ea E k0), .int v1, .int v2, .int v3, .int v4, .int v5] σ) (QiM E r σ') 0 0 (eA E) :=
  Met.ofM (by decide) (Nat.le_of_ble_eq_true rfl) (fun p e s m below meth c ls C0 hH hl => w_X12_put_b0 C0 k0 v1 v2 v3 v4 v5 hk0 hH hl h) hAd
set_option maxRecDepth 100000 in
set_option maxHeartbeats 4000000 in
theorem w_X12_take_b0 {r : Int32} {σ' : Mem} (C0 : Cx E p m c cX12_take 2 s args RX12 meth (some .int))  (k0 : Nat) (v1 : Int32) (hk0 : kd k0 = 12) {σ : Mem} {H : Heap} {locs : List Loc} {ls : Array Slot} (hH : Hs E s σ H locs) (hl : lv_has ls 2 [(0, .ref (ea E k0)), (1, .int v1)]) (h : X12_take_b0 k0 v1 σ = some (r, σ')) : W p l e (rmD 2) s m args below meth c H locs 0 0 (MQ below (QiM E r σ') args s 0 0 (eA E)) (F0 m 0 ls []) := by
  obtain ⟨⟨hx, hb, hml, hown, hts⟩, hr, hlocks, hF, hAd⟩ := id C0
  unfold X12_take_b0 at h
  refine lv_aload_n hx hb dX12_take_0 rfl (lv_at hl 0 rfl) ?_
  refine lv_iload_n hx hb dX12_take_1 rfl (lv_at hl 1 rfl) ?_
  obtain ⟨r1, qr1, h⟩ := ob_s h
  refine go_i hH (va_run_V (As := [.int v1]) (rest := []) C0 hH lk_X12_178 (c_X12_isPage hAd k0 v1 hk0 σ qr1) (by decide) (ci := 12) hk0 (by decide) (cob_12 _ _ _) rfl rfl hl.1 rfl (Nat.le_of_ble_eq_true rfl) dX12_take_2) (fun H locs hH => ?_)
  refine lv_if_ne (tgt := 11) hx hb dX12_take_5 (by decide) (fun c2 => ?_) (fun c2 => ?_)
  · replace h := if_f h c2
    refine lv_aload_n hx hb dX12_take_11 rfl (lv_at hl 0 rfl) ?_
    refine gf_X12_19 C0 hH hk0 dX12_take_12 ?_
    refine lv_iconst (v := 0) hx hb dX12_take_15 (by decide) ?_
    refine r_iald C0 hH (n := 43) (kf_12_4 hk0) (vin (by decide)) dX12_take_16 ?_
    refine lv_iconst (v := 1) hx hb dX12_take_17 (by decide) ?_
    refine lv_icmp_ne (tgt := 24) hx hb dX12_take_18 (by decide) (fun c3 => ?_) (fun c3 => ?_)
    · replace h := if_f h c3
      refine lv_aload_n hx hb dX12_take_24 rfl (lv_at hl 0 rfl) ?_
      obtain ⟨σ4, qσ4, h⟩ := ob_s h
      refine go_v hH (va_run_V (As := []) (rest := []) C0 hH lk_X12_167 (c_X12_keeps hAd k0 hk0 σ qσ4) (by decide) (ci := 12) hk0 (by decide) (cob_12 _ _ _) rfl rfl hl.1 rfl (Nat.le_of_ble_eq_true rfl) dX12_take_25) (fun H locs hH => ?_)
      refine lv_aload_n hx hb dX12_take_28 rfl (lv_at hl 0 rfl) ?_
      refine gf_X12_19 C0 hH hk0 dX12_take_29 ?_
      refine lv_iload_n hx hb dX12_take_32 rfl (lv_at hl 1 rfl) ?_
      obtain ⟨σ5, qσ5, h⟩ := ob_s h
      refine go_v hH (va_run_S (As := [.ref (ea E (k0 + 4)), .int v1]) (rest := []) C0 hH lk_X12_181 (c_X12_closes hAd (k0 + 4) v1 (kf_12_4 hk0) σ4 qσ5) (by decide) rfl hl.1 rfl (Nat.le_of_ble_eq_true rfl) dX12_take_33) (fun H locs hH => ?_)
      refine lv_aload_n hx hb dX12_take_36 rfl (lv_at hl 0 rfl) ?_
      refine gf_X12_19 C0 hH hk0 dX12_take_37 ?_
      refine lv_iconst (v := 0) hx hb dX12_take_40 (by decide) ?_
      refine r_iald C0 hH (n := 43) (kf_12_4 hk0) (vin (by decide)) dX12_take_41 ?_
      exact r_iret C0 hH (pj1 h) (pj2 h) dX12_take_42
    · replace h := if_t h c3
      refine lv_ldc hx hb hown (hts _ qK_X12_158) dX12_take_21 ?_
      exact r_iret C0 hH (pj1 h) (pj2 h) dX12_take_23
  · replace h := if_t h c2
    refine lv_ldc hx hb hown (hts _ qK_X12_85) dX12_take_8 ?_
    exact r_iret C0 hH (pj1 h) (pj2 h) dX12_take_10
theorem c_X12_take {l : Launch} {E : EnvT} (hAd : Ad E) (k0 : Nat) (v1 : Int32) (hk0 : kd k0 = 12) (σ : Mem) {r : Int32} {σ' : Mem} (h : X12_take k0 v1 σ = some (r, σ')) : Met l yX12_take (wsM yX12_take cX12_take 2 (some .int)) (rmD 2) (PcM E [.ref (ea E k0), .int v1] σ) (QiM E r σ') 0 0 (eA E) :=
  Met.ofM (by decide) (Nat.le_of_ble_eq_true rfl) (fun p e s m below meth c ls C0 hH hl => w_X12_take_b0 C0 k0 v1 hk0 hH hl h) hAd
set_option maxRecDepth 100000 in
set_option maxHeartbeats 4000000 in
theorem w_X12_move_b0 {r : Int32} {σ' : Mem} (C0 : Cx E p m c cX12_move 8 s args RX12 meth (some .int))  (k0 : Nat) (v1 : Int32) (v2 : Int32) (hk0 : kd k0 = 12) {σ : Mem} {H : Heap} {locs : List Loc} {ls : Array Slot} (hH : Hs E s σ H locs) (hl : lv_has ls 8 [(0, .ref (ea E k0)), (1, .int v1), (2, .int v2)]) (h : X12_move_b0 k0 v1 v2 σ = some (r, σ')) : W p l e (rmD 2) s m args below meth c H locs 0 0 (MQ below (QiM E r σ') args s 0 0 (eA E)) (F0 m 0 ls []) := by
  obtain ⟨⟨hx, hb, hml, hown, hts⟩, hr, hlocks, hF, hAd⟩ := id C0
  unfold X12_move_b0 at h
  refine lv_aload_n hx hb dX12_move_0 rfl (lv_at hl 0 rfl) ?_
  refine lv_iload_n hx hb dX12_move_1 rfl (lv_at hl 1 rfl) ?_
  obtain ⟨r1, qr1, h⟩ := ob_s h
  refine go_i hH (va_run_V (As := [.int v1]) (rest := []) C0 hH lk_X12_178 (c_X12_isPage hAd k0 v1 hk0 σ qr1) (by decide) (ci := 12) hk0 (by decide) (cob_12 _ _ _) rfl rfl hl.1 rfl (Nat.le_of_ble_eq_true rfl) dX12_move_2) (fun H locs hH => ?_)
  refine lv_if_eq (tgt := 16) hx hb dX12_move_5 (by decide) (fun c2 => ?_) (fun c2 => ?_)
  · replace h := if_t h c2
    refine lv_ldc hx hb hown (hts _ qK_X12_85) dX12_move_16 ?_
    exact r_iret C0 hH (pj1 h) (pj2 h) dX12_move_18
  · replace h := if_f h c2
    refine lv_aload_n hx hb dX12_move_8 rfl (lv_at hl 0 rfl) ?_
    refine lv_iload_n hx hb dX12_move_9 rfl (lv_at hl 2 rfl) ?_
    obtain ⟨r3, qr3, h⟩ := ob_s h
    refine go_i hH (va_run_V (As := [.int v2]) (rest := []) C0 hH lk_X12_178 (c_X12_isPage hAd k0 v2 hk0 σ qr3) (by decide) (ci := 12) hk0 (by decide) (cob_12 _ _ _) rfl rfl hl.1 rfl (Nat.le_of_ble_eq_true rfl) dX12_move_10) (fun H locs hH => ?_)
    refine lv_if_ne (tgt := 19) hx hb dX12_move_13 (by decide) (fun c4 => ?_) (fun c4 => ?_)
    · replace h := if_f h c4
      refine lv_iload_n hx hb dX12_move_19 rfl (lv_at hl 1 rfl) ?_
      refine lv_iload_n hx hb dX12_move_20 rfl (lv_at hl 2 rfl) ?_
      refine lv_icmp_ne (tgt := 27) hx hb dX12_move_21 (by decide) (fun c5 => ?_) (fun c5 => ?_)
      · replace h := if_f h c5
        refine lv_aload_n hx hb dX12_move_27 rfl (lv_at hl 0 rfl) ?_
        obtain ⟨σ6, qσ6, h⟩ := ob_s h
        refine go_v hH (va_run_V (As := []) (rest := []) C0 hH lk_X12_167 (c_X12_keeps hAd k0 hk0 σ qσ6) (by decide) (ci := 12) hk0 (by decide) (cob_12 _ _ _) rfl rfl hl.1 rfl (Nat.le_of_ble_eq_true rfl) dX12_move_28) (fun H locs hH => ?_)
        refine lv_iconst (v := 3) hx hb dX12_move_31 (by decide) ?_
        refine lv_iconst (v := 4) hx hb dX12_move_32 (by decide) ?_
        refine lv_iload_n hx hb dX12_move_33 rfl (lv_at hl 1 rfl) ?_
        refine lv_imul hx hb dX12_move_34 ?_
        refine lv_iadd hx hb dX12_move_35 ?_
        obtain ⟨x7, ex7, h⟩ := letv_s h
        refine topi_of ex7 ?_
        refine lv_istore_n (lv' := [(3, .int x7), (0, .ref (ea E k0)), (1, .int v1), (2, .int v2)]) hx hb dX12_move_36 rfl hl (by decide) rfl (fun ls hl => ?_)
        refine lv_aload_n hx hb dX12_move_37 rfl (lv_at hl 1 rfl) ?_
        refine gf_X12_19 C0 hH hk0 dX12_move_38 ?_
        refine lv_iload_n hx hb dX12_move_41 rfl (lv_at hl 0 rfl) ?_
        obtain ⟨b8, h⟩ := gdx_s h
        refine r_iald C0 hH (n := 43) (kf_12_4 hk0) b8 dX12_move_42 ?_
        obtain ⟨x9, ex9, h⟩ := letv_s h
        refine topi_of ex9 ?_
        refine lv_istore (lv' := [(4, .int x9), (3, .int x7), (0, .ref (ea E k0)), (1, .int v1), (2, .int v2)]) hx hb dX12_move_43 hl (by decide) rfl (fun ls hl => ?_)
        refine lv_aload_n hx hb dX12_move_45 rfl (lv_at hl 2 rfl) ?_
        refine gf_X12_19 C0 hH hk0 dX12_move_46 ?_
        refine lv_iload_n hx hb dX12_move_49 rfl (lv_at hl 1 rfl) ?_
        refine lv_iconst (v := 1) hx hb dX12_move_50 (by decide) ?_
        refine lv_iadd hx hb dX12_move_51 ?_
        obtain ⟨b10, h⟩ := gdx_s h
        refine r_iald C0 hH (n := 43) (kf_12_4 hk0) b10 dX12_move_52 ?_
        obtain ⟨x11, ex11, h⟩ := letv_s h
        refine topi_of ex11 ?_
        refine lv_istore (lv' := [(5, .int x11), (4, .int x9), (3, .int x7), (0, .ref (ea E k0)), (1, .int v1), (2, .int v2)]) hx hb dX12_move_53 hl (by decide) rfl (fun ls hl => ?_)
        refine lv_aload_n hx hb dX12_move_55 rfl (lv_at hl 3 rfl) ?_
        refine gf_X12_19 C0 hH hk0 dX12_move_56 ?_
        refine lv_iload_n hx hb dX12_move_59 rfl (lv_at hl 2 rfl) ?_
        refine lv_iconst (v := 2) hx hb dX12_move_60 (by decide) ?_
        refine lv_iadd hx hb dX12_move_61 ?_
        obtain ⟨b12, h⟩ := gdx_s h
        refine r_iald C0 hH (n := 43) (kf_12_4 hk0) b12 dX12_move_62 ?_
        obtain ⟨x13, ex13, h⟩ := letv_s h
        refine topi_of ex13 ?_
        refine lv_istore (lv' := [(6, .int x13), (5, .int x11), (4, .int x9), (3, .int x7), (0, .ref (ea E k0)), (1, .int v1), (2, .int v2)]) hx hb dX12_move_63 hl (by decide) rfl (fun ls hl => ?_)
        refine lv_aload_n hx hb dX12_move_65 rfl (lv_at hl 4 rfl) ?_
        refine gf_X12_19 C0 hH hk0 dX12_move_66 ?_
        refine lv_iload_n hx hb dX12_move_69 rfl (lv_at hl 3 rfl) ?_
        refine lv_iconst (v := 3) hx hb dX12_move_70 (by decide) ?_
        refine lv_iadd hx hb dX12_move_71 ?_
        obtain ⟨b14, h⟩ := gdx_s h
        refine r_iald C0 hH (n := 43) (kf_12_4 hk0) b14 dX12_move_72 ?_
        obtain ⟨x15, ex15, h⟩ := letv_s h
        refine topi_of ex15 ?_
        refine lv_istore (lv' := [(7, .int x15), (6, .int x13), (5, .int x11), (4, .int x9), (3, .int x7), (0, .ref (ea E k0)), (1, .int v1), (2, .int v2)]) hx hb dX12_move_73 hl (by decide) rfl (fun ls hl => ?_)
        refine lv_aload_n hx hb dX12_move_75 rfl (lv_at hl 5 rfl) ?_
        refine gf_X12_19 C0 hH hk0 dX12_move_76 ?_
        refine lv_iload_n hx hb dX12_move_79 rfl (lv_at hl 6 rfl) ?_
        obtain ⟨σ16, qσ16, h⟩ := ob_s h
        refine go_v hH (va_run_S (As := [.ref (ea E (k0 + 4)), .int v1]) (rest := []) C0 hH lk_X12_181 (c_X12_closes hAd (k0 + 4) v1 (kf_12_4 hk0) σ6 qσ16) (by decide) rfl hl.1 rfl (Nat.le_of_ble_eq_true rfl) dX12_move_80) (fun H locs hH => ?_)
        refine lv_aload_n hx hb dX12_move_83 rfl (lv_at hl 5 rfl) ?_
        refine gf_X12_19 C0 hH hk0 dX12_move_84 ?_
        refine lv_iload_n hx hb dX12_move_87 rfl (lv_at hl 7 rfl) ?_
        obtain ⟨σ17, qσ17, h⟩ := ob_s h
        refine go_v hH (va_run_S (As := [.ref (ea E (k0 + 4)), .int v2]) (rest := []) C0 hH lk_X12_170 (c_X12_opens hAd (k0 + 4) v2 (kf_12_4 hk0) σ16 qσ17) (by decide) rfl hl.1 rfl (Nat.le_of_ble_eq_true rfl) dX12_move_88) (fun H locs hH => ?_)
        refine lv_aload_n hx hb dX12_move_91 rfl (lv_at hl 5 rfl) ?_
        refine gf_X12_19 C0 hH hk0 dX12_move_92 ?_
        refine lv_iload_n hx hb dX12_move_95 rfl (lv_at hl 7 rfl) ?_
        refine lv_iload hx hb dX12_move_96 (lv_at hl 3 rfl) ?_
        refine lv_iload hx hb dX12_move_98 (lv_at hl 2 rfl) ?_
        refine lv_iload hx hb dX12_move_100 (lv_at hl 1 rfl) ?_
        refine lv_iload hx hb dX12_move_102 (lv_at hl 0 rfl) ?_
        obtain ⟨σ18, qσ18, h⟩ := ob_s h
        refine go_v hH (va_run_S (As := [.ref (ea E (k0 + 4)), .int v2, .int x9, .int x11, .int x13, .int x15]) (rest := []) C0 hH lk_X12_174 (c_X12_lays hAd (k0 + 4) v2 x9 x11 x13 x15 (kf_12_4 hk0) σ17 qσ18) (by decide) rfl hl.1 rfl (Nat.le_of_ble_eq_true rfl) dX12_move_104) (fun H locs hH => ?_)
        refine lv_iload hx hb dX12_move_107 (lv_at hl 3 rfl) ?_
        exact r_iret C0 hH (pj1 h) (pj2 h) dX12_move_109
      · replace h := if_t h c5
        refine lv_ldc hx hb hown (hts _ qK_X12_158) dX12_move_24 ?_
        exact r_iret C0 hH (pj1 h) (pj2 h) dX12_move_26
    · replace h := if_t h c4
      refine lv_ldc hx hb hown (hts _ qK_X12_85) dX12_move_16 ?_
      exact r_iret C0 hH (pj1 h) (pj2 h) dX12_move_18
theorem c_X12_move {l : Launch} {E : EnvT} (hAd : Ad E) (k0 : Nat) (v1 : Int32) (v2 : Int32) (hk0 : kd k0 = 12) (σ : Mem) {r : Int32} {σ' : Mem} (h : X12_move k0 v1 v2 σ = some (r, σ')) : Met l yX12_move (wsM yX12_move cX12_move 8 (some .int)) (rmD 2) (PcM E [.ref (ea E k0), .int v1, .int v2] σ) (QiM E r σ') 0 0 (eA E) :=
  Met.ofM (by decide) (Nat.le_of_ble_eq_true rfl) (fun p e s m below meth c ls C0 hH hl => w_X12_move_b0 C0 k0 v1 v2 hk0 hH hl h) hAd
set_option maxRecDepth 100000 in
set_option maxHeartbeats 4000000 in
theorem w_X12_measure_b0 {r : Int32} {σ' : Mem} (C0 : Cx E p m c cX12_measure 6 s args RX12 meth (some .int))  (k0 : Nat) (v1 : Int32) (v2 : Int32) (v3 : Int32) (hk0 : kd k0 = 12) {σ : Mem} {H : Heap} {locs : List Loc} {ls : Array Slot} (hH : Hs E s σ H locs) (hl : lv_has ls 6 [(0, .ref (ea E k0)), (1, .int v1), (2, .int v2), (3, .int v3)]) (h : X12_measure_b0 k0 v1 v2 v3 σ = some (r, σ')) : W p l e (rmD 2) s m args below meth c H locs 0 0 (MQ below (QiM E r σ') args s 0 0 (eA E)) (F0 m 0 ls []) := by
  obtain ⟨⟨hx, hb, hml, hown, hts⟩, hr, hlocks, hF, hAd⟩ := id C0
  unfold X12_measure_b0 at h
  refine lv_aload_n hx hb dX12_measure_0 rfl (lv_at hl 0 rfl) ?_
  refine lv_iload_n hx hb dX12_measure_1 rfl (lv_at hl 1 rfl) ?_
  obtain ⟨r1, qr1, h⟩ := ob_s h
  refine go_i hH (va_run_V (As := [.int v1]) (rest := []) C0 hH lk_X12_178 (c_X12_isPage hAd k0 v1 hk0 σ qr1) (by decide) (ci := 12) hk0 (by decide) (cob_12 _ _ _) rfl rfl hl.1 rfl (Nat.le_of_ble_eq_true rfl) dX12_measure_2) (fun H locs hH => ?_)
  refine lv_if_eq (tgt := 32) hx hb dX12_measure_5 (by decide) (fun c2 => ?_) (fun c2 => ?_)
  · replace h := if_t h c2
    refine lv_ldc hx hb hown (hts _ qK_X12_85) dX12_measure_32 ?_
    exact r_iret C0 hH (pj1 h) (pj2 h) dX12_measure_34
  · replace h := if_f h c2
    refine lv_iload_n hx hb dX12_measure_8 rfl (lv_at hl 2 rfl) ?_
    refine lv_i2l (v := Int32.toInt64 v2) hx hb dX12_measure_9 rfl ?_
    refine lv_lconst (v := 0) hx hb dX12_measure_10 (by decide) ?_
    refine lv_ldc2 hx hb hown (hts _ qL_X12_83) dX12_measure_11 ?_
    refine go_i hH (va_run_S (As := [.long (Int32.toInt64 v2), .long 0, .long 2]) (rest := []) C0 hH lk_X12_75 (c_X12_in hAd (Int32.toInt64 v2) 0 2  σ rfl) (by decide) rfl hl.1 rfl (Nat.le_of_ble_eq_true rfl) dX12_measure_14) (fun H locs hH => ?_)
    refine lv_if_eq (tgt := 32) hx hb dX12_measure_17 (by decide) (fun c3 => ?_) (fun c3 => ?_)
    · replace h := if_t h c3
      refine lv_ldc hx hb hown (hts _ qK_X12_85) dX12_measure_32 ?_
      exact r_iret C0 hH (pj1 h) (pj2 h) dX12_measure_34
    · replace h := if_f h c3
      refine lv_iload_n hx hb dX12_measure_20 rfl (lv_at hl 3 rfl) ?_
      refine lv_i2l (v := Int32.toInt64 v3) hx hb dX12_measure_21 rfl ?_
      refine lv_lconst (v := 0) hx hb dX12_measure_22 (by decide) ?_
      refine lv_ldc2 hx hb hown (hts _ qL_X12_165) dX12_measure_23 ?_
      refine go_i hH (va_run_S (As := [.long (Int32.toInt64 v3), .long 0, .long 30]) (rest := []) C0 hH lk_X12_75 (c_X12_in hAd (Int32.toInt64 v3) 0 30  σ rfl) (by decide) rfl hl.1 rfl (Nat.le_of_ble_eq_true rfl) dX12_measure_26) (fun H locs hH => ?_)
      refine lv_if_ne (tgt := 35) hx hb dX12_measure_29 (by decide) (fun c4 => ?_) (fun c4 => ?_)
      · replace h := if_f h c4
        refine lv_iconst (v := 3) hx hb dX12_measure_35 (by decide) ?_
        refine lv_iconst (v := 4) hx hb dX12_measure_36 (by decide) ?_
        refine lv_iload_n hx hb dX12_measure_37 rfl (lv_at hl 1 rfl) ?_
        refine lv_imul hx hb dX12_measure_38 ?_
        refine lv_iadd hx hb dX12_measure_39 ?_
        refine lv_iconst (v := 1) hx hb dX12_measure_40 (by decide) ?_
        refine lv_iadd hx hb dX12_measure_41 ?_
        refine lv_iload_n hx hb dX12_measure_42 rfl (lv_at hl 2 rfl) ?_
        refine lv_iadd hx hb dX12_measure_43 ?_
        obtain ⟨x5, ex5, h⟩ := letv_s h
        refine topi_of ex5 ?_
        refine lv_istore (lv' := [(4, .int x5), (0, .ref (ea E k0)), (1, .int v1), (2, .int v2), (3, .int v3)]) hx hb dX12_measure_44 hl (by decide) rfl (fun ls hl => ?_)
        refine lv_aload_n hx hb dX12_measure_46 rfl (lv_at hl 1 rfl) ?_
        refine gf_X12_19 C0 hH hk0 dX12_measure_47 ?_
        refine lv_iload hx hb dX12_measure_50 (lv_at hl 0 rfl) ?_
        obtain ⟨b6, h⟩ := gdx_s h
        refine r_iald C0 hH (n := 43) (kf_12_4 hk0) b6 dX12_measure_52 ?_
        obtain ⟨x7, ex7, h⟩ := letv_s h
        refine topi_of ex7 ?_
        refine lv_istore (lv' := [(5, .int x7), (4, .int x5), (0, .ref (ea E k0)), (1, .int v1), (2, .int v2), (3, .int v3)]) hx hb dX12_measure_53 hl (by decide) rfl (fun ls hl => ?_)
        refine lv_aload_n hx hb dX12_measure_55 rfl (lv_at hl 2 rfl) ?_
        obtain ⟨σ8, qσ8, h⟩ := ob_s h
        refine go_v hH (va_run_V (As := []) (rest := []) C0 hH lk_X12_167 (c_X12_keeps hAd k0 hk0 σ qσ8) (by decide) (ci := 12) hk0 (by decide) (cob_12 _ _ _) rfl rfl hl.1 rfl (Nat.le_of_ble_eq_true rfl) dX12_measure_56) (fun H locs hH => ?_)
        refine lv_aload_n hx hb dX12_measure_59 rfl (lv_at hl 2 rfl) ?_
        refine gf_X12_19 C0 hH hk0 dX12_measure_60 ?_
        refine lv_iload hx hb dX12_measure_63 (lv_at hl 1 rfl) ?_
        refine lv_iload_n hx hb dX12_measure_65 rfl (lv_at hl 5 rfl) ?_
        obtain ⟨b9, h⟩ := gdx_s h
        refine r_iast C0 hH (n := 43) (kf_12_4 hk0) b9 dX12_measure_66 (fun H locs hH => ?_)
        refine lv_iload hx hb dX12_measure_67 (lv_at hl 0 rfl) ?_
        exact r_iret C0 hH (pj1 h) (pj2 h) dX12_measure_69
      · replace h := if_t h c4
        refine lv_ldc hx hb hown (hts _ qK_X12_85) dX12_measure_32 ?_
        exact r_iret C0 hH (pj1 h) (pj2 h) dX12_measure_34
theorem c_X12_measure {l : Launch} {E : EnvT} (hAd : Ad E) (k0 : Nat) (v1 : Int32) (v2 : Int32) (v3 : Int32) (hk0 : kd k0 = 12) (σ : Mem) {r : Int32} {σ' : Mem} (h : X12_measure k0 v1 v2 v3 σ = some (r, σ')) : Met l yX12_measure (wsM yX12_measure cX12_measure 6 (some .int)) (rmD 2) (PcM E [.ref (ea E k0), .int v1, .int v2, .int v3] σ) (QiM E r σ') 0 0 (eA E) :=
  Met.ofM (by decide) (Nat.le_of_ble_eq_true rfl) (fun p e s m below meth c ls C0 hH hl => w_X12_measure_b0 C0 k0 v1 v2 v3 hk0 hH hl h) hAd
set_option maxRecDepth 100000 in
set_option maxHeartbeats 4000000 in
theorem w_X12_kindOf_b0 {r : Int32} (C0 : Cx E p m c cX12_kindOf 2 s args RX12 meth (some .int))  (k0 : Nat) (v1 : Int32) (hk0 : kd k0 = 143) {σ : Mem} {H : Heap} {locs : List Loc} {ls : Array Slot} (hH : Hs E s σ H locs) (hl : lv_has ls 2 [(0, .ref (ea E k0)), (1, .int v1)]) (h : X12_kindOf_b0 k0 v1 σ = some r) : W p l e (rmD 0) s m args below meth c H locs 0 0 (MQ below (QiM E r σ) args s 0 0 (eA E)) (F0 m 0 ls []) := by
  obtain ⟨⟨hx, hb, hml, hown, hts⟩, hr, hlocks, hF, hAd⟩ := id C0
  unfold X12_kindOf_b0 at h
  refine lv_aload_n hx hb dX12_kindOf_0 rfl (lv_at hl 0 rfl) ?_
  refine lv_iconst (v := 3) hx hb dX12_kindOf_1 (by decide) ?_
  refine lv_iconst (v := 4) hx hb dX12_kindOf_2 (by decide) ?_
  refine lv_iload_n hx hb dX12_kindOf_3 rfl (lv_at hl 1 rfl) ?_
  refine lv_imul hx hb dX12_kindOf_4 ?_
  refine lv_iadd hx hb dX12_kindOf_5 ?_
  obtain ⟨b1, h⟩ := gdx_s h
  refine r_iald C0 hH (n := 43) hk0 b1 dX12_kindOf_6 ?_
  exact r_iret C0 hH (Option.some.inj h) rfl dX12_kindOf_7
theorem c_X12_kindOf {l : Launch} {E : EnvT} (hAd : Ad E) (k0 : Nat) (v1 : Int32) (hk0 : kd k0 = 143) (σ : Mem) {r : Int32} (h : X12_kindOf k0 v1 σ = some r) : Met l yX12_kindOf (wsM yX12_kindOf cX12_kindOf 2 (some .int)) (rmD 0) (PcM E [.ref (ea E k0), .int v1] σ) (QiM E r σ) 0 0 (eA E) :=
  Met.ofM (by decide) (Nat.le_of_ble_eq_true rfl) (fun p e s m below meth c ls C0 hH hl => w_X12_kindOf_b0 C0 k0 v1 hk0 hH hl h) hAd
set_option maxRecDepth 100000 in
set_option maxHeartbeats 4000000 in
theorem w_X12_become_b0 {r : Int32} {σ' : Mem} (C0 : Cx E p m c cX12_become 4 s args RX12 meth (some .int))  (k0 : Nat) (v1 : Int32) (v2 : Int32) (hk0 : kd k0 = 12) {σ : Mem} {H : Heap} {locs : List Loc} {ls : Array Slot} (hH : Hs E s σ H locs) (hl : lv_has ls 4 [(0, .ref (ea E k0)), (1, .int v1), (2, .int v2)]) (h : X12_become_b0 k0 v1 v2 σ = some (r, σ')) : W p l e (rmD 2) s m args below meth c H locs 0 0 (MQ below (QiM E r σ') args s 0 0 (eA E)) (F0 m 0 ls []) := by
  obtain ⟨⟨hx, hb, hml, hown, hts⟩, hr, hlocks, hF, hAd⟩ := id C0
  unfold X12_become_b0 at h
  refine lv_aload_n hx hb dX12_become_0 rfl (lv_at hl 0 rfl) ?_
  refine lv_iload_n hx hb dX12_become_1 rfl (lv_at hl 1 rfl) ?_
  obtain ⟨r1, qr1, h⟩ := ob_s h
  refine go_i hH (va_run_V (As := [.int v1]) (rest := []) C0 hH lk_X12_178 (c_X12_isPage hAd k0 v1 hk0 σ qr1) (by decide) (ci := 12) hk0 (by decide) (cob_12 _ _ _) rfl rfl hl.1 rfl (Nat.le_of_ble_eq_true rfl) dX12_become_2) (fun H locs hH => ?_)
  refine lv_if_eq (tgt := 20) hx hb dX12_become_5 (by decide) (fun c2 => ?_) (fun c2 => ?_)
  · replace h := if_t h c2
    refine lv_ldc hx hb hown (hts _ qK_X12_85) dX12_become_20 ?_
    exact r_iret C0 hH (pj1 h) (pj2 h) dX12_become_22
  · replace h := if_f h c2
    refine lv_iload_n hx hb dX12_become_8 rfl (lv_at hl 2 rfl) ?_
    refine lv_i2l (v := Int32.toInt64 v2) hx hb dX12_become_9 rfl ?_
    refine lv_lconst (v := 1) hx hb dX12_become_10 (by decide) ?_
    refine lv_ldc2 hx hb hown (hts _ qL_X12_163) dX12_become_11 ?_
    refine go_i hH (va_run_S (As := [.long (Int32.toInt64 v2), .long 1, .long 5]) (rest := []) C0 hH lk_X12_75 (c_X12_in hAd (Int32.toInt64 v2) 1 5  σ rfl) (by decide) rfl hl.1 rfl (Nat.le_of_ble_eq_true rfl) dX12_become_14) (fun H locs hH => ?_)
    refine lv_if_ne (tgt := 23) hx hb dX12_become_17 (by decide) (fun c3 => ?_) (fun c3 => ?_)
    · replace h := if_f h c3
      refine lv_aload_n hx hb dX12_become_23 rfl (lv_at hl 0 rfl) ?_
      refine gf_X12_19 C0 hH hk0 dX12_become_24 ?_
      refine lv_iload_n hx hb dX12_become_27 rfl (lv_at hl 1 rfl) ?_
      obtain ⟨r4, qr4, h⟩ := ob_s h
      refine go_i hH (va_run_S (As := [.ref (ea E (k0 + 4)), .int v1]) (rest := []) C0 hH lk_X12_184 (c_X12_kindOf hAd (k0 + 4) v1 (kf_12_4 hk0) σ qr4) (by decide) rfl hl.1 rfl (Nat.le_of_ble_eq_true rfl) dX12_become_28) (fun H locs hH => ?_)
      refine lv_istore_n (lv' := [(3, .int r4), (0, .ref (ea E k0)), (1, .int v1), (2, .int v2)]) hx hb dX12_become_31 rfl hl (by decide) rfl (fun ls hl => ?_)
      refine lv_iload_n hx hb dX12_become_32 rfl (lv_at hl 0 rfl) ?_
      refine lv_iload_n hx hb dX12_become_33 rfl (lv_at hl 3 rfl) ?_
      refine lv_icmp_ne (tgt := 40) hx hb dX12_become_34 (by decide) (fun c5 => ?_) (fun c5 => ?_)
      · replace h := if_f h c5
        refine lv_aload_n hx hb dX12_become_40 rfl (lv_at hl 1 rfl) ?_
        obtain ⟨σ6, qσ6, h⟩ := ob_s h
        refine go_v hH (va_run_V (As := []) (rest := []) C0 hH lk_X12_167 (c_X12_keeps hAd k0 hk0 σ qσ6) (by decide) (ci := 12) hk0 (by decide) (cob_12 _ _ _) rfl rfl hl.1 rfl (Nat.le_of_ble_eq_true rfl) dX12_become_41) (fun H locs hH => ?_)
        refine lv_aload_n hx hb dX12_become_44 rfl (lv_at hl 1 rfl) ?_
        refine gf_X12_19 C0 hH hk0 dX12_become_45 ?_
        refine lv_iconst (v := 3) hx hb dX12_become_48 (by decide) ?_
        refine lv_iconst (v := 4) hx hb dX12_become_49 (by decide) ?_
        refine lv_iload_n hx hb dX12_become_50 rfl (lv_at hl 2 rfl) ?_
        refine lv_imul hx hb dX12_become_51 ?_
        refine lv_iadd hx hb dX12_become_52 ?_
        refine lv_iload_n hx hb dX12_become_53 rfl (lv_at hl 3 rfl) ?_
        obtain ⟨b7, h⟩ := gdx_s h
        refine r_iast C0 hH (n := 43) (kf_12_4 hk0) b7 dX12_become_54 (fun H locs hH => ?_)
        refine lv_iload_n hx hb dX12_become_55 rfl (lv_at hl 0 rfl) ?_
        exact r_iret C0 hH (pj1 h) (pj2 h) dX12_become_56
      · replace h := if_t h c5
        refine lv_ldc hx hb hown (hts _ qK_X12_158) dX12_become_37 ?_
        exact r_iret C0 hH (pj1 h) (pj2 h) dX12_become_39
    · replace h := if_t h c3
      refine lv_ldc hx hb hown (hts _ qK_X12_85) dX12_become_20 ?_
      exact r_iret C0 hH (pj1 h) (pj2 h) dX12_become_22
theorem c_X12_become {l : Launch} {E : EnvT} (hAd : Ad E) (k0 : Nat) (v1 : Int32) (v2 : Int32) (hk0 : kd k0 = 12) (σ : Mem) {r : Int32} {σ' : Mem} (h : X12_become k0 v1 v2 σ = some (r, σ')) : Met l yX12_become (wsM yX12_become cX12_become 4 (some .int)) (rmD 2) (PcM E [.ref (ea E k0), .int v1, .int v2] σ) (QiM E r σ') 0 0 (eA E) :=
  Met.ofM (by decide) (Nat.le_of_ble_eq_true rfl) (fun p e s m below meth c ls C0 hH hl => w_X12_become_b0 C0 k0 v1 v2 hk0 hH hl h) hAd
set_option maxRecDepth 100000 in
set_option maxHeartbeats 4000000 in
theorem w_X12_law_b36 {r : Int32} {σ' : Mem} (C0 : Cx E p m c cX12_law 4 s args RX12 meth (some .int))  (k0 : Nat) (v1 : Int32) (v2 : Int32) (s0 : Int64) (s1 : Int64) (s2 : Int64) (hk0 : kd k0 = 12) {σ : Mem} {H : Heap} {locs : List Loc} {ls : Array Slot} (hH : Hs E s σ H locs) (hl : lv_has ls 4 [(0, .ref (ea E k0)), (1, .int v1), (2, .int v2)]) (h : X12_law_b36 k0 v1 v2 s0 s1 s2 σ = some (r, σ')) : W p l e (rmD 1) s m args below meth c H locs 0 0 (MQ below (QiM E r σ') args s 0 0 (eA E)) (F0 m 36 ls [.long s2, .long s1, .long s0]) := by
  obtain ⟨⟨hx, hb, hml, hown, hts⟩, hr, hlocks, hF, hAd⟩ := id C0
  unfold X12_law_b36 at h
  refine go_i hH (va_run_S (As := [.long s0, .long s1, .long s2]) (rest := []) C0 hH lk_X12_75 (c_X12_in hAd s0 s1 s2  σ rfl) (by decide) rfl hl.1 rfl (Nat.le_of_ble_eq_true rfl) dX12_law_36) (fun H locs hH => ?_)
  refine lv_if_ne (tgt := 45) hx hb dX12_law_39 (by decide) (fun c1 => ?_) (fun c1 => ?_)
  · replace h := if_f h c1
    refine lv_aload_n hx hb dX12_law_45 rfl (lv_at hl 0 rfl) ?_
    refine gf_X12_19 C0 hH hk0 dX12_law_46 ?_
    refine lv_iconst (v := 1) hx hb dX12_law_49 (by decide) ?_
    refine lv_iload_n hx hb dX12_law_50 rfl (lv_at hl 1 rfl) ?_
    refine lv_iadd hx hb dX12_law_51 ?_
    obtain ⟨b2, h⟩ := gdx_s h
    refine r_iald C0 hH (n := 43) (kf_12_4 hk0) b2 dX12_law_52 ?_
    obtain ⟨x3, ex3, h⟩ := letv_s h
    refine topi_of ex3 ?_
    refine lv_istore_n (lv' := [(3, .int x3), (0, .ref (ea E k0)), (1, .int v1), (2, .int v2)]) hx hb dX12_law_53 rfl hl (by decide) rfl (fun ls hl => ?_)
    refine lv_aload_n hx hb dX12_law_54 rfl (lv_at hl 1 rfl) ?_
    obtain ⟨σ4, qσ4, h⟩ := ob_s h
    refine go_v hH (va_run_V (As := []) (rest := []) C0 hH lk_X12_167 (c_X12_keeps hAd k0 hk0 σ qσ4) (by decide) (ci := 12) hk0 (by decide) (cob_12 _ _ _) rfl rfl hl.1 rfl (Nat.le_of_ble_eq_true rfl) dX12_law_55) (fun H locs hH => ?_)
    refine lv_aload_n hx hb dX12_law_58 rfl (lv_at hl 1 rfl) ?_
    refine gf_X12_19 C0 hH hk0 dX12_law_59 ?_
    refine lv_iconst (v := 1) hx hb dX12_law_62 (by decide) ?_
    refine lv_iload_n hx hb dX12_law_63 rfl (lv_at hl 2 rfl) ?_
    refine lv_iadd hx hb dX12_law_64 ?_
    refine lv_iload_n hx hb dX12_law_65 rfl (lv_at hl 3 rfl) ?_
    obtain ⟨b5, h⟩ := gdx_s h
    refine r_iast C0 hH (n := 43) (kf_12_4 hk0) b5 dX12_law_66 (fun H locs hH => ?_)
    refine lv_iload_n hx hb dX12_law_67 rfl (lv_at hl 0 rfl) ?_
    exact r_iret C0 hH (pj1 h) (pj2 h) dX12_law_68
  · replace h := if_t h c1
    refine lv_ldc hx hb hown (hts _ qK_X12_85) dX12_law_42 ?_
    exact r_iret C0 hH (pj1 h) (pj2 h) dX12_law_44
set_option maxRecDepth 100000 in
set_option maxHeartbeats 4000000 in
theorem w_X12_law_b0 {r : Int32} {σ' : Mem} (C0 : Cx E p m c cX12_law 4 s args RX12 meth (some .int))  (k0 : Nat) (v1 : Int32) (v2 : Int32) (hk0 : kd k0 = 12) {σ : Mem} {H : Heap} {locs : List Loc} {ls : Array Slot} (hH : Hs E s σ H locs) (hl : lv_has ls 4 [(0, .ref (ea E k0)), (1, .int v1), (2, .int v2)]) (h : X12_law_b0 k0 v1 v2 σ = some (r, σ')) : W p l e (rmD 1) s m args below meth c H locs 0 0 (MQ below (QiM E r σ') args s 0 0 (eA E)) (F0 m 0 ls []) := by
  obtain ⟨⟨hx, hb, hml, hown, hts⟩, hr, hlocks, hF, hAd⟩ := id C0
  unfold X12_law_b0 at h
  refine lv_aload_n hx hb dX12_law_0 rfl (lv_at hl 0 rfl) ?_
  obtain ⟨r1, qr1, h⟩ := ob_s h
  refine go_i hH (va_run_V (As := []) (rest := []) C0 hH lk_X12_159 (c_X12_isThere hAd k0 hk0 σ qr1) (by decide) (ci := 12) hk0 (by decide) (cob_12 _ _ _) rfl rfl hl.1 rfl (Nat.le_of_ble_eq_true rfl) dX12_law_1) (fun H locs hH => ?_)
  refine lv_if_ne (tgt := 10) hx hb dX12_law_4 (by decide) (fun c2 => ?_) (fun c2 => ?_)
  · replace h := if_f h c2
    refine lv_iload_n hx hb dX12_law_10 rfl (lv_at hl 1 rfl) ?_
    refine lv_i2l (v := Int32.toInt64 v1) hx hb dX12_law_11 rfl ?_
    refine lv_lconst (v := 0) hx hb dX12_law_12 (by decide) ?_
    refine lv_lconst (v := 1) hx hb dX12_law_13 (by decide) ?_
    refine go_i hH (va_run_S (As := [.long (Int32.toInt64 v1), .long 0, .long 1]) (rest := []) C0 hH lk_X12_75 (c_X12_in hAd (Int32.toInt64 v1) 0 1  σ rfl) (by decide) rfl hl.1 rfl (Nat.le_of_ble_eq_true rfl) dX12_law_14) (fun H locs hH => ?_)
    refine lv_if_eq (tgt := 42) hx hb dX12_law_17 (by decide) (fun c3 => ?_) (fun c3 => ?_)
    · replace h := if_t h c3
      refine lv_ldc hx hb hown (hts _ qK_X12_85) dX12_law_42 ?_
      exact r_iret C0 hH (pj1 h) (pj2 h) dX12_law_44
    · replace h := if_f h c3
      refine lv_iload_n hx hb dX12_law_20 rfl (lv_at hl 2 rfl) ?_
      refine lv_i2l (v := Int32.toInt64 v2) hx hb dX12_law_21 rfl ?_
      refine lv_lconst (v := 0) hx hb dX12_law_22 (by decide) ?_
      refine lv_iload_n hx hb dX12_law_23 rfl (lv_at hl 1 rfl) ?_
      refine lv_if_ne (tgt := 33) hx hb dX12_law_24 (by decide) (fun c4 => ?_) (fun c4 => ?_)
      · replace h := if_f h c4
        refine lv_ldc2 hx hb hown (hts _ qL_X12_190) dX12_law_33 ?_
        exact w_X12_law_b36 C0  k0 v1 v2 (Int32.toInt64 v2) 0 20 hk0 hH (lv_sub hl [0, 1, 2] rfl) h
      · replace h := if_t h c4
        refine lv_ldc2 hx hb hown (hts _ qL_X12_188) dX12_law_27 ?_
        refine lv_goto (tgt := 36) hx hb dX12_law_30 (by decide) ?_
        exact w_X12_law_b36 C0  k0 v1 v2 (Int32.toInt64 v2) 0 60 hk0 hH (lv_sub hl [0, 1, 2] rfl) h
  · replace h := if_t h c2
    refine lv_ldc hx hb hown (hts _ qK_X12_158) dX12_law_7 ?_
    exact r_iret C0 hH (pj1 h) (pj2 h) dX12_law_9
theorem c_X12_law {l : Launch} {E : EnvT} (hAd : Ad E) (k0 : Nat) (v1 : Int32) (v2 : Int32) (hk0 : kd k0 = 12) (σ : Mem) {r : Int32} {σ' : Mem} (h : X12_law k0 v1 v2 σ = some (r, σ')) : Met l yX12_law (wsM yX12_law cX12_law 4 (some .int)) (rmD 1) (PcM E [.ref (ea E k0), .int v1, .int v2] σ) (QiM E r σ') 0 0 (eA E) :=
  Met.ofM (by decide) (Nat.le_of_ble_eq_true rfl) (fun p e s m below meth c ls C0 hH hl => w_X12_law_b0 C0 k0 v1 v2 hk0 hH hl h) hAd
set_option maxRecDepth 100000 in
set_option maxHeartbeats 4000000 in
theorem w_X12_awayBy_b0 {r : Int32} (C0 : Cx E p m c cX12_awayBy 5 s args RX12 meth (some .int))  (k0 : Nat) (v1 : Int32) (v2 : Int32) (v3 : Int32) (hk0 : kd k0 = 143) {σ : Mem} {H : Heap} {locs : List Loc} {ls : Array Slot} (hH : Hs E s σ H locs) (hl : lv_has ls 5 [(0, .ref (ea E k0)), (1, .int v1), (2, .int v2), (3, .int v3)]) (h : X12_awayBy_b0 k0 v1 v2 v3 σ = some r) : W p l e (rmD 0) s m args below meth c H locs 0 0 (MQ below (QiM E r σ) args s 0 0 (eA E)) (F0 m 0 ls []) := by
  obtain ⟨⟨hx, hb, hml, hown, hts⟩, hr, hlocks, hF, hAd⟩ := id C0
  unfold X12_awayBy_b0 at h
  refine lv_aload_n hx hb dX12_awayBy_0 rfl (lv_at hl 0 rfl) ?_
  refine lv_iconst (v := 3) hx hb dX12_awayBy_1 (by decide) ?_
  refine lv_iconst (v := 4) hx hb dX12_awayBy_2 (by decide) ?_
  refine lv_iload_n hx hb dX12_awayBy_3 rfl (lv_at hl 1 rfl) ?_
  refine lv_imul hx hb dX12_awayBy_4 ?_
  refine lv_iadd hx hb dX12_awayBy_5 ?_
  refine lv_iconst (v := 1) hx hb dX12_awayBy_6 (by decide) ?_
  refine lv_iadd hx hb dX12_awayBy_7 ?_
  refine lv_iload_n hx hb dX12_awayBy_8 rfl (lv_at hl 3 rfl) ?_
  refine lv_iadd hx hb dX12_awayBy_9 ?_
  obtain ⟨b1, h⟩ := gdx_s h
  refine r_iald C0 hH (n := 43) hk0 b1 dX12_awayBy_10 ?_
  refine lv_aload_n hx hb dX12_awayBy_11 rfl (lv_at hl 0 rfl) ?_
  refine lv_iconst (v := 3) hx hb dX12_awayBy_12 (by decide) ?_
  refine lv_iconst (v := 4) hx hb dX12_awayBy_13 (by decide) ?_
  refine lv_iload_n hx hb dX12_awayBy_14 rfl (lv_at hl 2 rfl) ?_
  refine lv_imul hx hb dX12_awayBy_15 ?_
  refine lv_iadd hx hb dX12_awayBy_16 ?_
  refine lv_iconst (v := 1) hx hb dX12_awayBy_17 (by decide) ?_
  refine lv_iadd hx hb dX12_awayBy_18 ?_
  refine lv_iload_n hx hb dX12_awayBy_19 rfl (lv_at hl 3 rfl) ?_
  refine lv_iadd hx hb dX12_awayBy_20 ?_
  obtain ⟨b2, h⟩ := gdx_s h
  refine r_iald C0 hH (n := 43) hk0 b2 dX12_awayBy_21 ?_
  refine lv_isub hx hb dX12_awayBy_22 ?_
  obtain ⟨x3, ex3, h⟩ := letv_s h
  refine topi_of ex3 ?_
  refine lv_istore (lv' := [(4, .int x3), (0, .ref (ea E k0)), (1, .int v1), (2, .int v2), (3, .int v3)]) hx hb dX12_awayBy_23 hl (by decide) rfl (fun ls hl => ?_)
  refine lv_iload hx hb dX12_awayBy_25 (lv_at hl 0 rfl) ?_
  refine lv_if_ge (tgt := 36) hx hb dX12_awayBy_27 (by decide) (fun c4 => ?_) (fun c4 => ?_)
  · replace h := if_t h c4
    refine lv_iload hx hb dX12_awayBy_36 (lv_at hl 0 rfl) ?_
    exact r_iret C0 hH (Option.some.inj h) rfl dX12_awayBy_38
  · replace h := if_f h c4
    refine lv_iload hx hb dX12_awayBy_30 (lv_at hl 0 rfl) ?_
    refine lv_ineg hx hb dX12_awayBy_32 ?_
    refine lv_goto (tgt := 38) hx hb dX12_awayBy_33 (by decide) ?_
    exact r_iret C0 hH (Option.some.inj h) rfl dX12_awayBy_38
theorem c_X12_awayBy {l : Launch} {E : EnvT} (hAd : Ad E) (k0 : Nat) (v1 : Int32) (v2 : Int32) (v3 : Int32) (hk0 : kd k0 = 143) (σ : Mem) {r : Int32} (h : X12_awayBy k0 v1 v2 v3 σ = some r) : Met l yX12_awayBy (wsM yX12_awayBy cX12_awayBy 5 (some .int)) (rmD 0) (PcM E [.ref (ea E k0), .int v1, .int v2, .int v3] σ) (QiM E r σ) 0 0 (eA E) :=
  Met.ofM (by decide) (Nat.le_of_ble_eq_true rfl) (fun p e s m below meth c ls C0 hH hl => w_X12_awayBy_b0 C0 k0 v1 v2 v3 hk0 hH hl h) hAd
set_option maxRecDepth 100000 in
set_option maxHeartbeats 4000000 in
theorem w_X12_givenBy_b24 {r : Int32} (C0 : Cx E p m c cX12_givenBy 5 s args RX12 meth (some .int))  (v0 : Int32) (v1 : Int32) (v2 : Int32) (v3 : Int32) (s0 : Int32)  {σ : Mem} {H : Heap} {locs : List Loc} {ls : Array Slot} (hH : Hs E s σ H locs) (hl : lv_has ls 5 [(0, .int v0), (1, .int v1), (2, .int v2), (3, .int v3)]) (h : X12_givenBy_b24 v0 v1 v2 v3 s0 = r) : W p l e (rmD 0) s m args below meth c H locs 0 0 (MQ below (QiM E r σ) args s 0 0 (eA E)) (F0 m 24 ls [.int s0]) := by
  obtain ⟨⟨hx, hb, hml, hown, hts⟩, hr, hlocks, hF, hAd⟩ := id C0
  unfold X12_givenBy_b24 at h
  refine lv_istore (lv' := [(4, .int s0), (0, .int v0), (1, .int v1), (2, .int v2), (3, .int v3)]) hx hb dX12_givenBy_24 hl (by decide) rfl (fun ls hl => ?_)
  refine lv_iload_n hx hb dX12_givenBy_26 rfl (lv_at hl 1 rfl) ?_
  by_cases c1 : v0 = 1
  · replace h := if_t h c1
    refine lv_tableIn (off := 29) (tgt := 56) hx hb dX12_givenBy_27 (by rw [c1]; decide) (by rw [c1]; decide) (by rw [c1]; rfl) (by decide) ?_
    refine lv_iload_n hx hb dX12_givenBy_56 rfl (lv_at hl 2 rfl) ?_
    refine lv_iload_n hx hb dX12_givenBy_57 rfl (lv_at hl 3 rfl) ?_
    refine lv_iadd hx hb dX12_givenBy_58 ?_
    refine lv_iload_n hx hb dX12_givenBy_59 rfl (lv_at hl 4 rfl) ?_
    refine lv_iadd hx hb dX12_givenBy_60 ?_
    exact r_iret C0 hH h rfl dX12_givenBy_61
  · replace h := if_f h c1
    by_cases c2 : v0 = 2
    · replace h := if_t h c2
      refine lv_tableIn (off := 35) (tgt := 62) hx hb dX12_givenBy_27 (by rw [c2]; decide) (by rw [c2]; decide) (by rw [c2]; rfl) (by decide) ?_
      refine lv_iload_n hx hb dX12_givenBy_62 rfl (lv_at hl 2 rfl) ?_
      refine lv_iload_n hx hb dX12_givenBy_63 rfl (lv_at hl 3 rfl) ?_
      refine lv_iadd hx hb dX12_givenBy_64 ?_
      exact r_iret C0 hH h rfl dX12_givenBy_65
    · replace h := if_f h c2
      by_cases c3 : v0 = 3
      · replace h := if_t h c3
        refine lv_tableIn (off := 39) (tgt := 66) hx hb dX12_givenBy_27 (by rw [c3]; decide) (by rw [c3]; decide) (by rw [c3]; rfl) (by decide) ?_
        refine lv_iload_n hx hb dX12_givenBy_66 rfl (lv_at hl 2 rfl) ?_
        refine lv_iload_n hx hb dX12_givenBy_67 rfl (lv_at hl 3 rfl) ?_
        refine lv_iconst (v := 2) hx hb dX12_givenBy_68 (by decide) ?_
        refine lv_idiv hx hb dX12_givenBy_69 (by decide) ?_
        refine lv_iadd hx hb dX12_givenBy_70 ?_
        refine lv_iload_n hx hb dX12_givenBy_71 rfl (lv_at hl 4 rfl) ?_
        refine lv_iadd hx hb dX12_givenBy_72 ?_
        exact r_iret C0 hH h rfl dX12_givenBy_73
      · replace h := if_f h c3
        by_cases c4 : v0 = 4
        · replace h := if_t h c4
          refine lv_tableIn (off := 47) (tgt := 74) hx hb dX12_givenBy_27 (by rw [c4]; decide) (by rw [c4]; decide) (by rw [c4]; rfl) (by decide) ?_
          refine lv_iload hx hb dX12_givenBy_74 (lv_at hl 0 rfl) ?_
          exact r_iret C0 hH h rfl dX12_givenBy_76
        · replace h := if_f h c4
          refine lv_tableOut (tgt := 77) hx hb dX12_givenBy_27 (by have := i32_nv (v := 1) c1 (by decide); have := i32_nv (v := 2) c2 (by decide); have := i32_nv (v := 3) c3 (by decide); have := i32_nv (v := 4) c4 (by decide); omega) (by decide) ?_
          refine lv_iload hx hb dX12_givenBy_77 (lv_at hl 0 rfl) ?_
          refine lv_iconst (v := 5) hx hb dX12_givenBy_79 (by decide) ?_
          refine lv_iadd hx hb dX12_givenBy_80 ?_
          exact r_iret C0 hH h rfl dX12_givenBy_81
set_option maxRecDepth 100000 in
set_option maxHeartbeats 4000000 in
theorem w_X12_givenBy_b10 {r : Int32} (C0 : Cx E p m c cX12_givenBy 5 s args RX12 meth (some .int))  (v0 : Int32) (v1 : Int32) (v2 : Int32) (v3 : Int32) (s0 : Int32)  {σ : Mem} {H : Heap} {locs : List Loc} {ls : Array Slot} (hH : Hs E s σ H locs) (hl : lv_has ls 5 [(0, .int v0), (1, .int v1), (2, .int v2), (3, .int v3)]) (h : X12_givenBy_b10 v0 v1 v2 v3 s0 = r) : W p l e (rmD 0) s m args below meth c H locs 0 0 (MQ below (QiM E r σ) args s 0 0 (eA E)) (F0 m 10 ls [.int s0]) := by
  obtain ⟨⟨hx, hb, hml, hown, hts⟩, hr, hlocks, hF, hAd⟩ := id C0
  unfold X12_givenBy_b10 at h
  refine lv_istore (lv' := [(4, .int s0), (0, .int v0), (1, .int v1), (2, .int v2), (3, .int v3)]) hx hb dX12_givenBy_10 hl (by decide) rfl (fun ls hl => ?_)
  refine lv_iload hx hb dX12_givenBy_12 (lv_at hl 0 rfl) ?_
  refine lv_iload_n hx hb dX12_givenBy_14 rfl (lv_at hl 4 rfl) ?_
  refine lv_icmp_le (tgt := 23) hx hb dX12_givenBy_15 (by decide) (fun c1 => ?_) (fun c1 => ?_)
  · replace h := if_t h c1
    refine lv_iload_n hx hb dX12_givenBy_23 rfl (lv_at hl 4 rfl) ?_
    exact w_X12_givenBy_b24 C0  v0 v1 v2 v3 v3  hH (lv_sub hl [1, 2, 3, 4] rfl) h
  · replace h := if_f h c1
    refine lv_iload hx hb dX12_givenBy_18 (lv_at hl 0 rfl) ?_
    refine lv_goto (tgt := 24) hx hb dX12_givenBy_20 (by decide) ?_
    exact w_X12_givenBy_b24 C0  v0 v1 v2 v3 s0  hH (lv_sub hl [1, 2, 3, 4] rfl) h
set_option maxRecDepth 100000 in
set_option maxHeartbeats 4000000 in
theorem w_X12_givenBy_b0 {r : Int32} (C0 : Cx E p m c cX12_givenBy 5 s args RX12 meth (some .int))  (v0 : Int32) (v1 : Int32) (v2 : Int32) (v3 : Int32)  {σ : Mem} {H : Heap} {locs : List Loc} {ls : Array Slot} (hH : Hs E s σ H locs) (hl : lv_has ls 5 [(0, .int v0), (1, .int v1), (2, .int v2), (3, .int v3)]) (h : X12_givenBy_b0 v0 v1 v2 v3 = r) : W p l e (rmD 0) s m args below meth c H locs 0 0 (MQ below (QiM E r σ) args s 0 0 (eA E)) (F0 m 0 ls []) := by
  obtain ⟨⟨hx, hb, hml, hown, hts⟩, hr, hlocks, hF, hAd⟩ := id C0
  unfold X12_givenBy_b0 at h
  refine lv_iload_n hx hb dX12_givenBy_0 rfl (lv_at hl 1 rfl) ?_
  refine lv_iload_n hx hb dX12_givenBy_1 rfl (lv_at hl 2 rfl) ?_
  refine lv_icmp_le (tgt := 9) hx hb dX12_givenBy_2 (by decide) (fun c1 => ?_) (fun c1 => ?_)
  · replace h := if_t h c1
    refine lv_iload_n hx hb dX12_givenBy_9 rfl (lv_at hl 2 rfl) ?_
    exact w_X12_givenBy_b10 C0  v0 v1 v2 v3 v2  hH (lv_sub hl [0, 1, 2, 3] rfl) h
  · replace h := if_f h c1
    refine lv_iload_n hx hb dX12_givenBy_5 rfl (lv_at hl 1 rfl) ?_
    refine lv_goto (tgt := 10) hx hb dX12_givenBy_6 (by decide) ?_
    exact w_X12_givenBy_b10 C0  v0 v1 v2 v3 v1  hH (lv_sub hl [0, 1, 2, 3] rfl) h
theorem c_X12_givenBy {l : Launch} {E : EnvT} (hAd : Ad E) (v0 : Int32) (v1 : Int32) (v2 : Int32) (v3 : Int32)  (σ : Mem) {r : Int32} (h : X12_givenBy v0 v1 v2 v3 = r) : Met l yX12_givenBy (wsM yX12_givenBy cX12_givenBy 5 (some .int)) (rmD 0) (PcM E [.int v0, .int v1, .int v2, .int v3] σ) (QiM E r σ) 0 0 (eA E) :=
  Met.ofM (by decide) (Nat.le_of_ble_eq_true rfl) (fun p e s m below meth c ls C0 hH hl => w_X12_givenBy_b0 C0 v0 v1 v2 v3  hH hl h) hAd
set_option maxRecDepth 100000 in
set_option maxHeartbeats 4000000 in
theorem w_X12_farOf_b0 {r : Int32} (C0 : Cx E p m c cX12_farOf 8 s args RX12 meth (some .int))  (k0 : Nat) (v1 : Int32) (v2 : Int32) (hk0 : kd k0 = 143) {σ : Mem} {H : Heap} {locs : List Loc} {ls : Array Slot} (hH : Hs E s σ H locs) (hl : lv_has ls 8 [(0, .ref (ea E k0)), (1, .int v1), (2, .int v2)]) (h : X12_farOf_b0 k0 v1 v2 σ = some r) : W p l e (rmD 1) s m args below meth c H locs 0 0 (MQ below (QiM E r σ) args s 0 0 (eA E)) (F0 m 0 ls []) := by
  obtain ⟨⟨hx, hb, hml, hown, hts⟩, hr, hlocks, hF, hAd⟩ := id C0
  unfold X12_farOf_b0 at h
  refine lv_aload_n hx hb dX12_farOf_0 rfl (lv_at hl 0 rfl) ?_
  refine lv_iload_n hx hb dX12_farOf_1 rfl (lv_at hl 1 rfl) ?_
  refine lv_iload_n hx hb dX12_farOf_2 rfl (lv_at hl 2 rfl) ?_
  refine lv_iconst (v := 0) hx hb dX12_farOf_3 (by decide) ?_
  obtain ⟨r1, qr1, h⟩ := ob_s h
  refine go_i hH (va_run_S (As := [.ref (ea E k0), .int v1, .int v2, .int 0]) (rest := []) C0 hH lk_X12_192 (c_X12_awayBy hAd k0 v1 v2 0 hk0 σ qr1) (by decide) rfl hl.1 rfl (Nat.le_of_ble_eq_true rfl) dX12_farOf_4) (fun H locs hH => ?_)
  refine lv_istore_n (lv' := [(3, .int r1), (0, .ref (ea E k0)), (1, .int v1), (2, .int v2)]) hx hb dX12_farOf_7 rfl hl (by decide) rfl (fun ls hl => ?_)
  refine lv_aload_n hx hb dX12_farOf_8 rfl (lv_at hl 1 rfl) ?_
  refine lv_iload_n hx hb dX12_farOf_9 rfl (lv_at hl 2 rfl) ?_
  refine lv_iload_n hx hb dX12_farOf_10 rfl (lv_at hl 3 rfl) ?_
  refine lv_iconst (v := 1) hx hb dX12_farOf_11 (by decide) ?_
  obtain ⟨r2, qr2, h⟩ := ob_s h
  refine go_i hH (va_run_S (As := [.ref (ea E k0), .int v1, .int v2, .int 1]) (rest := []) C0 hH lk_X12_192 (c_X12_awayBy hAd k0 v1 v2 1 hk0 σ qr2) (by decide) rfl hl.1 rfl (Nat.le_of_ble_eq_true rfl) dX12_farOf_12) (fun H locs hH => ?_)
  refine lv_istore (lv' := [(4, .int r2), (3, .int r1), (0, .ref (ea E k0)), (1, .int v1), (2, .int v2)]) hx hb dX12_farOf_15 hl (by decide) rfl (fun ls hl => ?_)
  refine lv_aload_n hx hb dX12_farOf_17 rfl (lv_at hl 2 rfl) ?_
  refine lv_iload_n hx hb dX12_farOf_18 rfl (lv_at hl 3 rfl) ?_
  refine lv_iload_n hx hb dX12_farOf_19 rfl (lv_at hl 4 rfl) ?_
  refine lv_iconst (v := 2) hx hb dX12_farOf_20 (by decide) ?_
  obtain ⟨r3, qr3, h⟩ := ob_s h
  refine go_i hH (va_run_S (As := [.ref (ea E k0), .int v1, .int v2, .int 2]) (rest := []) C0 hH lk_X12_192 (c_X12_awayBy hAd k0 v1 v2 2 hk0 σ qr3) (by decide) rfl hl.1 rfl (Nat.le_of_ble_eq_true rfl) dX12_farOf_21) (fun H locs hH => ?_)
  refine lv_istore (lv' := [(5, .int r3), (4, .int r2), (3, .int r1), (0, .ref (ea E k0)), (1, .int v1), (2, .int v2)]) hx hb dX12_farOf_24 hl (by decide) rfl (fun ls hl => ?_)
  refine lv_aload_n hx hb dX12_farOf_26 rfl (lv_at hl 3 rfl) ?_
  refine lv_iload_n hx hb dX12_farOf_27 rfl (lv_at hl 4 rfl) ?_
  obtain ⟨r4, qr4, h⟩ := ob_s h
  refine go_i hH (va_run_S (As := [.ref (ea E k0), .int v1]) (rest := []) C0 hH lk_X12_184 (c_X12_kindOf hAd k0 v1 hk0 σ qr4) (by decide) rfl hl.1 rfl (Nat.le_of_ble_eq_true rfl) dX12_farOf_28) (fun H locs hH => ?_)
  refine lv_iload_n hx hb dX12_farOf_31 rfl (lv_at hl 2 rfl) ?_
  refine lv_iload hx hb dX12_farOf_32 (lv_at hl 1 rfl) ?_
  refine lv_iload hx hb dX12_farOf_34 (lv_at hl 0 rfl) ?_
  refine go_i hH (va_run_S (As := [.int r4, .int r1, .int r2, .int r3]) (rest := []) C0 hH lk_X12_196 (c_X12_givenBy hAd r4 r1 r2 r3  σ rfl) (by decide) rfl hl.1 rfl (Nat.le_of_ble_eq_true rfl) dX12_farOf_36) (fun H locs hH => ?_)
  obtain ⟨x5, ex5, h⟩ := letv_s h
  refine topi_of ex5 ?_
  refine lv_istore (lv' := [(6, .int x5), (5, .int r3), (4, .int r2), (3, .int r1), (0, .ref (ea E k0)), (1, .int v1), (2, .int v2)]) hx hb dX12_farOf_39 hl (by decide) rfl (fun ls hl => ?_)
  refine lv_aload_n hx hb dX12_farOf_41 rfl (lv_at hl 4 rfl) ?_
  refine lv_iload_n hx hb dX12_farOf_42 rfl (lv_at hl 6 rfl) ?_
  obtain ⟨r6, qr6, h⟩ := ob_s h
  refine go_i hH (va_run_S (As := [.ref (ea E k0), .int v2]) (rest := []) C0 hH lk_X12_184 (c_X12_kindOf hAd k0 v2 hk0 σ qr6) (by decide) rfl hl.1 rfl (Nat.le_of_ble_eq_true rfl) dX12_farOf_43) (fun H locs hH => ?_)
  refine lv_iload_n hx hb dX12_farOf_46 rfl (lv_at hl 3 rfl) ?_
  refine lv_iload hx hb dX12_farOf_47 (lv_at hl 2 rfl) ?_
  refine lv_iload hx hb dX12_farOf_49 (lv_at hl 1 rfl) ?_
  refine go_i hH (va_run_S (As := [.int r6, .int r1, .int r2, .int r3]) (rest := []) C0 hH lk_X12_196 (c_X12_givenBy hAd r6 r1 r2 r3  σ rfl) (by decide) rfl hl.1 rfl (Nat.le_of_ble_eq_true rfl) dX12_farOf_51) (fun H locs hH => ?_)
  obtain ⟨x7, ex7, h⟩ := letv_s h
  refine topi_of ex7 ?_
  refine lv_istore (lv' := [(7, .int x7), (6, .int x5), (5, .int r3), (4, .int r2), (3, .int r1), (0, .ref (ea E k0)), (1, .int v1), (2, .int v2)]) hx hb dX12_farOf_54 hl (by decide) rfl (fun ls hl => ?_)
  refine lv_iload hx hb dX12_farOf_56 (lv_at hl 1 rfl) ?_
  refine lv_iload hx hb dX12_farOf_58 (lv_at hl 0 rfl) ?_
  refine lv_icmp_ge (tgt := 68) hx hb dX12_farOf_60 (by decide) (fun c8 => ?_) (fun c8 => ?_)
  · replace h := if_t h c8
    refine lv_iload hx hb dX12_farOf_68 (lv_at hl 0 rfl) ?_
    exact r_iret C0 hH (Option.some.inj h) rfl dX12_farOf_70
  · replace h := if_f h c8
    refine lv_iload hx hb dX12_farOf_63 (lv_at hl 1 rfl) ?_
    refine lv_goto (tgt := 70) hx hb dX12_farOf_65 (by decide) ?_
    exact r_iret C0 hH (Option.some.inj h) rfl dX12_farOf_70
theorem c_X12_farOf {l : Launch} {E : EnvT} (hAd : Ad E) (k0 : Nat) (v1 : Int32) (v2 : Int32) (hk0 : kd k0 = 143) (σ : Mem) {r : Int32} (h : X12_farOf k0 v1 v2 σ = some r) : Met l yX12_farOf (wsM yX12_farOf cX12_farOf 8 (some .int)) (rmD 1) (PcM E [.ref (ea E k0), .int v1, .int v2] σ) (QiM E r σ) 0 0 (eA E) :=
  Met.ofM (by decide) (Nat.le_of_ble_eq_true rfl) (fun p e s m below meth c ls C0 hH hl => w_X12_farOf_b0 C0 k0 v1 v2 hk0 hH hl h) hAd
set_option maxRecDepth 100000 in
set_option maxHeartbeats 4000000 in
theorem w_X12_spreadOf_b73 {r : Int32} (C0 : Cx E p m c cX12_spreadOf 6 s args RX12 meth (some .int)) (K4 : Nat → Int32 → Int32 → Int32 → Mem → Option Int32) (hK4 : ∀ (k0 : Nat) (v1 : Int32) (v2 : Int32) (v3 : Int32) (hk0 : kd k0 = 143) (σ : Mem) (H : Heap) (locs : List Loc) (ls : Array Slot), Hs E s σ H locs → lv_has ls 6 [(0, .ref (ea E k0)), (1, .int v1), (2, .int v2), (3, .int v3)] → K4 k0 v1 v2 v3 σ = some r → W p l e (rmD 2) s m args below meth c H locs 0 0 (MQ below (QiM E r σ) args s 0 0 (eA E)) (F0 m 4 ls []))  (k0 : Nat) (v1 : Int32) (v2 : Int32) (v3 : Int32) (hk0 : kd k0 = 143) {σ : Mem} {H : Heap} {locs : List Loc} {ls : Array Slot} (hH : Hs E s σ H locs) (hl : lv_has ls 6 [(0, .ref (ea E k0)), (1, .int v1), (2, .int v2), (3, .int v3)]) (h : X12_spreadOf_b73 K4 k0 v1 v2 v3 σ = some r) : W p l e (rmD 2) s m args below meth c H locs 0 0 (MQ below (QiM E r σ) args s 0 0 (eA E)) (F0 m 73 ls []) := by
  obtain ⟨⟨hx, hb, hml, hown, hts⟩, hr, hlocks, hF, hAd⟩ := id C0
  unfold X12_spreadOf_b73 at h
  refine lv_iinc (v := v3 + 1) (lv' := [(3, .int (v3 + 1)), (0, .ref (ea E k0)), (1, .int v1), (2, .int v2)]) hx hb dX12_spreadOf_73 hl (k := 3) rfl rfl (by decide) rfl (fun ls hl => ?_)
  refine lv_goto (tgt := 4) hx hb dX12_spreadOf_76 (by decide) ?_
  exact hK4 k0 v1 v2 (v3 + 1) hk0 _ _ _ _ hH (lv_sub hl [1, 2, 3, 0] rfl) h
set_option maxRecDepth 100000 in
set_option maxHeartbeats 4000000 in
theorem w_X12_spreadOf_b66 {r : Int32} (C0 : Cx E p m c cX12_spreadOf 6 s args RX12 meth (some .int)) (K4 : Nat → Int32 → Int32 → Int32 → Mem → Option Int32) (K16 : Nat → Int32 → Int32 → Int32 → Int32 → Mem → Option Int32) (hK4 : ∀ (k0 : Nat) (v1 : Int32) (v2 : Int32) (v3 : Int32) (hk0 : kd k0 = 143) (σ : Mem) (H : Heap) (locs : List Loc) (ls : Array Slot), Hs E s σ H locs → lv_has ls 6 [(0, .ref (ea E k0)), (1, .int v1), (2, .int v2), (3, .int v3)] → K4 k0 v1 v2 v3 σ = some r → W p l e (rmD 2) s m args below meth c H locs 0 0 (MQ below (QiM E r σ) args s 0 0 (eA E)) (F0 m 4 ls [])) (hK16 : ∀ (k0 : Nat) (v1 : Int32) (v2 : Int32) (v3 : Int32) (v4 : Int32) (hk0 : kd k0 = 143) (σ : Mem) (H : Heap) (locs : List Loc) (ls : Array Slot), Hs E s σ H locs → lv_has ls 6 [(0, .ref (ea E k0)), (1, .int v1), (2, .int v2), (3, .int v3), (4, .int v4)] → K16 k0 v1 v2 v3 v4 σ = some r → W p l e (rmD 2) s m args below meth c H locs 0 0 (MQ below (QiM E r σ) args s 0 0 (eA E)) (F0 m 16 ls []))  (k0 : Nat) (v1 : Int32) (v3 : Int32) (v4 : Int32) (s0 : Int32) (hk0 : kd k0 = 143) {σ : Mem} {H : Heap} {locs : List Loc} {ls : Array Slot} (hH : Hs E s σ H locs) (hl : lv_has ls 6 [(0, .ref (ea E k0)), (1, .int v1), (3, .int v3), (4, .int v4)]) (h : X12_spreadOf_b66 K4 K16 k0 v1 v3 v4 s0 σ = some r) : W p l e (rmD 2) s m args below meth c H locs 0 0 (MQ below (QiM E r σ) args s 0 0 (eA E)) (F0 m 66 ls [.int s0]) := by
  obtain ⟨⟨hx, hb, hml, hown, hts⟩, hr, hlocks, hF, hAd⟩ := id C0
  unfold X12_spreadOf_b66 at h
  refine lv_istore_n (lv' := [(2, .int s0), (0, .ref (ea E k0)), (1, .int v1), (3, .int v3), (4, .int v4)]) hx hb dX12_spreadOf_66 rfl hl (by decide) rfl (fun ls hl => ?_)
  refine lv_iinc (v := v4 + 1) (lv' := [(4, .int (v4 + 1)), (2, .int s0), (0, .ref (ea E k0)), (1, .int v1), (3, .int v3)]) hx hb dX12_spreadOf_67 hl (k := 4) rfl rfl (by decide) rfl (fun ls hl => ?_)
  refine lv_goto (tgt := 16) hx hb dX12_spreadOf_70 (by decide) ?_
  exact hK16 k0 v1 s0 v3 (v4 + 1) hk0 _ _ _ _ hH (lv_sub hl [2, 3, 1, 4, 0] rfl) h
set_option maxRecDepth 100000 in
set_option maxHeartbeats 4000000 in
theorem w_X12_spreadOf_b52 {r : Int32} (C0 : Cx E p m c cX12_spreadOf 6 s args RX12 meth (some .int)) (K4 : Nat → Int32 → Int32 → Int32 → Mem → Option Int32) (K16 : Nat → Int32 → Int32 → Int32 → Int32 → Mem → Option Int32) (hK4 : ∀ (k0 : Nat) (v1 : Int32) (v2 : Int32) (v3 : Int32) (hk0 : kd k0 = 143) (σ : Mem) (H : Heap) (locs : List Loc) (ls : Array Slot), Hs E s σ H locs → lv_has ls 6 [(0, .ref (ea E k0)), (1, .int v1), (2, .int v2), (3, .int v3)] → K4 k0 v1 v2 v3 σ = some r → W p l e (rmD 2) s m args below meth c H locs 0 0 (MQ below (QiM E r σ) args s 0 0 (eA E)) (F0 m 4 ls [])) (hK16 : ∀ (k0 : Nat) (v1 : Int32) (v2 : Int32) (v3 : Int32) (v4 : Int32) (hk0 : kd k0 = 143) (σ : Mem) (H : Heap) (locs : List Loc) (ls : Array Slot), Hs E s σ H locs → lv_has ls 6 [(0, .ref (ea E k0)), (1, .int v1), (2, .int v2), (3, .int v3), (4, .int v4)] → K16 k0 v1 v2 v3 v4 σ = some r → W p l e (rmD 2) s m args below meth c H locs 0 0 (MQ below (QiM E r σ) args s 0 0 (eA E)) (F0 m 16 ls []))  (k0 : Nat) (v1 : Int32) (v2 : Int32) (v3 : Int32) (v4 : Int32) (s0 : Int32) (hk0 : kd k0 = 143) {σ : Mem} {H : Heap} {locs : List Loc} {ls : Array Slot} (hH : Hs E s σ H locs) (hl : lv_has ls 6 [(0, .ref (ea E k0)), (1, .int v1), (2, .int v2), (3, .int v3), (4, .int v4)]) (h : X12_spreadOf_b52 K4 K16 k0 v1 v2 v3 v4 s0 σ = some r) : W p l e (rmD 2) s m args below meth c H locs 0 0 (MQ below (QiM E r σ) args s 0 0 (eA E)) (F0 m 52 ls [.int s0]) := by
  obtain ⟨⟨hx, hb, hml, hown, hts⟩, hr, hlocks, hF, hAd⟩ := id C0
  unfold X12_spreadOf_b52 at h
  refine lv_istore (lv' := [(5, .int s0), (0, .ref (ea E k0)), (1, .int v1), (2, .int v2), (3, .int v3), (4, .int v4)]) hx hb dX12_spreadOf_52 hl (by decide) rfl (fun ls hl => ?_)
  refine lv_iload hx hb dX12_spreadOf_54 (lv_at hl 0 rfl) ?_
  refine lv_iload_n hx hb dX12_spreadOf_56 rfl (lv_at hl 3 rfl) ?_
  refine lv_icmp_le (tgt := 65) hx hb dX12_spreadOf_57 (by decide) (fun c1 => ?_) (fun c1 => ?_)
  · replace h := if_t h c1
    refine lv_iload_n hx hb dX12_spreadOf_65 rfl (lv_at hl 3 rfl) ?_
    exact w_X12_spreadOf_b66 C0 K4 K16 hK4 hK16 k0 v1 v3 v4 v2 hk0 hH (lv_sub hl [1, 2, 4, 5] rfl) h
  · replace h := if_f h c1
    refine lv_iload hx hb dX12_spreadOf_60 (lv_at hl 0 rfl) ?_
    refine lv_goto (tgt := 66) hx hb dX12_spreadOf_62 (by decide) ?_
    exact w_X12_spreadOf_b66 C0 K4 K16 hK4 hK16 k0 v1 v3 v4 s0 hk0 hH (lv_sub hl [1, 2, 4, 5] rfl) h
set_option maxRecDepth 100000 in
set_option maxHeartbeats 4000000 in
theorem w_X12_spreadOf_b16 {r : Int32} (C0 : Cx E p m c cX12_spreadOf 6 s args RX12 meth (some .int)) (K4 : Nat → Int32 → Int32 → Int32 → Mem → Option Int32) (K16 : Nat → Int32 → Int32 → Int32 → Int32 → Mem → Option Int32) (hK4 : ∀ (k0 : Nat) (v1 : Int32) (v2 : Int32) (v3 : Int32) (hk0 : kd k0 = 143) (σ : Mem) (H : Heap) (locs : List Loc) (ls : Array Slot), Hs E s σ H locs → lv_has ls 6 [(0, .ref (ea E k0)), (1, .int v1), (2, .int v2), (3, .int v3)] → K4 k0 v1 v2 v3 σ = some r → W p l e (rmD 2) s m args below meth c H locs 0 0 (MQ below (QiM E r σ) args s 0 0 (eA E)) (F0 m 4 ls [])) (hK16 : ∀ (k0 : Nat) (v1 : Int32) (v2 : Int32) (v3 : Int32) (v4 : Int32) (hk0 : kd k0 = 143) (σ : Mem) (H : Heap) (locs : List Loc) (ls : Array Slot), Hs E s σ H locs → lv_has ls 6 [(0, .ref (ea E k0)), (1, .int v1), (2, .int v2), (3, .int v3), (4, .int v4)] → K16 k0 v1 v2 v3 v4 σ = some r → W p l e (rmD 2) s m args below meth c H locs 0 0 (MQ below (QiM E r σ) args s 0 0 (eA E)) (F0 m 16 ls []))  (k0 : Nat) (v1 : Int32) (v2 : Int32) (v3 : Int32) (v4 : Int32) (hk0 : kd k0 = 143) {σ : Mem} {H : Heap} {locs : List Loc} {ls : Array Slot} (hH : Hs E s σ H locs) (hl : lv_has ls 6 [(0, .ref (ea E k0)), (1, .int v1), (2, .int v2), (3, .int v3), (4, .int v4)]) (h : X12_spreadOf_b16 K4 K16 k0 v1 v2 v3 v4 σ = some r) : W p l e (rmD 2) s m args below meth c H locs 0 0 (MQ below (QiM E r σ) args s 0 0 (eA E)) (F0 m 16 ls []) := by
  obtain ⟨⟨hx, hb, hml, hown, hts⟩, hr, hlocks, hF, hAd⟩ := id C0
  unfold X12_spreadOf_b16 at h
  refine lv_iload hx hb dX12_spreadOf_16 (lv_at hl 4 rfl) ?_
  refine lv_aload_n hx hb dX12_spreadOf_18 rfl (lv_at hl 0 rfl) ?_
  refine lv_iconst (v := 0) hx hb dX12_spreadOf_19 (by decide) ?_
  refine r_iald C0 hH (n := 43) hk0 (vin (by decide)) dX12_spreadOf_20 ?_
  refine lv_icmp_ge (tgt := 73) hx hb dX12_spreadOf_21 (by decide) (fun c1 => ?_) (fun c1 => ?_)
  · replace h := if_t h c1
    exact w_X12_spreadOf_b73 C0 K4 hK4 k0 v1 v2 v3 hk0 hH (lv_sub hl [0, 1, 2, 3] rfl) h
  · replace h := if_f h c1
    refine lv_iload_n hx hb dX12_spreadOf_24 rfl (lv_at hl 1 rfl) ?_
    refine lv_iload_n hx hb dX12_spreadOf_25 rfl (lv_at hl 3 rfl) ?_
    refine go_i hH (va_run_S (As := [.int v1, .int v3]) (rest := []) C0 hH lk_X12_90 (c_X12_has hAd v1 v3  σ rfl) (by decide) rfl hl.1 rfl (Nat.le_of_ble_eq_true rfl) dX12_spreadOf_26) (fun H locs hH => ?_)
    refine lv_if_eq (tgt := 73) hx hb dX12_spreadOf_29 (by decide) (fun c2 => ?_) (fun c2 => ?_)
    · replace h := if_t h c2
      exact w_X12_spreadOf_b73 C0 K4 hK4 k0 v1 v2 v3 hk0 hH (lv_sub hl [0, 1, 2, 3] rfl) h
    · replace h := if_f h c2
      refine lv_iload_n hx hb dX12_spreadOf_32 rfl (lv_at hl 1 rfl) ?_
      refine lv_iload hx hb dX12_spreadOf_33 (lv_at hl 4 rfl) ?_
      refine go_i hH (va_run_S (As := [.int v1, .int v4]) (rest := []) C0 hH lk_X12_90 (c_X12_has hAd v1 v4  σ rfl) (by decide) rfl hl.1 rfl (Nat.le_of_ble_eq_true rfl) dX12_spreadOf_35) (fun H locs hH => ?_)
      refine lv_if_eq (tgt := 51) hx hb dX12_spreadOf_38 (by decide) (fun c3 => ?_) (fun c3 => ?_)
      · replace h := if_t h c3
        refine lv_iconst (v := 0) hx hb dX12_spreadOf_51 (by decide) ?_
        exact w_X12_spreadOf_b52 C0 K4 K16 hK4 hK16 k0 v1 v2 v3 v4 0 hk0 hH (lv_sub hl [0, 1, 2, 3, 4] rfl) h
      · replace h := if_f h c3
        refine lv_aload_n hx hb dX12_spreadOf_41 rfl (lv_at hl 0 rfl) ?_
        refine lv_iload_n hx hb dX12_spreadOf_42 rfl (lv_at hl 3 rfl) ?_
        refine lv_iload hx hb dX12_spreadOf_43 (lv_at hl 4 rfl) ?_
        obtain ⟨r4, qr4, h⟩ := ob_s h
        refine go_i hH (va_run_S (As := [.ref (ea E k0), .int v3, .int v4]) (rest := []) C0 hH lk_X12_200 (c_X12_farOf hAd k0 v3 v4 hk0 σ qr4) (by decide) rfl hl.1 rfl (Nat.le_of_ble_eq_true rfl) dX12_spreadOf_45) (fun H locs hH => ?_)
        refine lv_goto (tgt := 52) hx hb dX12_spreadOf_48 (by decide) ?_
        exact w_X12_spreadOf_b52 C0 K4 K16 hK4 hK16 k0 v1 v2 v3 v4 r4 hk0 hH (lv_sub hl [0, 1, 2, 3, 4] rfl) h
set_option maxRecDepth 100000 in
set_option maxHeartbeats 4000000 in
theorem w_X12_spreadOf_l16 {r : Int32} (C0 : Cx E p m c cX12_spreadOf 6 s args RX12 meth (some .int)) (K4 : Nat → Int32 → Int32 → Int32 → Mem → Option Int32) (hK4 : ∀ (k0 : Nat) (v1 : Int32) (v2 : Int32) (v3 : Int32) (hk0 : kd k0 = 143) (σ : Mem) (H : Heap) (locs : List Loc) (ls : Array Slot), Hs E s σ H locs → lv_has ls 6 [(0, .ref (ea E k0)), (1, .int v1), (2, .int v2), (3, .int v3)] → K4 k0 v1 v2 v3 σ = some r → W p l e (rmD 2) s m args below meth c H locs 0 0 (MQ below (QiM E r σ) args s 0 0 (eA E)) (F0 m 4 ls []))  (n : Nat) : ∀ (k0 : Nat) (v1 : Int32) (v2 : Int32) (v3 : Int32) (v4 : Int32) (hk0 : kd k0 = 143) (σ : Mem) (H : Heap) (locs : List Loc) (ls : Array Slot), Hs E s σ H locs → lv_has ls 6 [(0, .ref (ea E k0)), (1, .int v1), (2, .int v2), (3, .int v3), (4, .int v4)] → X12_spreadOf_l16 K4 n k0 v1 v2 v3 v4 σ = some r → W p l e (rmD 2) s m args below meth c H locs 0 0 (MQ below (QiM E r σ) args s 0 0 (eA E)) (F0 m 16 ls []) := by
  induction n with
  | zero =>
    intro k0 v1 v2 v3 v4 hk0 σ H locs ls hH hl h
    cases h
  | succ n ih =>
    intro k0 v1 v2 v3 v4 hk0 σ H locs ls hH hl h
    exact w_X12_spreadOf_b16 C0 K4 (X12_spreadOf_l16 K4 n) hK4 ih k0 v1 v2 v3 v4 hk0 hH hl h
set_option maxRecDepth 100000 in
set_option maxHeartbeats 4000000 in
theorem w_X12_spreadOf_b4 {r : Int32} (C0 : Cx E p m c cX12_spreadOf 6 s args RX12 meth (some .int)) (K4 : Nat → Int32 → Int32 → Int32 → Mem → Option Int32) (hK4 : ∀ (k0 : Nat) (v1 : Int32) (v2 : Int32) (v3 : Int32) (hk0 : kd k0 = 143) (σ : Mem) (H : Heap) (locs : List Loc) (ls : Array Slot), Hs E s σ H locs → lv_has ls 6 [(0, .ref (ea E k0)), (1, .int v1), (2, .int v2), (3, .int v3)] → K4 k0 v1 v2 v3 σ = some r → W p l e (rmD 2) s m args below meth c H locs 0 0 (MQ below (QiM E r σ) args s 0 0 (eA E)) (F0 m 4 ls []))  (k0 : Nat) (v1 : Int32) (v2 : Int32) (v3 : Int32) (hk0 : kd k0 = 143) {σ : Mem} {H : Heap} {locs : List Loc} {ls : Array Slot} (hH : Hs E s σ H locs) (hl : lv_has ls 6 [(0, .ref (ea E k0)), (1, .int v1), (2, .int v2), (3, .int v3)]) (h : X12_spreadOf_b4 K4 k0 v1 v2 v3 σ = some r) : W p l e (rmD 2) s m args below meth c H locs 0 0 (MQ below (QiM E r σ) args s 0 0 (eA E)) (F0 m 4 ls []) := by
  obtain ⟨⟨hx, hb, hml, hown, hts⟩, hr, hlocks, hF, hAd⟩ := id C0
  unfold X12_spreadOf_b4 at h
  refine lv_iload_n hx hb dX12_spreadOf_4 rfl (lv_at hl 3 rfl) ?_
  refine lv_aload_n hx hb dX12_spreadOf_5 rfl (lv_at hl 0 rfl) ?_
  refine lv_iconst (v := 0) hx hb dX12_spreadOf_6 (by decide) ?_
  refine r_iald C0 hH (n := 43) hk0 (vin (by decide)) dX12_spreadOf_7 ?_
  refine lv_icmp_ge (tgt := 79) hx hb dX12_spreadOf_8 (by decide) (fun c1 => ?_) (fun c1 => ?_)
  · replace h := if_t h c1
    refine lv_iload_n hx hb dX12_spreadOf_79 rfl (lv_at hl 2 rfl) ?_
    exact r_iret C0 hH (Option.some.inj h) rfl dX12_spreadOf_80
  · replace h := if_f h c1
    refine lv_iload_n hx hb dX12_spreadOf_11 rfl (lv_at hl 3 rfl) ?_
    refine lv_iconst (v := 1) hx hb dX12_spreadOf_12 (by decide) ?_
    refine lv_iadd hx hb dX12_spreadOf_13 ?_
    obtain ⟨x2, ex2, h⟩ := letv_s h
    refine topi_of ex2 ?_
    refine lv_istore (lv' := [(4, .int x2), (0, .ref (ea E k0)), (1, .int v1), (2, .int v2), (3, .int v3)]) hx hb dX12_spreadOf_14 hl (by decide) rfl (fun ls hl => ?_)
    exact w_X12_spreadOf_l16 C0 K4 hK4 FU k0 v1 v2 v3 x2 hk0 _ _ _ _ hH (lv_sub hl [1, 2, 3, 4, 0] rfl) h
set_option maxRecDepth 100000 in
set_option maxHeartbeats 4000000 in
theorem w_X12_spreadOf_l4 {r : Int32} (C0 : Cx E p m c cX12_spreadOf 6 s args RX12 meth (some .int))  (n : Nat) : ∀ (k0 : Nat) (v1 : Int32) (v2 : Int32) (v3 : Int32) (hk0 : kd k0 = 143) (σ : Mem) (H : Heap) (locs : List Loc) (ls : Array Slot), Hs E s σ H locs → lv_has ls 6 [(0, .ref (ea E k0)), (1, .int v1), (2, .int v2), (3, .int v3)] → X12_spreadOf_l4 n k0 v1 v2 v3 σ = some r → W p l e (rmD 2) s m args below meth c H locs 0 0 (MQ below (QiM E r σ) args s 0 0 (eA E)) (F0 m 4 ls []) := by
  induction n with
  | zero =>
    intro k0 v1 v2 v3 hk0 σ H locs ls hH hl h
    cases h
  | succ n ih =>
    intro k0 v1 v2 v3 hk0 σ H locs ls hH hl h
    exact w_X12_spreadOf_b4 C0 (X12_spreadOf_l4 n)  ih k0 v1 v2 v3 hk0 hH hl h
set_option maxRecDepth 100000 in
set_option maxHeartbeats 4000000 in
theorem w_X12_spreadOf_b0 {r : Int32} (C0 : Cx E p m c cX12_spreadOf 6 s args RX12 meth (some .int))  (k0 : Nat) (v1 : Int32) (hk0 : kd k0 = 143) {σ : Mem} {H : Heap} {locs : List Loc} {ls : Array Slot} (hH : Hs E s σ H locs) (hl : lv_has ls 6 [(0, .ref (ea E k0)), (1, .int v1)]) (h : X12_spreadOf_b0 k0 v1 σ = some r) : W p l e (rmD 2) s m args below meth c H locs 0 0 (MQ below (QiM E r σ) args s 0 0 (eA E)) (F0 m 0 ls []) := by
  obtain ⟨⟨hx, hb, hml, hown, hts⟩, hr, hlocks, hF, hAd⟩ := id C0
  unfold X12_spreadOf_b0 at h
  refine lv_iconst (v := 0) hx hb dX12_spreadOf_0 (by decide) ?_
  refine lv_istore_n (lv' := [(2, .int 0), (0, .ref (ea E k0)), (1, .int v1)]) hx hb dX12_spreadOf_1 rfl hl (by decide) rfl (fun ls hl => ?_)
  refine lv_iconst (v := 0) hx hb dX12_spreadOf_2 (by decide) ?_
  refine lv_istore_n (lv' := [(3, .int 0), (2, .int 0), (0, .ref (ea E k0)), (1, .int v1)]) hx hb dX12_spreadOf_3 rfl hl (by decide) rfl (fun ls hl => ?_)
  exact w_X12_spreadOf_l4 C0  FU k0 v1 0 0 hk0 _ _ _ _ hH (lv_sub hl [2, 3, 1, 0] rfl) h
theorem c_X12_spreadOf {l : Launch} {E : EnvT} (hAd : Ad E) (k0 : Nat) (v1 : Int32) (hk0 : kd k0 = 143) (σ : Mem) {r : Int32} (h : X12_spreadOf k0 v1 σ = some r) : Met l yX12_spreadOf (wsM yX12_spreadOf cX12_spreadOf 6 (some .int)) (rmD 2) (PcM E [.ref (ea E k0), .int v1] σ) (QiM E r σ) 0 0 (eA E) :=
  Met.ofM (by decide) (Nat.le_of_ble_eq_true rfl) (fun p e s m below meth c ls C0 hH hl => w_X12_spreadOf_b0 C0 k0 v1 hk0 hH hl h) hAd
set_option maxRecDepth 100000 in
set_option maxHeartbeats 4000000 in
theorem w_X12_apart_b0 {r : Int32} (C0 : Cx E p m c cX12_apart 3 s args RX12 meth (some .int))  (k0 : Nat) (v1 : Int32) (v2 : Int32) (hk0 : kd k0 = 12) {σ : Mem} {H : Heap} {locs : List Loc} {ls : Array Slot} (hH : Hs E s σ H locs) (hl : lv_has ls 3 [(0, .ref (ea E k0)), (1, .int v1), (2, .int v2)]) (h : X12_apart_b0 k0 v1 v2 σ = some r) : W p l e (rmD 2) s m args below meth c H locs 0 0 (MQ below (QiM E r σ) args s 0 0 (eA E)) (F0 m 0 ls []) := by
  obtain ⟨⟨hx, hb, hml, hown, hts⟩, hr, hlocks, hF, hAd⟩ := id C0
  unfold X12_apart_b0 at h
  refine lv_aload_n hx hb dX12_apart_0 rfl (lv_at hl 0 rfl) ?_
  refine lv_iload_n hx hb dX12_apart_1 rfl (lv_at hl 1 rfl) ?_
  obtain ⟨r1, qr1, h⟩ := ob_s h
  refine go_i hH (va_run_V (As := [.int v1]) (rest := []) C0 hH lk_X12_178 (c_X12_isPage hAd k0 v1 hk0 σ qr1) (by decide) (ci := 12) hk0 (by decide) (cob_12 _ _ _) rfl rfl hl.1 rfl (Nat.le_of_ble_eq_true rfl) dX12_apart_2) (fun H locs hH => ?_)
  refine lv_if_eq (tgt := 33) hx hb dX12_apart_5 (by decide) (fun c2 => ?_) (fun c2 => ?_)
  · replace h := if_t h c2
    refine lv_ldc hx hb hown (hts _ qK_X12_85) dX12_apart_33 ?_
    exact r_iret C0 hH (Option.some.inj h) rfl dX12_apart_35
  · replace h := if_f h c2
    refine lv_aload_n hx hb dX12_apart_8 rfl (lv_at hl 0 rfl) ?_
    refine lv_iload_n hx hb dX12_apart_9 rfl (lv_at hl 2 rfl) ?_
    obtain ⟨r3, qr3, h⟩ := ob_s h
    refine go_i hH (va_run_V (As := [.int v2]) (rest := []) C0 hH lk_X12_178 (c_X12_isPage hAd k0 v2 hk0 σ qr3) (by decide) (ci := 12) hk0 (by decide) (cob_12 _ _ _) rfl rfl hl.1 rfl (Nat.le_of_ble_eq_true rfl) dX12_apart_10) (fun H locs hH => ?_)
    refine lv_if_eq (tgt := 33) hx hb dX12_apart_13 (by decide) (fun c4 => ?_) (fun c4 => ?_)
    · replace h := if_t h c4
      refine lv_ldc hx hb hown (hts _ qK_X12_85) dX12_apart_33 ?_
      exact r_iret C0 hH (Option.some.inj h) rfl dX12_apart_35
    · replace h := if_f h c4
      refine lv_iload_n hx hb dX12_apart_16 rfl (lv_at hl 1 rfl) ?_
      refine lv_iload_n hx hb dX12_apart_17 rfl (lv_at hl 2 rfl) ?_
      refine lv_icmp_eq (tgt := 33) hx hb dX12_apart_18 (by decide) (fun c5 => ?_) (fun c5 => ?_)
      · replace h := if_t h c5
        refine lv_ldc hx hb hown (hts _ qK_X12_85) dX12_apart_33 ?_
        exact r_iret C0 hH (Option.some.inj h) rfl dX12_apart_35
      · replace h := if_f h c5
        refine lv_aload_n hx hb dX12_apart_21 rfl (lv_at hl 0 rfl) ?_
        refine gf_X12_19 C0 hH hk0 dX12_apart_22 ?_
        refine lv_iload_n hx hb dX12_apart_25 rfl (lv_at hl 1 rfl) ?_
        refine lv_iload_n hx hb dX12_apart_26 rfl (lv_at hl 2 rfl) ?_
        obtain ⟨r6, qr6, h⟩ := ob_s h
        refine go_i hH (va_run_S (As := [.ref (ea E (k0 + 4)), .int v1, .int v2]) (rest := []) C0 hH lk_X12_200 (c_X12_farOf hAd (k0 + 4) v1 v2 (kf_12_4 hk0) σ qr6) (by decide) rfl hl.1 rfl (Nat.le_of_ble_eq_true rfl) dX12_apart_27) (fun H locs hH => ?_)
        refine lv_goto (tgt := 35) hx hb dX12_apart_30 (by decide) ?_
        exact r_iret C0 hH (Option.some.inj h) rfl dX12_apart_35
theorem c_X12_apart {l : Launch} {E : EnvT} (hAd : Ad E) (k0 : Nat) (v1 : Int32) (v2 : Int32) (hk0 : kd k0 = 12) (σ : Mem) {r : Int32} (h : X12_apart k0 v1 v2 σ = some r) : Met l yX12_apart (wsM yX12_apart cX12_apart 3 (some .int)) (rmD 2) (PcM E [.ref (ea E k0), .int v1, .int v2] σ) (QiM E r σ) 0 0 (eA E) :=
  Met.ofM (by decide) (Nat.le_of_ble_eq_true rfl) (fun p e s m below meth c ls C0 hH hl => w_X12_apart_b0 C0 k0 v1 v2 hk0 hH hl h) hAd
set_option maxRecDepth 100000 in
set_option maxHeartbeats 4000000 in
theorem w_X12_spread_b0 {r : Int32} (C0 : Cx E p m c cX12_spread 2 s args RX12 meth (some .int))  (k0 : Nat) (v1 : Int32) (hk0 : kd k0 = 12) {σ : Mem} {H : Heap} {locs : List Loc} {ls : Array Slot} (hH : Hs E s σ H locs) (hl : lv_has ls 2 [(0, .ref (ea E k0)), (1, .int v1)]) (h : X12_spread_b0 k0 v1 σ = some r) : W p l e (rmD 3) s m args below meth c H locs 0 0 (MQ below (QiM E r σ) args s 0 0 (eA E)) (F0 m 0 ls []) := by
  obtain ⟨⟨hx, hb, hml, hown, hts⟩, hr, hlocks, hF, hAd⟩ := id C0
  unfold X12_spread_b0 at h
  refine lv_aload_n hx hb dX12_spread_0 rfl (lv_at hl 0 rfl) ?_
  obtain ⟨r1, qr1, h⟩ := ob_s h
  refine go_i hH (va_run_V (As := []) (rest := []) C0 hH lk_X12_159 (c_X12_isThere hAd k0 hk0 σ qr1) (by decide) (ci := 12) hk0 (by decide) (cob_12 _ _ _) rfl rfl hl.1 rfl (Nat.le_of_ble_eq_true rfl) dX12_spread_1) (fun H locs hH => ?_)
  refine lv_if_ne (tgt := 10) hx hb dX12_spread_4 (by decide) (fun c2 => ?_) (fun c2 => ?_)
  · replace h := if_f h c2
    refine lv_iload_n hx hb dX12_spread_10 rfl (lv_at hl 1 rfl) ?_
    refine lv_i2l (v := Int32.toInt64 v1) hx hb dX12_spread_11 rfl ?_
    refine lv_lconst (v := 1) hx hb dX12_spread_12 (by decide) ?_
    refine lv_aload_n hx hb dX12_spread_13 rfl (lv_at hl 0 rfl) ?_
    refine gf_X12_19 C0 hH hk0 dX12_spread_14 ?_
    obtain ⟨r3, qr3, h⟩ := ob_s h
    refine go_i hH (va_run_S (As := [.ref (ea E (k0 + 4))]) (rest := [.long 1, .long (Int32.toInt64 v1)]) C0 hH lk_X12_204 (c_X12_allOf hAd (k0 + 4) (kf_12_4 hk0) σ qr3) (by decide) rfl hl.1 rfl (Nat.le_of_ble_eq_true rfl) dX12_spread_17) (fun H locs hH => ?_)
    refine lv_i2l (v := Int32.toInt64 r3) hx hb dX12_spread_20 rfl ?_
    refine go_i hH (va_run_S (As := [.long (Int32.toInt64 v1), .long 1, .long (Int32.toInt64 r3)]) (rest := []) C0 hH lk_X12_75 (c_X12_in hAd (Int32.toInt64 v1) 1 (Int32.toInt64 r3)  σ rfl) (by decide) rfl hl.1 rfl (Nat.le_of_ble_eq_true rfl) dX12_spread_21) (fun H locs hH => ?_)
    refine lv_if_eq (tgt := 38) hx hb dX12_spread_24 (by decide) (fun c4 => ?_) (fun c4 => ?_)
    · replace h := if_t h c4
      refine lv_ldc hx hb hown (hts _ qK_X12_85) dX12_spread_38 ?_
      exact r_iret C0 hH (Option.some.inj h) rfl dX12_spread_40
    · replace h := if_f h c4
      refine lv_aload_n hx hb dX12_spread_27 rfl (lv_at hl 0 rfl) ?_
      refine gf_X12_19 C0 hH hk0 dX12_spread_28 ?_
      refine lv_iload_n hx hb dX12_spread_31 rfl (lv_at hl 1 rfl) ?_
      obtain ⟨r5, qr5, h⟩ := ob_s h
      refine go_i hH (va_run_S (As := [.ref (ea E (k0 + 4)), .int v1]) (rest := []) C0 hH lk_X12_208 (c_X12_spreadOf hAd (k0 + 4) v1 (kf_12_4 hk0) σ qr5) (by decide) rfl hl.1 rfl (Nat.le_of_ble_eq_true rfl) dX12_spread_32) (fun H locs hH => ?_)
      refine lv_goto (tgt := 40) hx hb dX12_spread_35 (by decide) ?_
      exact r_iret C0 hH (Option.some.inj h) rfl dX12_spread_40
  · replace h := if_t h c2
    refine lv_ldc hx hb hown (hts _ qK_X12_158) dX12_spread_7 ?_
    exact r_iret C0 hH (Option.some.inj h) rfl dX12_spread_9
theorem c_X12_spread {l : Launch} {E : EnvT} (hAd : Ad E) (k0 : Nat) (v1 : Int32) (hk0 : kd k0 = 12) (σ : Mem) {r : Int32} (h : X12_spread k0 v1 σ = some r) : Met l yX12_spread (wsM yX12_spread cX12_spread 2 (some .int)) (rmD 3) (PcM E [.ref (ea E k0), .int v1] σ) (QiM E r σ) 0 0 (eA E) :=
  Met.ofM (by decide) (Nat.le_of_ble_eq_true rfl) (fun p e s m below meth c ls C0 hH hl => w_X12_spread_b0 C0 k0 v1 hk0 hH hl h) hAd
set_option maxRecDepth 100000 in
set_option maxHeartbeats 4000000 in
theorem w_X12_nextJoin_b103 {r : Int32} (C0 : Cx E p m c cX12_nextJoin 6 s args RX12 meth (some .int)) (K14 : Nat → Int32 → Int32 → Int32 → Mem → Option Int32) (K29 : Nat → Int32 → Int32 → Int32 → Int32 → Mem → Option Int32) (hK14 : ∀ (k0 : Nat) (v1 : Int32) (v2 : Int32) (v3 : Int32) (hk0 : kd k0 = 12) (σ : Mem) (H : Heap) (locs : List Loc) (ls : Array Slot), Hs E s σ H locs → lv_has ls 6 [(0, .ref (ea E k0)), (1, .int v1), (2, .int v2), (3, .int v3)] → K14 k0 v1 v2 v3 σ = some r → W p l e (rmD 3) s m args below meth c H locs 0 0 (MQ below (QiM E r σ) args s 0 0 (eA E)) (F0 m 14 ls [])) (hK29 : ∀ (k0 : Nat) (v1 : Int32) (v2 : Int32) (v3 : Int32) (v4 : Int32) (hk0 : kd k0 = 12) (σ : Mem) (H : Heap) (locs : List Loc) (ls : Array Slot), Hs E s σ H locs → lv_has ls 6 [(0, .ref (ea E k0)), (1, .int v1), (2, .int v2), (3, .int v3), (4, .int v4)] → K29 k0 v1 v2 v3 v4 σ = some r → W p l e (rmD 3) s m args below meth c H locs 0 0 (MQ below (QiM E r σ) args s 0 0 (eA E)) (F0 m 29 ls []))  (k0 : Nat) (v1 : Int32) (v2 : Int32) (v3 : Int32) (v4 : Int32) (hk0 : kd k0 = 12) {σ : Mem} {H : Heap} {locs : List Loc} {ls : Array Slot} (hH : Hs E s σ H locs) (hl : lv_has ls 6 [(0, .ref (ea E k0)), (1, .int v1), (2, .int v2), (3, .int v3), (4, .int v4)]) (h : X12_nextJoin_b103 K14 K29 k0 v1 v2 v3 v4 σ = some r) : W p l e (rmD 3) s m args below meth c H locs 0 0 (MQ below (QiM E r σ) args s 0 0 (eA E)) (F0 m 103 ls []) := by
  obtain ⟨⟨hx, hb, hml, hown, hts⟩, hr, hlocks, hF, hAd⟩ := id C0
  unfold X12_nextJoin_b103 at h
  refine lv_iinc (v := v4 + 1) (lv' := [(4, .int (v4 + 1)), (0, .ref (ea E k0)), (1, .int v1), (2, .int v2), (3, .int v3)]) hx hb dX12_nextJoin_103 hl (k := 4) rfl rfl (by decide) rfl (fun ls hl => ?_)
  refine lv_goto (tgt := 29) hx hb dX12_nextJoin_106 (by decide) ?_
  exact hK29 k0 v1 v2 v3 (v4 + 1) hk0 _ _ _ _ hH (lv_sub hl [1, 2, 3, 4, 0] rfl) h
set_option maxRecDepth 100000 in
set_option maxHeartbeats 4000000 in
theorem w_X12_nextJoin_b84 {r : Int32} (C0 : Cx E p m c cX12_nextJoin 6 s args RX12 meth (some .int)) (K14 : Nat → Int32 → Int32 → Int32 → Mem → Option Int32) (K29 : Nat → Int32 → Int32 → Int32 → Int32 → Mem → Option Int32) (hK14 : ∀ (k0 : Nat) (v1 : Int32) (v2 : Int32) (v3 : Int32) (hk0 : kd k0 = 12) (σ : Mem) (H : Heap) (locs : List Loc) (ls : Array Slot), Hs E s σ H locs → lv_has ls 6 [(0, .ref (ea E k0)), (1, .int v1), (2, .int v2), (3, .int v3)] → K14 k0 v1 v2 v3 σ = some r → W p l e (rmD 3) s m args below meth c H locs 0 0 (MQ below (QiM E r σ) args s 0 0 (eA E)) (F0 m 14 ls [])) (hK29 : ∀ (k0 : Nat) (v1 : Int32) (v2 : Int32) (v3 : Int32) (v4 : Int32) (hk0 : kd k0 = 12) (σ : Mem) (H : Heap) (locs : List Loc) (ls : Array Slot), Hs E s σ H locs → lv_has ls 6 [(0, .ref (ea E k0)), (1, .int v1), (2, .int v2), (3, .int v3), (4, .int v4)] → K29 k0 v1 v2 v3 v4 σ = some r → W p l e (rmD 3) s m args below meth c H locs 0 0 (MQ below (QiM E r σ) args s 0 0 (eA E)) (F0 m 29 ls []))  (k0 : Nat) (v1 : Int32) (v2 : Int32) (v3 : Int32) (v4 : Int32) (s0 : Int32) (hk0 : kd k0 = 12) {σ : Mem} {H : Heap} {locs : List Loc} {ls : Array Slot} (hH : Hs E s σ H locs) (hl : lv_has ls 6 [(0, .ref (ea E k0)), (1, .int v1), (2, .int v2), (3, .int v3), (4, .int v4)]) (h : X12_nextJoin_b84 K14 K29 k0 v1 v2 v3 v4 s0 σ = some r) : W p l e (rmD 3) s m args below meth c H locs 0 0 (MQ below (QiM E r σ) args s 0 0 (eA E)) (F0 m 84 ls [.int s0]) := by
  obtain ⟨⟨hx, hb, hml, hown, hts⟩, hr, hlocks, hF, hAd⟩ := id C0
  unfold X12_nextJoin_b84 at h
  refine lv_istore (lv' := [(5, .int s0), (0, .ref (ea E k0)), (1, .int v1), (2, .int v2), (3, .int v3), (4, .int v4)]) hx hb dX12_nextJoin_84 hl (by decide) rfl (fun ls hl => ?_)
  refine lv_iload hx hb dX12_nextJoin_86 (lv_at hl 0 rfl) ?_
  refine lv_iload_n hx hb dX12_nextJoin_88 rfl (lv_at hl 3 rfl) ?_
  refine lv_icmp_ge (tgt := 103) hx hb dX12_nextJoin_89 (by decide) (fun c1 => ?_) (fun c1 => ?_)
  · replace h := if_t h c1
    exact w_X12_nextJoin_b103 C0 K14 K29 hK14 hK29 k0 v1 v2 v3 v4 hk0 hH (lv_sub hl [1, 2, 3, 4, 5] rfl) h
  · replace h := if_f h c1
    refine lv_iload hx hb dX12_nextJoin_92 (lv_at hl 0 rfl) ?_
    refine lv_istore_n (lv' := [(2, .int s0), (5, .int s0), (0, .ref (ea E k0)), (1, .int v1), (3, .int v3), (4, .int v4)]) hx hb dX12_nextJoin_94 rfl hl (by decide) rfl (fun ls hl => ?_)
    refine lv_bipush (v := 10) hx hb dX12_nextJoin_95 (by decide) ?_
    refine lv_iload_n hx hb dX12_nextJoin_97 rfl (lv_at hl 4 rfl) ?_
    refine lv_imul hx hb dX12_nextJoin_98 ?_
    refine lv_iload hx hb dX12_nextJoin_99 (lv_at hl 5 rfl) ?_
    refine lv_iadd hx hb dX12_nextJoin_101 ?_
    obtain ⟨x2, ex2, h⟩ := letv_s h
    refine topi_of ex2 ?_
    refine lv_istore_n (lv' := [(1, .int x2), (2, .int s0), (5, .int s0), (0, .ref (ea E k0)), (3, .int v3), (4, .int v4)]) hx hb dX12_nextJoin_102 rfl hl (by decide) rfl (fun ls hl => ?_)
    exact w_X12_nextJoin_b103 C0 K14 K29 hK14 hK29 k0 x2 s0 v3 v4 hk0 hH (lv_sub hl [3, 0, 1, 4, 5] rfl) h
set_option maxRecDepth 100000 in
set_option maxHeartbeats 4000000 in
theorem w_X12_nextJoin_b83 {r : Int32} (C0 : Cx E p m c cX12_nextJoin 6 s args RX12 meth (some .int)) (K14 : Nat → Int32 → Int32 → Int32 → Mem → Option Int32) (K29 : Nat → Int32 → Int32 → Int32 → Int32 → Mem → Option Int32) (hK14 : ∀ (k0 : Nat) (v1 : Int32) (v2 : Int32) (v3 : Int32) (hk0 : kd k0 = 12) (σ : Mem) (H : Heap) (locs : List Loc) (ls : Array Slot), Hs E s σ H locs → lv_has ls 6 [(0, .ref (ea E k0)), (1, .int v1), (2, .int v2), (3, .int v3)] → K14 k0 v1 v2 v3 σ = some r → W p l e (rmD 3) s m args below meth c H locs 0 0 (MQ below (QiM E r σ) args s 0 0 (eA E)) (F0 m 14 ls [])) (hK29 : ∀ (k0 : Nat) (v1 : Int32) (v2 : Int32) (v3 : Int32) (v4 : Int32) (hk0 : kd k0 = 12) (σ : Mem) (H : Heap) (locs : List Loc) (ls : Array Slot), Hs E s σ H locs → lv_has ls 6 [(0, .ref (ea E k0)), (1, .int v1), (2, .int v2), (3, .int v3), (4, .int v4)] → K29 k0 v1 v2 v3 v4 σ = some r → W p l e (rmD 3) s m args below meth c H locs 0 0 (MQ below (QiM E r σ) args s 0 0 (eA E)) (F0 m 29 ls []))  (k0 : Nat) (v1 : Int32) (v2 : Int32) (v3 : Int32) (v4 : Int32) (hk0 : kd k0 = 12) {σ : Mem} {H : Heap} {locs : List Loc} {ls : Array Slot} (hH : Hs E s σ H locs) (hl : lv_has ls 6 [(0, .ref (ea E k0)), (1, .int v1), (2, .int v2), (3, .int v3), (4, .int v4)]) (h : X12_nextJoin_b83 K14 K29 k0 v1 v2 v3 v4 σ = some r) : W p l e (rmD 3) s m args below meth c H locs 0 0 (MQ below (QiM E r σ) args s 0 0 (eA E)) (F0 m 83 ls []) := by
  obtain ⟨⟨hx, hb, hml, hown, hts⟩, hr, hlocks, hF, hAd⟩ := id C0
  unfold X12_nextJoin_b83 at h
  refine lv_iload_n hx hb dX12_nextJoin_83 rfl (lv_at hl 2 rfl) ?_
  exact w_X12_nextJoin_b84 C0 K14 K29 hK14 hK29 k0 v1 v2 v3 v4 v2 hk0 hH (lv_sub hl [0, 1, 2, 3, 4] rfl) h
set_option maxRecDepth 100000 in
set_option maxHeartbeats 4000000 in
theorem w_X12_nextJoin_b29 {r : Int32} (C0 : Cx E p m c cX12_nextJoin 6 s args RX12 meth (some .int)) (K14 : Nat → Int32 → Int32 → Int32 → Mem → Option Int32) (K29 : Nat → Int32 → Int32 → Int32 → Int32 → Mem → Option Int32) (hK14 : ∀ (k0 : Nat) (v1 : Int32) (v2 : Int32) (v3 : Int32) (hk0 : kd k0 = 12) (σ : Mem) (H : Heap) (locs : List Loc) (ls : Array Slot), Hs E s σ H locs → lv_has ls 6 [(0, .ref (ea E k0)), (1, .int v1), (2, .int v2), (3, .int v3)] → K14 k0 v1 v2 v3 σ = some r → W p l e (rmD 3) s m args below meth c H locs 0 0 (MQ below (QiM E r σ) args s 0 0 (eA E)) (F0 m 14 ls [])) (hK29 : ∀ (k0 : Nat) (v1 : Int32) (v2 : Int32) (v3 : Int32) (v4 : Int32) (hk0 : kd k0 = 12) (σ : Mem) (H : Heap) (locs : List Loc) (ls : Array Slot), Hs E s σ H locs → lv_has ls 6 [(0, .ref (ea E k0)), (1, .int v1), (2, .int v2), (3, .int v3), (4, .int v4)] → K29 k0 v1 v2 v3 v4 σ = some r → W p l e (rmD 3) s m args below meth c H locs 0 0 (MQ below (QiM E r σ) args s 0 0 (eA E)) (F0 m 29 ls []))  (k0 : Nat) (v1 : Int32) (v2 : Int32) (v3 : Int32) (v4 : Int32) (hk0 : kd k0 = 12) {σ : Mem} {H : Heap} {locs : List Loc} {ls : Array Slot} (hH : Hs E s σ H locs) (hl : lv_has ls 6 [(0, .ref (ea E k0)), (1, .int v1), (2, .int v2), (3, .int v3), (4, .int v4)]) (h : X12_nextJoin_b29 K14 K29 k0 v1 v2 v3 v4 σ = some r) : W p l e (rmD 3) s m args below meth c H locs 0 0 (MQ below (QiM E r σ) args s 0 0 (eA E)) (F0 m 29 ls []) := by
  obtain ⟨⟨hx, hb, hml, hown, hts⟩, hr, hlocks, hF, hAd⟩ := id C0
  unfold X12_nextJoin_b29 at h
  refine lv_iload hx hb dX12_nextJoin_29 (lv_at hl 4 rfl) ?_
  refine lv_aload_n hx hb dX12_nextJoin_31 rfl (lv_at hl 0 rfl) ?_
  refine gf_X12_19 C0 hH hk0 dX12_nextJoin_32 ?_
  refine lv_iconst (v := 0) hx hb dX12_nextJoin_35 (by decide) ?_
  refine r_iald C0 hH (n := 43) (kf_12_4 hk0) (vin (by decide)) dX12_nextJoin_36 ?_
  refine lv_icmp_ge (tgt := 109) hx hb dX12_nextJoin_37 (by decide) (fun c1 => ?_) (fun c1 => ?_)
  · replace h := if_t h c1
    refine lv_iinc (v := v3 + 1) (lv' := [(3, .int (v3 + 1)), (0, .ref (ea E k0)), (1, .int v1), (2, .int v2), (4, .int v4)]) hx hb dX12_nextJoin_109 hl (k := 3) rfl rfl (by decide) rfl (fun ls hl => ?_)
    refine lv_goto (tgt := 14) hx hb dX12_nextJoin_112 (by decide) ?_
    exact hK14 k0 v1 v2 (v3 + 1) hk0 _ _ _ _ hH (lv_sub hl [1, 2, 3, 0] rfl) h
  · replace h := if_f h c1
    refine lv_aload_n hx hb dX12_nextJoin_40 rfl (lv_at hl 0 rfl) ?_
    refine gf_X12_34 C0 hH hk0 dX12_nextJoin_41 ?_
    refine lv_iload_n hx hb dX12_nextJoin_44 rfl (lv_at hl 3 rfl) ?_
    obtain ⟨b2, h⟩ := gdx_s h
    refine r_iald C0 hH (n := 10) (kf_12_18 hk0) b2 dX12_nextJoin_45 ?_
    refine lv_if_le (tgt := 83) hx hb dX12_nextJoin_46 (by decide) (fun c3 => ?_) (fun c3 => ?_)
    · replace h := if_t h c3
      exact w_X12_nextJoin_b83 C0 K14 K29 hK14 hK29 k0 v1 v2 v3 v4 hk0 hH (lv_sub hl [0, 1, 2, 3, 4] rfl) h
    · replace h := if_f h c3
      refine lv_aload_n hx hb dX12_nextJoin_49 rfl (lv_at hl 0 rfl) ?_
      refine gf_X12_34 C0 hH hk0 dX12_nextJoin_50 ?_
      refine lv_iload hx hb dX12_nextJoin_53 (lv_at hl 4 rfl) ?_
      obtain ⟨b4, h⟩ := gdx_s h
      refine r_iald C0 hH (n := 10) (kf_12_18 hk0) b4 dX12_nextJoin_55 ?_
      refine lv_if_le (tgt := 83) hx hb dX12_nextJoin_56 (by decide) (fun c5 => ?_) (fun c5 => ?_)
      · replace h := if_t h c5
        exact w_X12_nextJoin_b83 C0 K14 K29 hK14 hK29 k0 v1 v2 v3 v4 hk0 hH (lv_sub hl [0, 1, 2, 3, 4] rfl) h
      · replace h := if_f h c5
        refine lv_aload_n hx hb dX12_nextJoin_59 rfl (lv_at hl 0 rfl) ?_
        refine gf_X12_19 C0 hH hk0 dX12_nextJoin_60 ?_
        refine lv_aload_n hx hb dX12_nextJoin_63 rfl (lv_at hl 0 rfl) ?_
        refine gf_X12_34 C0 hH hk0 dX12_nextJoin_64 ?_
        refine lv_iload_n hx hb dX12_nextJoin_67 rfl (lv_at hl 3 rfl) ?_
        obtain ⟨b6, h⟩ := gdx_s h
        refine r_iald C0 hH (n := 10) (kf_12_18 hk0) b6 dX12_nextJoin_68 ?_
        refine lv_aload_n hx hb dX12_nextJoin_69 rfl (lv_at hl 0 rfl) ?_
        refine gf_X12_34 C0 hH hk0 dX12_nextJoin_70 ?_
        refine lv_iload hx hb dX12_nextJoin_73 (lv_at hl 4 rfl) ?_
        obtain ⟨b7, h⟩ := gdx_s h
        refine r_iald C0 hH (n := 10) (kf_12_18 hk0) b7 dX12_nextJoin_75 ?_
        refine lv_ior hx hb dX12_nextJoin_76 ?_
        obtain ⟨r8, qr8, h⟩ := ob_s h
        refine go_i hH (va_run_S (As := [.ref (ea E (k0 + 4)), .int ((σ (k0 + 9) (nc v3)) ||| (σ (k0 + 9) (nc v4)))]) (rest := []) C0 hH lk_X12_208 (c_X12_spreadOf hAd (k0 + 4) ((σ (k0 + 9) (nc v3)) ||| (σ (k0 + 9) (nc v4))) (kf_12_4 hk0) σ qr8) (by decide) rfl hl.1 rfl (Nat.le_of_ble_eq_true rfl) dX12_nextJoin_77) (fun H locs hH => ?_)
        refine lv_goto (tgt := 84) hx hb dX12_nextJoin_80 (by decide) ?_
        exact w_X12_nextJoin_b84 C0 K14 K29 hK14 hK29 k0 v1 v2 v3 v4 r8 hk0 hH (lv_sub hl [0, 1, 2, 3, 4] rfl) h
set_option maxRecDepth 100000 in
set_option maxHeartbeats 4000000 in
theorem w_X12_nextJoin_l29 {r : Int32} (C0 : Cx E p m c cX12_nextJoin 6 s args RX12 meth (some .int)) (K14 : Nat → Int32 → Int32 → Int32 → Mem → Option Int32) (hK14 : ∀ (k0 : Nat) (v1 : Int32) (v2 : Int32) (v3 : Int32) (hk0 : kd k0 = 12) (σ : Mem) (H : Heap) (locs : List Loc) (ls : Array Slot), Hs E s σ H locs → lv_has ls 6 [(0, .ref (ea E k0)), (1, .int v1), (2, .int v2), (3, .int v3)] → K14 k0 v1 v2 v3 σ = some r → W p l e (rmD 3) s m args below meth c H locs 0 0 (MQ below (QiM E r σ) args s 0 0 (eA E)) (F0 m 14 ls []))  (n : Nat) : ∀ (k0 : Nat) (v1 : Int32) (v2 : Int32) (v3 : Int32) (v4 : Int32) (hk0 : kd k0 = 12) (σ : Mem) (H : Heap) (locs : List Loc) (ls : Array Slot), Hs E s σ H locs → lv_has ls 6 [(0, .ref (ea E k0)), (1, .int v1), (2, .int v2), (3, .int v3), (4, .int v4)] → X12_nextJoin_l29 K14 n k0 v1 v2 v3 v4 σ = some r → W p l e (rmD 3) s m args below meth c H locs 0 0 (MQ below (QiM E r σ) args s 0 0 (eA E)) (F0 m 29 ls []) := by
  induction n with
  | zero =>
    intro k0 v1 v2 v3 v4 hk0 σ H locs ls hH hl h
    cases h
  | succ n ih =>
    intro k0 v1 v2 v3 v4 hk0 σ H locs ls hH hl h
    exact w_X12_nextJoin_b29 C0 K14 (X12_nextJoin_l29 K14 n) hK14 ih k0 v1 v2 v3 v4 hk0 hH hl h
set_option maxRecDepth 100000 in
set_option maxHeartbeats 4000000 in
theorem w_X12_nextJoin_b14 {r : Int32} (C0 : Cx E p m c cX12_nextJoin 6 s args RX12 meth (some .int)) (K14 : Nat → Int32 → Int32 → Int32 → Mem → Option Int32) (hK14 : ∀ (k0 : Nat) (v1 : Int32) (v2 : Int32) (v3 : Int32) (hk0 : kd k0 = 12) (σ : Mem) (H : Heap) (locs : List Loc) (ls : Array Slot), Hs E s σ H locs → lv_has ls 6 [(0, .ref (ea E k0)), (1, .int v1), (2, .int v2), (3, .int v3)] → K14 k0 v1 v2 v3 σ = some r → W p l e (rmD 3) s m args below meth c H locs 0 0 (MQ below (QiM E r σ) args s 0 0 (eA E)) (F0 m 14 ls []))  (k0 : Nat) (v1 : Int32) (v2 : Int32) (v3 : Int32) (hk0 : kd k0 = 12) {σ : Mem} {H : Heap} {locs : List Loc} {ls : Array Slot} (hH : Hs E s σ H locs) (hl : lv_has ls 6 [(0, .ref (ea E k0)), (1, .int v1), (2, .int v2), (3, .int v3)]) (h : X12_nextJoin_b14 K14 k0 v1 v2 v3 σ = some r) : W p l e (rmD 3) s m args below meth c H locs 0 0 (MQ below (QiM E r σ) args s 0 0 (eA E)) (F0 m 14 ls []) := by
  obtain ⟨⟨hx, hb, hml, hown, hts⟩, hr, hlocks, hF, hAd⟩ := id C0
  unfold X12_nextJoin_b14 at h
  refine lv_iload_n hx hb dX12_nextJoin_14 rfl (lv_at hl 3 rfl) ?_
  refine lv_aload_n hx hb dX12_nextJoin_15 rfl (lv_at hl 0 rfl) ?_
  refine gf_X12_19 C0 hH hk0 dX12_nextJoin_16 ?_
  refine lv_iconst (v := 0) hx hb dX12_nextJoin_19 (by decide) ?_
  refine r_iald C0 hH (n := 43) (kf_12_4 hk0) (vin (by decide)) dX12_nextJoin_20 ?_
  refine lv_icmp_ge (tgt := 115) hx hb dX12_nextJoin_21 (by decide) (fun c1 => ?_) (fun c1 => ?_)
  · replace h := if_t h c1
    refine lv_iload_n hx hb dX12_nextJoin_115 rfl (lv_at hl 1 rfl) ?_
    exact r_iret C0 hH (Option.some.inj h) rfl dX12_nextJoin_116
  · replace h := if_f h c1
    refine lv_iload_n hx hb dX12_nextJoin_24 rfl (lv_at hl 3 rfl) ?_
    refine lv_iconst (v := 1) hx hb dX12_nextJoin_25 (by decide) ?_
    refine lv_iadd hx hb dX12_nextJoin_26 ?_
    obtain ⟨x2, ex2, h⟩ := letv_s h
    refine topi_of ex2 ?_
    refine lv_istore (lv' := [(4, .int x2), (0, .ref (ea E k0)), (1, .int v1), (2, .int v2), (3, .int v3)]) hx hb dX12_nextJoin_27 hl (by decide) rfl (fun ls hl => ?_)
    exact w_X12_nextJoin_l29 C0 K14 hK14 FU k0 v1 v2 v3 x2 hk0 _ _ _ _ hH (lv_sub hl [1, 2, 3, 4, 0] rfl) h
set_option maxRecDepth 100000 in
set_option maxHeartbeats 4000000 in
theorem w_X12_nextJoin_l14 {r : Int32} (C0 : Cx E p m c cX12_nextJoin 6 s args RX12 meth (some .int))  (n : Nat) : ∀ (k0 : Nat) (v1 : Int32) (v2 : Int32) (v3 : Int32) (hk0 : kd k0 = 12) (σ : Mem) (H : Heap) (locs : List Loc) (ls : Array Slot), Hs E s σ H locs → lv_has ls 6 [(0, .ref (ea E k0)), (1, .int v1), (2, .int v2), (3, .int v3)] → X12_nextJoin_l14 n k0 v1 v2 v3 σ = some r → W p l e (rmD 3) s m args below meth c H locs 0 0 (MQ below (QiM E r σ) args s 0 0 (eA E)) (F0 m 14 ls []) := by
  induction n with
  | zero =>
    intro k0 v1 v2 v3 hk0 σ H locs ls hH hl h
    cases h
  | succ n ih =>
    intro k0 v1 v2 v3 hk0 σ H locs ls hH hl h
    exact w_X12_nextJoin_b14 C0 (X12_nextJoin_l14 n)  ih k0 v1 v2 v3 hk0 hH hl h
set_option maxRecDepth 100000 in
set_option maxHeartbeats 4000000 in
theorem w_X12_nextJoin_b0 {r : Int32} (C0 : Cx E p m c cX12_nextJoin 6 s args RX12 meth (some .int))  (k0 : Nat) (hk0 : kd k0 = 12) {σ : Mem} {H : Heap} {locs : List Loc} {ls : Array Slot} (hH : Hs E s σ H locs) (hl : lv_has ls 6 [(0, .ref (ea E k0))]) (h : X12_nextJoin_b0 k0 σ = some r) : W p l e (rmD 3) s m args below meth c H locs 0 0 (MQ below (QiM E r σ) args s 0 0 (eA E)) (F0 m 0 ls []) := by
  obtain ⟨⟨hx, hb, hml, hown, hts⟩, hr, hlocks, hF, hAd⟩ := id C0
  unfold X12_nextJoin_b0 at h
  refine lv_ldc hx hb hown (hts _ qK_X12_112) dX12_nextJoin_0 ?_
  refine lv_istore_n (lv' := [(1, .int ((-1000000))), (0, .ref (ea E k0))]) hx hb dX12_nextJoin_2 rfl hl (by decide) rfl (fun ls hl => ?_)
  refine lv_aload_n hx hb dX12_nextJoin_3 rfl (lv_at hl 1 rfl) ?_
  refine gf_X12_19 C0 hH hk0 dX12_nextJoin_4 ?_
  refine lv_iconst (v := 1) hx hb dX12_nextJoin_7 (by decide) ?_
  refine r_iald C0 hH (n := 43) (kf_12_4 hk0) (vin (by decide)) dX12_nextJoin_8 ?_
  refine lv_iconst (v := 1) hx hb dX12_nextJoin_9 (by decide) ?_
  refine lv_iadd hx hb dX12_nextJoin_10 ?_
  obtain ⟨x1, ex1, h⟩ := letv_s h
  refine topi_of ex1 ?_
  refine lv_istore_n (lv' := [(2, .int x1), (1, .int ((-1000000))), (0, .ref (ea E k0))]) hx hb dX12_nextJoin_11 rfl hl (by decide) rfl (fun ls hl => ?_)
  refine lv_iconst (v := 0) hx hb dX12_nextJoin_12 (by decide) ?_
  refine lv_istore_n (lv' := [(3, .int 0), (2, .int x1), (1, .int ((-1000000))), (0, .ref (ea E k0))]) hx hb dX12_nextJoin_13 rfl hl (by decide) rfl (fun ls hl => ?_)
  exact w_X12_nextJoin_l14 C0  FU k0 (-1000000) x1 0 hk0 _ _ _ _ hH (lv_sub hl [3, 2, 1, 0] rfl) h
theorem c_X12_nextJoin {l : Launch} {E : EnvT} (hAd : Ad E) (k0 : Nat) (hk0 : kd k0 = 12) (σ : Mem) {r : Int32} (h : X12_nextJoin k0 σ = some r) : Met l yX12_nextJoin (wsM yX12_nextJoin cX12_nextJoin 6 (some .int)) (rmD 3) (PcM E [.ref (ea E k0)] σ) (QiM E r σ) 0 0 (eA E) :=
  Met.ofM (by decide) (Nat.le_of_ble_eq_true rfl) (fun p e s m below meth c ls C0 hH hl => w_X12_nextJoin_b0 C0 k0 hk0 hH hl h) hAd
set_option maxRecDepth 100000 in
set_option maxHeartbeats 4000000 in
theorem w_X12_layGroups_b49 {r : Int32} {σ' : Mem} (C0 : Cx E p m c cX12_layGroups 3 s args RX12 meth (some .int)) (K49 : Nat → Int32 → Int32 → Mem → Option (Int32 × Mem)) (hK49 : ∀ (k0 : Nat) (v1 : Int32) (v2 : Int32) (hk0 : kd k0 = 12) (σ : Mem) (H : Heap) (locs : List Loc) (ls : Array Slot), Hs E s σ H locs → lv_has ls 3 [(0, .ref (ea E k0)), (1, .int v1), (2, .int v2)] → K49 k0 v1 v2 σ = some (r, σ') → W p l e (rmD 4) s m args below meth c H locs 0 0 (MQ below (QiM E r σ') args s 0 0 (eA E)) (F0 m 49 ls []))  (k0 : Nat) (v1 : Int32) (v2 : Int32) (hk0 : kd k0 = 12) {σ : Mem} {H : Heap} {locs : List Loc} {ls : Array Slot} (hH : Hs E s σ H locs) (hl : lv_has ls 3 [(0, .ref (ea E k0)), (1, .int v1), (2, .int v2)]) (h : X12_layGroups_b49 K49 k0 v1 v2 σ = some (r, σ')) : W p l e (rmD 4) s m args below meth c H locs 0 0 (MQ below (QiM E r σ') args s 0 0 (eA E)) (F0 m 49 ls []) := by
  obtain ⟨⟨hx, hb, hml, hown, hts⟩, hr, hlocks, hF, hAd⟩ := id C0
  unfold X12_layGroups_b49 at h
  refine lv_iload_n hx hb dX12_layGroups_49 rfl (lv_at hl 2 rfl) ?_
  refine lv_ldc hx hb hown (hts _ qK_X12_112) dX12_layGroups_50 ?_
  refine lv_icmp_eq (tgt := 102) hx hb dX12_layGroups_52 (by decide) (fun c1 => ?_) (fun c1 => ?_)
  · replace h := if_t h c1
    refine lv_iload_n hx hb dX12_layGroups_102 rfl (lv_at hl 1 rfl) ?_
    exact r_iret C0 hH (pj1 h) (pj2 h) dX12_layGroups_103
  · replace h := if_f h c1
    refine lv_iload_n hx hb dX12_layGroups_55 rfl (lv_at hl 1 rfl) ?_
    refine lv_iconst (v := 1) hx hb dX12_layGroups_56 (by decide) ?_
    refine lv_icmp_le (tgt := 102) hx hb dX12_layGroups_57 (by decide) (fun c2 => ?_) (fun c2 => ?_)
    · replace h := if_t h c2
      refine lv_iload_n hx hb dX12_layGroups_102 rfl (lv_at hl 1 rfl) ?_
      exact r_iret C0 hH (pj1 h) (pj2 h) dX12_layGroups_103
    · replace h := if_f h c2
      refine lv_aload_n hx hb dX12_layGroups_60 rfl (lv_at hl 0 rfl) ?_
      refine gf_X12_34 C0 hH hk0 dX12_layGroups_61 ?_
      refine lv_iload_n hx hb dX12_layGroups_64 rfl (lv_at hl 2 rfl) ?_
      refine lv_bipush (v := 10) hx hb dX12_layGroups_65 (by decide) ?_
      refine lv_idiv hx hb dX12_layGroups_67 (by decide) ?_
      refine lv_dup2_11 hx hb dX12_layGroups_68 rfl rfl ?_
      obtain ⟨b3, h⟩ := gdx_s h
      refine r_iald C0 hH (n := 10) (kf_12_18 hk0) b3 dX12_layGroups_69 ?_
      refine lv_aload_n hx hb dX12_layGroups_70 rfl (lv_at hl 0 rfl) ?_
      refine gf_X12_34 C0 hH hk0 dX12_layGroups_71 ?_
      refine lv_iload_n hx hb dX12_layGroups_74 rfl (lv_at hl 2 rfl) ?_
      refine lv_bipush (v := 10) hx hb dX12_layGroups_75 (by decide) ?_
      refine lv_irem hx hb dX12_layGroups_77 (by decide) ?_
      obtain ⟨b4, h⟩ := gdx_s h
      refine r_iald C0 hH (n := 10) (kf_12_18 hk0) b4 dX12_layGroups_78 ?_
      refine lv_ior hx hb dX12_layGroups_79 ?_
      obtain ⟨b5, h⟩ := gdx_s h
      refine r_iast C0 hH (n := 10) (kf_12_18 hk0) b5 dX12_layGroups_80 (fun H locs hH => ?_)
      refine lv_aload_n hx hb dX12_layGroups_81 rfl (lv_at hl 0 rfl) ?_
      refine gf_X12_34 C0 hH hk0 dX12_layGroups_82 ?_
      refine lv_iload_n hx hb dX12_layGroups_85 rfl (lv_at hl 2 rfl) ?_
      refine lv_bipush (v := 10) hx hb dX12_layGroups_86 (by decide) ?_
      refine lv_irem hx hb dX12_layGroups_88 (by decide) ?_
      refine lv_iconst (v := 0) hx hb dX12_layGroups_89 (by decide) ?_
      obtain ⟨σ6, eσ6, h⟩ := letv_s h
      replace hH := hs_of eσ6 hH
      obtain ⟨b7, h⟩ := gdx_s h
      refine r_iast C0 hH (n := 10) (kf_12_18 hk0) b7 dX12_layGroups_90 (fun H locs hH => ?_)
      refine lv_iinc (v := v1 + (-1)) (lv' := [(1, .int (v1 + (-1))), (0, .ref (ea E k0)), (2, .int v2)]) hx hb dX12_layGroups_91 hl (k := 1) rfl rfl (by decide) rfl (fun ls hl => ?_)
      refine lv_aload_n hx hb dX12_layGroups_94 rfl (lv_at hl 1 rfl) ?_
      obtain ⟨r8, qr8, h⟩ := ob_s h
      refine go_i hH (va_run_V (As := []) (rest := []) C0 hH lk_X12_211 (c_X12_nextJoin hAd k0 hk0 (wr σ6 (k0 + 9) (nc (irm v2 10)) 0) qr8) (by decide) (ci := 12) hk0 (by decide) (cob_12 _ _ _) rfl rfl hl.1 rfl (Nat.le_of_ble_eq_true rfl) dX12_layGroups_95) (fun H locs hH => ?_)
      refine lv_istore_n (lv' := [(2, .int r8), (1, .int (v1 + (-1))), (0, .ref (ea E k0))]) hx hb dX12_layGroups_98 rfl hl (by decide) rfl (fun ls hl => ?_)
      refine lv_goto (tgt := 49) hx hb dX12_layGroups_99 (by decide) ?_
      exact hK49 k0 (v1 + (-1)) r8 hk0 _ _ _ _ hH (lv_sub hl [2, 1, 0] rfl) h
set_option maxRecDepth 100000 in
set_option maxHeartbeats 4000000 in
theorem w_X12_layGroups_l49 {r : Int32} {σ' : Mem} (C0 : Cx E p m c cX12_layGroups 3 s args RX12 meth (some .int))  (n : Nat) : ∀ (k0 : Nat) (v1 : Int32) (v2 : Int32) (hk0 : kd k0 = 12) (σ : Mem) (H : Heap) (locs : List Loc) (ls : Array Slot), Hs E s σ H locs → lv_has ls 3 [(0, .ref (ea E k0)), (1, .int v1), (2, .int v2)] → X12_layGroups_l49 n k0 v1 v2 σ = some (r, σ') → W p l e (rmD 4) s m args below meth c H locs 0 0 (MQ below (QiM E r σ') args s 0 0 (eA E)) (F0 m 49 ls []) := by
  induction n with
  | zero =>
    intro k0 v1 v2 hk0 σ H locs ls hH hl h
    cases h
  | succ n ih =>
    intro k0 v1 v2 hk0 σ H locs ls hH hl h
    exact w_X12_layGroups_b49 C0 (X12_layGroups_l49 n)  ih k0 v1 v2 hk0 hH hl h
set_option maxRecDepth 100000 in
set_option maxHeartbeats 4000000 in
theorem w_X12_layGroups_b30 {r : Int32} {σ' : Mem} (C0 : Cx E p m c cX12_layGroups 3 s args RX12 meth (some .int)) (K2 : Nat → Int32 → Mem → Option (Int32 × Mem)) (hK2 : ∀ (k0 : Nat) (v1 : Int32) (hk0 : kd k0 = 12) (σ : Mem) (H : Heap) (locs : List Loc) (ls : Array Slot), Hs E s σ H locs → lv_has ls 3 [(0, .ref (ea E k0)), (1, .int v1)] → K2 k0 v1 σ = some (r, σ') → W p l e (rmD 4) s m args below meth c H locs 0 0 (MQ below (QiM E r σ') args s 0 0 (eA E)) (F0 m 2 ls []))  (k0 : Nat) (v1 : Int32) (s0 : Nat) (s1 : Int32) (s2 : Int32) (hk0 : kd k0 = 12) (hs0 : kd s0 = 110) {σ : Mem} {H : Heap} {locs : List Loc} {ls : Array Slot} (hH : Hs E s σ H locs) (hl : lv_has ls 3 [(0, .ref (ea E k0)), (1, .int v1)]) (h : X12_layGroups_b30 K2 k0 v1 s0 s1 s2 σ = some (r, σ')) : W p l e (rmD 4) s m args below meth c H locs 0 0 (MQ below (QiM E r σ') args s 0 0 (eA E)) (F0 m 30 ls [.int s2, .int s1, .ref (ea E s0)]) := by
  obtain ⟨⟨hx, hb, hml, hown, hts⟩, hr, hlocks, hF, hAd⟩ := id C0
  unfold X12_layGroups_b30 at h
  obtain ⟨b1, h⟩ := gdx_s h
  refine r_iast C0 hH (n := 10) hs0 b1 dX12_layGroups_30 (fun H locs hH => ?_)
  refine lv_iinc (v := v1 + 1) (lv' := [(1, .int (v1 + 1)), (0, .ref (ea E k0))]) hx hb dX12_layGroups_31 hl (k := 1) rfl rfl (by decide) rfl (fun ls hl => ?_)
  refine lv_goto (tgt := 2) hx hb dX12_layGroups_34 (by decide) ?_
  exact hK2 k0 (v1 + 1) hk0 _ _ _ _ hH (lv_sub hl [1, 0] rfl) h
set_option maxRecDepth 100000 in
set_option maxHeartbeats 4000000 in
theorem w_X12_layGroups_b2 {r : Int32} {σ' : Mem} (C0 : Cx E p m c cX12_layGroups 3 s args RX12 meth (some .int)) (K2 : Nat → Int32 → Mem → Option (Int32 × Mem)) (hK2 : ∀ (k0 : Nat) (v1 : Int32) (hk0 : kd k0 = 12) (σ : Mem) (H : Heap) (locs : List Loc) (ls : Array Slot), Hs E s σ H locs → lv_has ls 3 [(0, .ref (ea E k0)), (1, .int v1)] → K2 k0 v1 σ = some (r, σ') → W p l e (rmD 4) s m args below meth c H locs 0 0 (MQ below (QiM E r σ') args s 0 0 (eA E)) (F0 m 2 ls []))  (k0 : Nat) (v1 : Int32) (hk0 : kd k0 = 12) {σ : Mem} {H : Heap} {locs : List Loc} {ls : Array Slot} (hH : Hs E s σ H locs) (hl : lv_has ls 3 [(0, .ref (ea E k0)), (1, .int v1)]) (h : X12_layGroups_b2 K2 k0 v1 σ = some (r, σ')) : W p l e (rmD 4) s m args below meth c H locs 0 0 (MQ below (QiM E r σ') args s 0 0 (eA E)) (F0 m 2 ls []) := by
  obtain ⟨⟨hx, hb, hml, hown, hts⟩, hr, hlocks, hF, hAd⟩ := id C0
  unfold X12_layGroups_b2 at h
  refine lv_iload_n hx hb dX12_layGroups_2 rfl (lv_at hl 1 rfl) ?_
  refine lv_bipush (v := 10) hx hb dX12_layGroups_3 (by decide) ?_
  refine lv_icmp_ge (tgt := 37) hx hb dX12_layGroups_5 (by decide) (fun c1 => ?_) (fun c1 => ?_)
  · replace h := if_t h c1
    refine lv_aload_n hx hb dX12_layGroups_37 rfl (lv_at hl 0 rfl) ?_
    refine gf_X12_19 C0 hH hk0 dX12_layGroups_38 ?_
    refine lv_iconst (v := 0) hx hb dX12_layGroups_41 (by decide) ?_
    refine r_iald C0 hH (n := 43) (kf_12_4 hk0) (vin (by decide)) dX12_layGroups_42 ?_
    obtain ⟨x2, ex2, h⟩ := letv_s h
    refine topi_of ex2 ?_
    refine lv_istore_n (lv' := [(1, .int x2), (0, .ref (ea E k0))]) hx hb dX12_layGroups_43 rfl hl (by decide) rfl (fun ls hl => ?_)
    refine lv_aload_n hx hb dX12_layGroups_44 rfl (lv_at hl 1 rfl) ?_
    obtain ⟨r3, qr3, h⟩ := ob_s h
    refine go_i hH (va_run_V (As := []) (rest := []) C0 hH lk_X12_211 (c_X12_nextJoin hAd k0 hk0 σ qr3) (by decide) (ci := 12) hk0 (by decide) (cob_12 _ _ _) rfl rfl hl.1 rfl (Nat.le_of_ble_eq_true rfl) dX12_layGroups_45) (fun H locs hH => ?_)
    refine lv_istore_n (lv' := [(2, .int r3), (1, .int x2), (0, .ref (ea E k0))]) hx hb dX12_layGroups_48 rfl hl (by decide) rfl (fun ls hl => ?_)
    exact w_X12_layGroups_l49 C0  FU k0 x2 r3 hk0 _ _ _ _ hH (lv_sub hl [2, 1, 0] rfl) h
  · replace h := if_f h c1
    refine lv_aload_n hx hb dX12_layGroups_8 rfl (lv_at hl 0 rfl) ?_
    refine gf_X12_34 C0 hH hk0 dX12_layGroups_9 ?_
    refine lv_iload_n hx hb dX12_layGroups_12 rfl (lv_at hl 1 rfl) ?_
    refine lv_iload_n hx hb dX12_layGroups_13 rfl (lv_at hl 1 rfl) ?_
    refine lv_aload_n hx hb dX12_layGroups_14 rfl (lv_at hl 0 rfl) ?_
    refine gf_X12_19 C0 hH hk0 dX12_layGroups_15 ?_
    refine lv_iconst (v := 0) hx hb dX12_layGroups_18 (by decide) ?_
    refine r_iald C0 hH (n := 43) (kf_12_4 hk0) (vin (by decide)) dX12_layGroups_19 ?_
    refine lv_icmp_ge (tgt := 29) hx hb dX12_layGroups_20 (by decide) (fun c4 => ?_) (fun c4 => ?_)
    · replace h := if_t h c4
      refine lv_iconst (v := 0) hx hb dX12_layGroups_29 (by decide) ?_
      exact w_X12_layGroups_b30 C0 K2 hK2 k0 v1 (k0 + 9) v1 0 hk0 (kf_12_18 hk0) hH (lv_sub hl [0, 1] rfl) h
    · replace h := if_f h c4
      refine lv_iconst (v := 1) hx hb dX12_layGroups_23 (by decide) ?_
      refine lv_iload_n hx hb dX12_layGroups_24 rfl (lv_at hl 1 rfl) ?_
      refine lv_ishl hx hb dX12_layGroups_25 ?_
      refine lv_goto (tgt := 30) hx hb dX12_layGroups_26 (by decide) ?_
      exact w_X12_layGroups_b30 C0 K2 hK2 k0 v1 (k0 + 9) v1 (shl 1 v1) hk0 (kf_12_18 hk0) hH (lv_sub hl [0, 1] rfl) h
set_option maxRecDepth 100000 in
set_option maxHeartbeats 4000000 in
theorem w_X12_layGroups_l2 {r : Int32} {σ' : Mem} (C0 : Cx E p m c cX12_layGroups 3 s args RX12 meth (some .int))  (n : Nat) : ∀ (k0 : Nat) (v1 : Int32) (hk0 : kd k0 = 12) (σ : Mem) (H : Heap) (locs : List Loc) (ls : Array Slot), Hs E s σ H locs → lv_has ls 3 [(0, .ref (ea E k0)), (1, .int v1)] → X12_layGroups_l2 n k0 v1 σ = some (r, σ') → W p l e (rmD 4) s m args below meth c H locs 0 0 (MQ below (QiM E r σ') args s 0 0 (eA E)) (F0 m 2 ls []) := by
  induction n with
  | zero =>
    intro k0 v1 hk0 σ H locs ls hH hl h
    cases h
  | succ n ih =>
    intro k0 v1 hk0 σ H locs ls hH hl h
    exact w_X12_layGroups_b2 C0 (X12_layGroups_l2 n)  ih k0 v1 hk0 hH hl h
set_option maxRecDepth 100000 in
set_option maxHeartbeats 4000000 in
theorem w_X12_layGroups_b0 {r : Int32} {σ' : Mem} (C0 : Cx E p m c cX12_layGroups 3 s args RX12 meth (some .int))  (k0 : Nat) (hk0 : kd k0 = 12) {σ : Mem} {H : Heap} {locs : List Loc} {ls : Array Slot} (hH : Hs E s σ H locs) (hl : lv_has ls 3 [(0, .ref (ea E k0))]) (h : X12_layGroups_b0 k0 σ = some (r, σ')) : W p l e (rmD 4) s m args below meth c H locs 0 0 (MQ below (QiM E r σ') args s 0 0 (eA E)) (F0 m 0 ls []) := by
  obtain ⟨⟨hx, hb, hml, hown, hts⟩, hr, hlocks, hF, hAd⟩ := id C0
  unfold X12_layGroups_b0 at h
  refine lv_iconst (v := 0) hx hb dX12_layGroups_0 (by decide) ?_
  refine lv_istore_n (lv' := [(1, .int 0), (0, .ref (ea E k0))]) hx hb dX12_layGroups_1 rfl hl (by decide) rfl (fun ls hl => ?_)
  exact w_X12_layGroups_l2 C0  FU k0 0 hk0 _ _ _ _ hH (lv_sub hl [1, 0] rfl) h
theorem c_X12_layGroups {l : Launch} {E : EnvT} (hAd : Ad E) (k0 : Nat) (hk0 : kd k0 = 12) (σ : Mem) {r : Int32} {σ' : Mem} (h : X12_layGroups k0 σ = some (r, σ')) : Met l yX12_layGroups (wsM yX12_layGroups cX12_layGroups 3 (some .int)) (rmD 4) (PcM E [.ref (ea E k0)] σ) (QiM E r σ') 0 0 (eA E) :=
  Met.ofM (by decide) (Nat.le_of_ble_eq_true rfl) (fun p e s m below meth c ls C0 hH hl => w_X12_layGroups_b0 C0 k0 hk0 hH hl h) hAd
set_option maxRecDepth 100000 in
set_option maxHeartbeats 4000000 in
theorem w_X12_groupOf_b32 {r : Int32} (C0 : Cx E p m c cX12_groupOf 4 s args RX12 meth (some .int)) (K4 : Nat → Int32 → Int32 → Int32 → Mem → Option Int32) (hK4 : ∀ (k0 : Nat) (v1 : Int32) (v2 : Int32) (v3 : Int32) (hk0 : kd k0 = 12) (σ : Mem) (H : Heap) (locs : List Loc) (ls : Array Slot), Hs E s σ H locs → lv_has ls 4 [(0, .ref (ea E k0)), (1, .int v1), (2, .int v2), (3, .int v3)] → K4 k0 v1 v2 v3 σ = some r → W p l e (rmD 1) s m args below meth c H locs 0 0 (MQ below (QiM E r σ) args s 0 0 (eA E)) (F0 m 4 ls []))  (k0 : Nat) (v1 : Int32) (v3 : Int32) (s0 : Int32) (hk0 : kd k0 = 12) {σ : Mem} {H : Heap} {locs : List Loc} {ls : Array Slot} (hH : Hs E s σ H locs) (hl : lv_has ls 4 [(0, .ref (ea E k0)), (1, .int v1), (3, .int v3)]) (h : X12_groupOf_b32 K4 k0 v1 v3 s0 σ = some r) : W p l e (rmD 1) s m args below meth c H locs 0 0 (MQ below (QiM E r σ) args s 0 0 (eA E)) (F0 m 32 ls [.int s0]) := by
  obtain ⟨⟨hx, hb, hml, hown, hts⟩, hr, hlocks, hF, hAd⟩ := id C0
  unfold X12_groupOf_b32 at h
  refine lv_istore_n (lv' := [(2, .int s0), (0, .ref (ea E k0)), (1, .int v1), (3, .int v3)]) hx hb dX12_groupOf_32 rfl hl (by decide) rfl (fun ls hl => ?_)
  refine lv_iinc (v := v3 + 1) (lv' := [(3, .int (v3 + 1)), (2, .int s0), (0, .ref (ea E k0)), (1, .int v1)]) hx hb dX12_groupOf_33 hl (k := 3) rfl rfl (by decide) rfl (fun ls hl => ?_)
  refine lv_goto (tgt := 4) hx hb dX12_groupOf_36 (by decide) ?_
  exact hK4 k0 v1 s0 (v3 + 1) hk0 _ _ _ _ hH (lv_sub hl [2, 3, 1, 0] rfl) h
set_option maxRecDepth 100000 in
set_option maxHeartbeats 4000000 in
theorem w_X12_groupOf_b4 {r : Int32} (C0 : Cx E p m c cX12_groupOf 4 s args RX12 meth (some .int)) (K4 : Nat → Int32 → Int32 → Int32 → Mem → Option Int32) (hK4 : ∀ (k0 : Nat) (v1 : Int32) (v2 : Int32) (v3 : Int32) (hk0 : kd k0 = 12) (σ : Mem) (H : Heap) (locs : List Loc) (ls : Array Slot), Hs E s σ H locs → lv_has ls 4 [(0, .ref (ea E k0)), (1, .int v1), (2, .int v2), (3, .int v3)] → K4 k0 v1 v2 v3 σ = some r → W p l e (rmD 1) s m args below meth c H locs 0 0 (MQ below (QiM E r σ) args s 0 0 (eA E)) (F0 m 4 ls []))  (k0 : Nat) (v1 : Int32) (v2 : Int32) (v3 : Int32) (hk0 : kd k0 = 12) {σ : Mem} {H : Heap} {locs : List Loc} {ls : Array Slot} (hH : Hs E s σ H locs) (hl : lv_has ls 4 [(0, .ref (ea E k0)), (1, .int v1), (2, .int v2), (3, .int v3)]) (h : X12_groupOf_b4 K4 k0 v1 v2 v3 σ = some r) : W p l e (rmD 1) s m args below meth c H locs 0 0 (MQ below (QiM E r σ) args s 0 0 (eA E)) (F0 m 4 ls []) := by
  obtain ⟨⟨hx, hb, hml, hown, hts⟩, hr, hlocks, hF, hAd⟩ := id C0
  unfold X12_groupOf_b4 at h
  refine lv_iload_n hx hb dX12_groupOf_4 rfl (lv_at hl 3 rfl) ?_
  refine lv_aload_n hx hb dX12_groupOf_5 rfl (lv_at hl 0 rfl) ?_
  refine gf_X12_19 C0 hH hk0 dX12_groupOf_6 ?_
  refine lv_iconst (v := 0) hx hb dX12_groupOf_9 (by decide) ?_
  refine r_iald C0 hH (n := 43) (kf_12_4 hk0) (vin (by decide)) dX12_groupOf_10 ?_
  refine lv_icmp_ge (tgt := 39) hx hb dX12_groupOf_11 (by decide) (fun c1 => ?_) (fun c1 => ?_)
  · replace h := if_t h c1
    refine lv_iload_n hx hb dX12_groupOf_39 rfl (lv_at hl 2 rfl) ?_
    exact r_iret C0 hH (Option.some.inj h) rfl dX12_groupOf_40
  · replace h := if_f h c1
    refine lv_aload_n hx hb dX12_groupOf_14 rfl (lv_at hl 0 rfl) ?_
    refine gf_X12_34 C0 hH hk0 dX12_groupOf_15 ?_
    refine lv_iload_n hx hb dX12_groupOf_18 rfl (lv_at hl 3 rfl) ?_
    obtain ⟨b2, h⟩ := gdx_s h
    refine r_iald C0 hH (n := 10) (kf_12_18 hk0) b2 dX12_groupOf_19 ?_
    refine lv_iload_n hx hb dX12_groupOf_20 rfl (lv_at hl 1 rfl) ?_
    refine go_i hH (va_run_S (As := [.int (σ (k0 + 9) (nc v3)), .int v1]) (rest := []) C0 hH lk_X12_90 (c_X12_has hAd (σ (k0 + 9) (nc v3)) v1  σ rfl) (by decide) rfl hl.1 rfl (Nat.le_of_ble_eq_true rfl) dX12_groupOf_21) (fun H locs hH => ?_)
    refine lv_if_eq (tgt := 31) hx hb dX12_groupOf_24 (by decide) (fun c3 => ?_) (fun c3 => ?_)
    · replace h := if_t h c3
      refine lv_iload_n hx hb dX12_groupOf_31 rfl (lv_at hl 2 rfl) ?_
      exact w_X12_groupOf_b32 C0 K4 hK4 k0 v1 v3 v2 hk0 hH (lv_sub hl [0, 1, 3] rfl) h
    · replace h := if_f h c3
      refine lv_iload_n hx hb dX12_groupOf_27 rfl (lv_at hl 3 rfl) ?_
      refine lv_goto (tgt := 32) hx hb dX12_groupOf_28 (by decide) ?_
      exact w_X12_groupOf_b32 C0 K4 hK4 k0 v1 v3 v3 hk0 hH (lv_sub hl [0, 1, 3] rfl) h
set_option maxRecDepth 100000 in
set_option maxHeartbeats 4000000 in
theorem w_X12_groupOf_l4 {r : Int32} (C0 : Cx E p m c cX12_groupOf 4 s args RX12 meth (some .int))  (n : Nat) : ∀ (k0 : Nat) (v1 : Int32) (v2 : Int32) (v3 : Int32) (hk0 : kd k0 = 12) (σ : Mem) (H : Heap) (locs : List Loc) (ls : Array Slot), Hs E s σ H locs → lv_has ls 4 [(0, .ref (ea E k0)), (1, .int v1), (2, .int v2), (3, .int v3)] → X12_groupOf_l4 n k0 v1 v2 v3 σ = some r → W p l e (rmD 1) s m args below meth c H locs 0 0 (MQ below (QiM E r σ) args s 0 0 (eA E)) (F0 m 4 ls []) := by
  induction n with
  | zero =>
    intro k0 v1 v2 v3 hk0 σ H locs ls hH hl h
    cases h
  | succ n ih =>
    intro k0 v1 v2 v3 hk0 σ H locs ls hH hl h
    exact w_X12_groupOf_b4 C0 (X12_groupOf_l4 n)  ih k0 v1 v2 v3 hk0 hH hl h
set_option maxRecDepth 100000 in
set_option maxHeartbeats 4000000 in
theorem w_X12_groupOf_b0 {r : Int32} (C0 : Cx E p m c cX12_groupOf 4 s args RX12 meth (some .int))  (k0 : Nat) (v1 : Int32) (hk0 : kd k0 = 12) {σ : Mem} {H : Heap} {locs : List Loc} {ls : Array Slot} (hH : Hs E s σ H locs) (hl : lv_has ls 4 [(0, .ref (ea E k0)), (1, .int v1)]) (h : X12_groupOf_b0 k0 v1 σ = some r) : W p l e (rmD 1) s m args below meth c H locs 0 0 (MQ below (QiM E r σ) args s 0 0 (eA E)) (F0 m 0 ls []) := by
  obtain ⟨⟨hx, hb, hml, hown, hts⟩, hr, hlocks, hF, hAd⟩ := id C0
  unfold X12_groupOf_b0 at h
  refine lv_iconst (v := 0) hx hb dX12_groupOf_0 (by decide) ?_
  refine lv_istore_n (lv' := [(2, .int 0), (0, .ref (ea E k0)), (1, .int v1)]) hx hb dX12_groupOf_1 rfl hl (by decide) rfl (fun ls hl => ?_)
  refine lv_iconst (v := 0) hx hb dX12_groupOf_2 (by decide) ?_
  refine lv_istore_n (lv' := [(3, .int 0), (2, .int 0), (0, .ref (ea E k0)), (1, .int v1)]) hx hb dX12_groupOf_3 rfl hl (by decide) rfl (fun ls hl => ?_)
  exact w_X12_groupOf_l4 C0  FU k0 v1 0 0 hk0 _ _ _ _ hH (lv_sub hl [2, 3, 1, 0] rfl) h
theorem c_X12_groupOf {l : Launch} {E : EnvT} (hAd : Ad E) (k0 : Nat) (v1 : Int32) (hk0 : kd k0 = 12) (σ : Mem) {r : Int32} (h : X12_groupOf k0 v1 σ = some r) : Met l yX12_groupOf (wsM yX12_groupOf cX12_groupOf 4 (some .int)) (rmD 1) (PcM E [.ref (ea E k0), .int v1] σ) (QiM E r σ) 0 0 (eA E) :=
  Met.ofM (by decide) (Nat.le_of_ble_eq_true rfl) (fun p e s m below meth c ls C0 hH hl => w_X12_groupOf_b0 C0 k0 v1 hk0 hH hl h) hAd
set_option maxRecDepth 100000 in
set_option maxHeartbeats 4000000 in
theorem w_X12_layNear_b75 {σ' : Mem} (C0 : Cx E p m c cX12_layNear 5 s args RX12 meth (none)) (K2 : Nat → Nat → Int32 → Int32 → Mem → Option Mem) (hK2 : ∀ (k0 : Nat) (k1 : Nat) (v2 : Int32) (v3 : Int32) (hk0 : kd k0 = 12) (hk1 : kd k1 = 143) (σ : Mem) (H : Heap) (locs : List Loc) (ls : Array Slot), Hs E s σ H locs → lv_has ls 5 [(0, .ref (ea E k0)), (1, .ref (ea E k1)), (2, .int v2), (3, .int v3)] → K2 k0 k1 v2 v3 σ = some σ' → W p l e (rmD 2) s m args below meth c H locs 0 0 (MQ below (QvM E σ') args s 0 0 (eA E)) (F0 m 2 ls []))  (k0 : Nat) (k1 : Nat) (v2 : Int32) (v3 : Int32) (hk0 : kd k0 = 12) (hk1 : kd k1 = 143) {σ : Mem} {H : Heap} {locs : List Loc} {ls : Array Slot} (hH : Hs E s σ H locs) (hl : lv_has ls 5 [(0, .ref (ea E k0)), (1, .ref (ea E k1)), (2, .int v2), (3, .int v3)]) (h : X12_layNear_b75 K2 k0 k1 v2 v3 σ = some σ') : W p l e (rmD 2) s m args below meth c H locs 0 0 (MQ below (QvM E σ') args s 0 0 (eA E)) (F0 m 75 ls []) := by
  obtain ⟨⟨hx, hb, hml, hown, hts⟩, hr, hlocks, hF, hAd⟩ := id C0
  unfold X12_layNear_b75 at h
  refine lv_iinc (v := v3 + 1) (lv' := [(3, .int (v3 + 1)), (0, .ref (ea E k0)), (1, .ref (ea E k1)), (2, .int v2)]) hx hb dX12_layNear_75 hl (k := 3) rfl rfl (by decide) rfl (fun ls hl => ?_)
  refine lv_goto (tgt := 2) hx hb dX12_layNear_78 (by decide) ?_
  exact hK2 k0 k1 v2 (v3 + 1) hk0 hk1 _ _ _ _ hH (lv_sub hl [1, 2, 3, 0] rfl) h
set_option maxRecDepth 100000 in
set_option maxHeartbeats 4000000 in
theorem w_X12_layNear_b67 {σ' : Mem} (C0 : Cx E p m c cX12_layNear 5 s args RX12 meth (none)) (K2 : Nat → Nat → Int32 → Int32 → Mem → Option Mem) (K20 : Nat → Nat → Int32 → Int32 → Int32 → Mem → Option Mem) (hK2 : ∀ (k0 : Nat) (k1 : Nat) (v2 : Int32) (v3 : Int32) (hk0 : kd k0 = 12) (hk1 : kd k1 = 143) (σ : Mem) (H : Heap) (locs : List Loc) (ls : Array Slot), Hs E s σ H locs → lv_has ls 5 [(0, .ref (ea E k0)), (1, .ref (ea E k1)), (2, .int v2), (3, .int v3)] → K2 k0 k1 v2 v3 σ = some σ' → W p l e (rmD 2) s m args below meth c H locs 0 0 (MQ below (QvM E σ') args s 0 0 (eA E)) (F0 m 2 ls [])) (hK20 : ∀ (k0 : Nat) (k1 : Nat) (v2 : Int32) (v3 : Int32) (v4 : Int32) (hk0 : kd k0 = 12) (hk1 : kd k1 = 143) (σ : Mem) (H : Heap) (locs : List Loc) (ls : Array Slot), Hs E s σ H locs → lv_has ls 5 [(0, .ref (ea E k0)), (1, .ref (ea E k1)), (2, .int v2), (3, .int v3), (4, .int v4)] → K20 k0 k1 v2 v3 v4 σ = some σ' → W p l e (rmD 2) s m args below meth c H locs 0 0 (MQ below (QvM E σ') args s 0 0 (eA E)) (F0 m 20 ls []))  (k0 : Nat) (k1 : Nat) (v2 : Int32) (v3 : Int32) (v4 : Int32) (s0 : Nat) (s1 : Int32) (s2 : Int32) (s3 : Int32) (hk0 : kd k0 = 12) (hk1 : kd k1 = 143) (hs0 : kd s0 = 110) {σ : Mem} {H : Heap} {locs : List Loc} {ls : Array Slot} (hH : Hs E s σ H locs) (hl : lv_has ls 5 [(0, .ref (ea E k0)), (1, .ref (ea E k1)), (2, .int v2), (3, .int v3), (4, .int v4)]) (h : X12_layNear_b67 K2 K20 k0 k1 v2 v3 v4 s0 s1 s2 s3 σ = some σ') : W p l e (rmD 2) s m args below meth c H locs 0 0 (MQ below (QvM E σ') args s 0 0 (eA E)) (F0 m 67 ls [.int s3, .int s2, .int s1, .ref (ea E s0)]) := by
  obtain ⟨⟨hx, hb, hml, hown, hts⟩, hr, hlocks, hF, hAd⟩ := id C0
  unfold X12_layNear_b67 at h
  refine lv_ior hx hb dX12_layNear_67 ?_
  obtain ⟨b1, h⟩ := gdx_s h
  refine r_iast C0 hH (n := 10) hs0 b1 dX12_layNear_68 (fun H locs hH => ?_)
  refine lv_iinc (v := v4 + 1) (lv' := [(4, .int (v4 + 1)), (0, .ref (ea E k0)), (1, .ref (ea E k1)), (2, .int v2), (3, .int v3)]) hx hb dX12_layNear_69 hl (k := 4) rfl rfl (by decide) rfl (fun ls hl => ?_)
  refine lv_goto (tgt := 20) hx hb dX12_layNear_72 (by decide) ?_
  exact hK20 k0 k1 v2 v3 (v4 + 1) hk0 hk1 _ _ _ _ hH (lv_sub hl [1, 2, 3, 4, 0] rfl) h
set_option maxRecDepth 100000 in
set_option maxHeartbeats 4000000 in
theorem w_X12_layNear_b66 {σ' : Mem} (C0 : Cx E p m c cX12_layNear 5 s args RX12 meth (none)) (K2 : Nat → Nat → Int32 → Int32 → Mem → Option Mem) (K20 : Nat → Nat → Int32 → Int32 → Int32 → Mem → Option Mem) (hK2 : ∀ (k0 : Nat) (k1 : Nat) (v2 : Int32) (v3 : Int32) (hk0 : kd k0 = 12) (hk1 : kd k1 = 143) (σ : Mem) (H : Heap) (locs : List Loc) (ls : Array Slot), Hs E s σ H locs → lv_has ls 5 [(0, .ref (ea E k0)), (1, .ref (ea E k1)), (2, .int v2), (3, .int v3)] → K2 k0 k1 v2 v3 σ = some σ' → W p l e (rmD 2) s m args below meth c H locs 0 0 (MQ below (QvM E σ') args s 0 0 (eA E)) (F0 m 2 ls [])) (hK20 : ∀ (k0 : Nat) (k1 : Nat) (v2 : Int32) (v3 : Int32) (v4 : Int32) (hk0 : kd k0 = 12) (hk1 : kd k1 = 143) (σ : Mem) (H : Heap) (locs : List Loc) (ls : Array Slot), Hs E s σ H locs → lv_has ls 5 [(0, .ref (ea E k0)), (1, .ref (ea E k1)), (2, .int v2), (3, .int v3), (4, .int v4)] → K20 k0 k1 v2 v3 v4 σ = some σ' → W p l e (rmD 2) s m args below meth c H locs 0 0 (MQ below (QvM E σ') args s 0 0 (eA E)) (F0 m 20 ls []))  (k0 : Nat) (k1 : Nat) (v2 : Int32) (v3 : Int32) (v4 : Int32) (s0 : Nat) (s1 : Int32) (s2 : Int32) (hk0 : kd k0 = 12) (hk1 : kd k1 = 143) (hs0 : kd s0 = 110) {σ : Mem} {H : Heap} {locs : List Loc} {ls : Array Slot} (hH : Hs E s σ H locs) (hl : lv_has ls 5 [(0, .ref (ea E k0)), (1, .ref (ea E k1)), (2, .int v2), (3, .int v3), (4, .int v4)]) (h : X12_layNear_b66 K2 K20 k0 k1 v2 v3 v4 s0 s1 s2 σ = some σ') : W p l e (rmD 2) s m args below meth c H locs 0 0 (MQ below (QvM E σ') args s 0 0 (eA E)) (F0 m 66 ls [.int s2, .int s1, .ref (ea E s0)]) := by
  obtain ⟨⟨hx, hb, hml, hown, hts⟩, hr, hlocks, hF, hAd⟩ := id C0
  unfold X12_layNear_b66 at h
  refine lv_iconst (v := 0) hx hb dX12_layNear_66 (by decide) ?_
  exact w_X12_layNear_b67 C0 K2 K20 hK2 hK20 k0 k1 v2 v3 v4 s0 s1 s2 0 hk0 hk1 hs0 hH (lv_sub hl [0, 1, 2, 3, 4] rfl) h
set_option maxRecDepth 100000 in
set_option maxHeartbeats 4000000 in
theorem w_X12_layNear_b20 {σ' : Mem} (C0 : Cx E p m c cX12_layNear 5 s args RX12 meth (none)) (K2 : Nat → Nat → Int32 → Int32 → Mem → Option Mem) (K20 : Nat → Nat → Int32 → Int32 → Int32 → Mem → Option Mem) (hK2 : ∀ (k0 : Nat) (k1 : Nat) (v2 : Int32) (v3 : Int32) (hk0 : kd k0 = 12) (hk1 : kd k1 = 143) (σ : Mem) (H : Heap) (locs : List Loc) (ls : Array Slot), Hs E s σ H locs → lv_has ls 5 [(0, .ref (ea E k0)), (1, .ref (ea E k1)), (2, .int v2), (3, .int v3)] → K2 k0 k1 v2 v3 σ = some σ' → W p l e (rmD 2) s m args below meth c H locs 0 0 (MQ below (QvM E σ') args s 0 0 (eA E)) (F0 m 2 ls [])) (hK20 : ∀ (k0 : Nat) (k1 : Nat) (v2 : Int32) (v3 : Int32) (v4 : Int32) (hk0 : kd k0 = 12) (hk1 : kd k1 = 143) (σ : Mem) (H : Heap) (locs : List Loc) (ls : Array Slot), Hs E s σ H locs → lv_has ls 5 [(0, .ref (ea E k0)), (1, .ref (ea E k1)), (2, .int v2), (3, .int v3), (4, .int v4)] → K20 k0 k1 v2 v3 v4 σ = some σ' → W p l e (rmD 2) s m args below meth c H locs 0 0 (MQ below (QvM E σ') args s 0 0 (eA E)) (F0 m 20 ls []))  (k0 : Nat) (k1 : Nat) (v2 : Int32) (v3 : Int32) (v4 : Int32) (hk0 : kd k0 = 12) (hk1 : kd k1 = 143) {σ : Mem} {H : Heap} {locs : List Loc} {ls : Array Slot} (hH : Hs E s σ H locs) (hl : lv_has ls 5 [(0, .ref (ea E k0)), (1, .ref (ea E k1)), (2, .int v2), (3, .int v3), (4, .int v4)]) (h : X12_layNear_b20 K2 K20 k0 k1 v2 v3 v4 σ = some σ') : W p l e (rmD 2) s m args below meth c H locs 0 0 (MQ below (QvM E σ') args s 0 0 (eA E)) (F0 m 20 ls []) := by
  obtain ⟨⟨hx, hb, hml, hown, hts⟩, hr, hlocks, hF, hAd⟩ := id C0
  unfold X12_layNear_b20 at h
  refine lv_iload hx hb dX12_layNear_20 (lv_at hl 4 rfl) ?_
  refine lv_aload_n hx hb dX12_layNear_22 rfl (lv_at hl 1 rfl) ?_
  refine lv_iconst (v := 0) hx hb dX12_layNear_23 (by decide) ?_
  refine r_iald C0 hH (n := 43) hk1 (vin (by decide)) dX12_layNear_24 ?_
  refine lv_icmp_ge (tgt := 75) hx hb dX12_layNear_25 (by decide) (fun c1 => ?_) (fun c1 => ?_)
  · replace h := if_t h c1
    exact w_X12_layNear_b75 C0 K2 hK2 k0 k1 v2 v3 hk0 hk1 hH (lv_sub hl [0, 1, 2, 3] rfl) h
  · replace h := if_f h c1
    refine lv_iload_n hx hb dX12_layNear_28 rfl (lv_at hl 3 rfl) ?_
    refine lv_aload_n hx hb dX12_layNear_29 rfl (lv_at hl 1 rfl) ?_
    refine lv_iconst (v := 0) hx hb dX12_layNear_30 (by decide) ?_
    refine r_iald C0 hH (n := 43) hk1 (vin (by decide)) dX12_layNear_31 ?_
    refine lv_icmp_ge (tgt := 75) hx hb dX12_layNear_32 (by decide) (fun c2 => ?_) (fun c2 => ?_)
    · replace h := if_t h c2
      exact w_X12_layNear_b75 C0 K2 hK2 k0 k1 v2 v3 hk0 hk1 hH (lv_sub hl [0, 1, 2, 3] rfl) h
    · replace h := if_f h c2
      refine lv_aload_n hx hb dX12_layNear_35 rfl (lv_at hl 0 rfl) ?_
      refine gf_X12_37 C0 hH hk0 dX12_layNear_36 ?_
      refine lv_iload_n hx hb dX12_layNear_39 rfl (lv_at hl 3 rfl) ?_
      refine lv_dup2_11 hx hb dX12_layNear_40 rfl rfl ?_
      obtain ⟨b3, h⟩ := gdx_s h
      refine r_iald C0 hH (n := 10) (kf_12_19 hk0) b3 dX12_layNear_41 ?_
      refine lv_iload hx hb dX12_layNear_42 (lv_at hl 4 rfl) ?_
      refine lv_iload_n hx hb dX12_layNear_44 rfl (lv_at hl 3 rfl) ?_
      refine lv_icmp_eq (tgt := 66) hx hb dX12_layNear_45 (by decide) (fun c4 => ?_) (fun c4 => ?_)
      · replace h := if_t h c4
        exact w_X12_layNear_b66 C0 K2 K20 hK2 hK20 k0 k1 v2 v3 v4 (k0 + 10) v3 (σ (k0 + 10) (nc v3)) hk0 hk1 (kf_12_19 hk0) hH (lv_sub hl [0, 1, 2, 3, 4] rfl) h
      · replace h := if_f h c4
        refine lv_aload_n hx hb dX12_layNear_48 rfl (lv_at hl 1 rfl) ?_
        refine lv_iload_n hx hb dX12_layNear_49 rfl (lv_at hl 3 rfl) ?_
        refine lv_iload hx hb dX12_layNear_50 (lv_at hl 4 rfl) ?_
        obtain ⟨r5, qr5, h⟩ := ob_s h
        refine go_i hH (va_run_S (As := [.ref (ea E k1), .int v3, .int v4]) (rest := [.int (σ (k0 + 10) (nc v3)), .int v3, .ref (ea E (k0 + 10))]) C0 hH lk_X12_200 (c_X12_farOf hAd k1 v3 v4 hk1 σ qr5) (by decide) rfl hl.1 rfl (Nat.le_of_ble_eq_true rfl) dX12_layNear_52) (fun H locs hH => ?_)
        refine lv_iload_n hx hb dX12_layNear_55 rfl (lv_at hl 2 rfl) ?_
        refine lv_icmp_gt (tgt := 66) hx hb dX12_layNear_56 (by decide) (fun c6 => ?_) (fun c6 => ?_)
        · replace h := if_t h c6
          exact w_X12_layNear_b66 C0 K2 K20 hK2 hK20 k0 k1 v2 v3 v4 (k0 + 10) v3 (σ (k0 + 10) (nc v3)) hk0 hk1 (kf_12_19 hk0) hH (lv_sub hl [0, 1, 2, 3, 4] rfl) h
        · replace h := if_f h c6
          refine lv_iconst (v := 1) hx hb dX12_layNear_59 (by decide) ?_
          refine lv_iload hx hb dX12_layNear_60 (lv_at hl 4 rfl) ?_
          refine lv_ishl hx hb dX12_layNear_62 ?_
          refine lv_goto (tgt := 67) hx hb dX12_layNear_63 (by decide) ?_
          exact w_X12_layNear_b67 C0 K2 K20 hK2 hK20 k0 k1 v2 v3 v4 (k0 + 10) v3 (σ (k0 + 10) (nc v3)) (shl 1 v4) hk0 hk1 (kf_12_19 hk0) hH (lv_sub hl [0, 1, 2, 3, 4] rfl) h
set_option maxRecDepth 100000 in
set_option maxHeartbeats 4000000 in
theorem w_X12_layNear_l20 {σ' : Mem} (C0 : Cx E p m c cX12_layNear 5 s args RX12 meth (none)) (K2 : Nat → Nat → Int32 → Int32 → Mem → Option Mem) (hK2 : ∀ (k0 : Nat) (k1 : Nat) (v2 : Int32) (v3 : Int32) (hk0 : kd k0 = 12) (hk1 : kd k1 = 143) (σ : Mem) (H : Heap) (locs : List Loc) (ls : Array Slot), Hs E s σ H locs → lv_has ls 5 [(0, .ref (ea E k0)), (1, .ref (ea E k1)), (2, .int v2), (3, .int v3)] → K2 k0 k1 v2 v3 σ = some σ' → W p l e (rmD 2) s m args below meth c H locs 0 0 (MQ below (QvM E σ') args s 0 0 (eA E)) (F0 m 2 ls []))  (n : Nat) : ∀ (k0 : Nat) (k1 : Nat) (v2 : Int32) (v3 : Int32) (v4 : Int32) (hk0 : kd k0 = 12) (hk1 : kd k1 = 143) (σ : Mem) (H : Heap) (locs : List Loc) (ls : Array Slot), Hs E s σ H locs → lv_has ls 5 [(0, .ref (ea E k0)), (1, .ref (ea E k1)), (2, .int v2), (3, .int v3), (4, .int v4)] → X12_layNear_l20 K2 n k0 k1 v2 v3 v4 σ = some σ' → W p l e (rmD 2) s m args below meth c H locs 0 0 (MQ below (QvM E σ') args s 0 0 (eA E)) (F0 m 20 ls []) := by
  induction n with
  | zero =>
    intro k0 k1 v2 v3 v4 hk0 hk1 σ H locs ls hH hl h
    cases h
  | succ n ih =>
    intro k0 k1 v2 v3 v4 hk0 hk1 σ H locs ls hH hl h
    exact w_X12_layNear_b20 C0 K2 (X12_layNear_l20 K2 n) hK2 ih k0 k1 v2 v3 v4 hk0 hk1 hH hl h
set_option maxRecDepth 100000 in
set_option maxHeartbeats 4000000 in
theorem w_X12_layNear_b2 {σ' : Mem} (C0 : Cx E p m c cX12_layNear 5 s args RX12 meth (none)) (K2 : Nat → Nat → Int32 → Int32 → Mem → Option Mem) (hK2 : ∀ (k0 : Nat) (k1 : Nat) (v2 : Int32) (v3 : Int32) (hk0 : kd k0 = 12) (hk1 : kd k1 = 143) (σ : Mem) (H : Heap) (locs : List Loc) (ls : Array Slot), Hs E s σ H locs → lv_has ls 5 [(0, .ref (ea E k0)), (1, .ref (ea E k1)), (2, .int v2), (3, .int v3)] → K2 k0 k1 v2 v3 σ = some σ' → W p l e (rmD 2) s m args below meth c H locs 0 0 (MQ below (QvM E σ') args s 0 0 (eA E)) (F0 m 2 ls []))  (k0 : Nat) (k1 : Nat) (v2 : Int32) (v3 : Int32) (hk0 : kd k0 = 12) (hk1 : kd k1 = 143) {σ : Mem} {H : Heap} {locs : List Loc} {ls : Array Slot} (hH : Hs E s σ H locs) (hl : lv_has ls 5 [(0, .ref (ea E k0)), (1, .ref (ea E k1)), (2, .int v2), (3, .int v3)]) (h : X12_layNear_b2 K2 k0 k1 v2 v3 σ = some σ') : W p l e (rmD 2) s m args below meth c H locs 0 0 (MQ below (QvM E σ') args s 0 0 (eA E)) (F0 m 2 ls []) := by
  obtain ⟨⟨hx, hb, hml, hown, hts⟩, hr, hlocks, hF, hAd⟩ := id C0
  unfold X12_layNear_b2 at h
  refine lv_iload_n hx hb dX12_layNear_2 rfl (lv_at hl 3 rfl) ?_
  refine lv_bipush (v := 10) hx hb dX12_layNear_3 (by decide) ?_
  refine lv_icmp_ge (tgt := 81) hx hb dX12_layNear_5 (by decide) (fun c1 => ?_) (fun c1 => ?_)
  · replace h := if_t h c1
    exact r_vret C0 hH (Option.some.inj h) dX12_layNear_81
  · replace h := if_f h c1
    refine lv_aload_n hx hb dX12_layNear_8 rfl (lv_at hl 0 rfl) ?_
    refine gf_X12_37 C0 hH hk0 dX12_layNear_9 ?_
    refine lv_iload_n hx hb dX12_layNear_12 rfl (lv_at hl 3 rfl) ?_
    refine lv_iconst (v := 1) hx hb dX12_layNear_13 (by decide) ?_
    refine lv_iload_n hx hb dX12_layNear_14 rfl (lv_at hl 3 rfl) ?_
    refine lv_ishl hx hb dX12_layNear_15 ?_
    obtain ⟨b2, h⟩ := gdx_s h
    refine r_iast C0 hH (n := 10) (kf_12_19 hk0) b2 dX12_layNear_16 (fun H locs hH => ?_)
    refine lv_iconst (v := 0) hx hb dX12_layNear_17 (by decide) ?_
    refine lv_istore (lv' := [(4, .int 0), (0, .ref (ea E k0)), (1, .ref (ea E k1)), (2, .int v2), (3, .int v3)]) hx hb dX12_layNear_18 hl (by decide) rfl (fun ls hl => ?_)
    exact w_X12_layNear_l20 C0 K2 hK2 FU k0 k1 v2 v3 0 hk0 hk1 _ _ _ _ hH (lv_sub hl [1, 2, 3, 4, 0] rfl) h
set_option maxRecDepth 100000 in
set_option maxHeartbeats 4000000 in
theorem w_X12_layNear_l2 {σ' : Mem} (C0 : Cx E p m c cX12_layNear 5 s args RX12 meth (none))  (n : Nat) : ∀ (k0 : Nat) (k1 : Nat) (v2 : Int32) (v3 : Int32) (hk0 : kd k0 = 12) (hk1 : kd k1 = 143) (σ : Mem) (H : Heap) (locs : List Loc) (ls : Array Slot), Hs E s σ H locs → lv_has ls 5 [(0, .ref (ea E k0)), (1, .ref (ea E k1)), (2, .int v2), (3, .int v3)] → X12_layNear_l2 n k0 k1 v2 v3 σ = some σ' → W p l e (rmD 2) s m args below meth c H locs 0 0 (MQ below (QvM E σ') args s 0 0 (eA E)) (F0 m 2 ls []) := by
  induction n with
  | zero =>
    intro k0 k1 v2 v3 hk0 hk1 σ H locs ls hH hl h
    cases h
  | succ n ih =>
    intro k0 k1 v2 v3 hk0 hk1 σ H locs ls hH hl h
    exact w_X12_layNear_b2 C0 (X12_layNear_l2 n)  ih k0 k1 v2 v3 hk0 hk1 hH hl h
set_option maxRecDepth 100000 in
set_option maxHeartbeats 4000000 in
theorem w_X12_layNear_b0 {σ' : Mem} (C0 : Cx E p m c cX12_layNear 5 s args RX12 meth (none))  (k0 : Nat) (k1 : Nat) (v2 : Int32) (hk0 : kd k0 = 12) (hk1 : kd k1 = 143) {σ : Mem} {H : Heap} {locs : List Loc} {ls : Array Slot} (hH : Hs E s σ H locs) (hl : lv_has ls 5 [(0, .ref (ea E k0)), (1, .ref (ea E k1)), (2, .int v2)]) (h : X12_layNear_b0 k0 k1 v2 σ = some σ') : W p l e (rmD 2) s m args below meth c H locs 0 0 (MQ below (QvM E σ') args s 0 0 (eA E)) (F0 m 0 ls []) := by
  obtain ⟨⟨hx, hb, hml, hown, hts⟩, hr, hlocks, hF, hAd⟩ := id C0
  unfold X12_layNear_b0 at h
  refine lv_iconst (v := 0) hx hb dX12_layNear_0 (by decide) ?_
  refine lv_istore_n (lv' := [(3, .int 0), (0, .ref (ea E k0)), (1, .ref (ea E k1)), (2, .int v2)]) hx hb dX12_layNear_1 rfl hl (by decide) rfl (fun ls hl => ?_)
  exact w_X12_layNear_l2 C0  FU k0 k1 v2 0 hk0 hk1 _ _ _ _ hH (lv_sub hl [1, 2, 3, 0] rfl) h
theorem c_X12_layNear {l : Launch} {E : EnvT} (hAd : Ad E) (k0 : Nat) (k1 : Nat) (v2 : Int32) (hk0 : kd k0 = 12) (hk1 : kd k1 = 143) (σ : Mem) {σ' : Mem} (h : X12_layNear k0 k1 v2 σ = some σ') : Met l yX12_layNear (wsM yX12_layNear cX12_layNear 5 (none)) (rmD 2) (PcM E [.ref (ea E k0), .ref (ea E k1), .int v2] σ) (QvM E σ') 0 0 (eA E) :=
  Met.ofM (by decide) (Nat.le_of_ble_eq_true rfl) (fun p e s m below meth c ls C0 hH hl => w_X12_layNear_b0 C0 k0 k1 v2 hk0 hk1 hH hl h) hAd
set_option maxRecDepth 100000 in
set_option maxHeartbeats 4000000 in
theorem w_X12_isNear_b40 {r : Int32} (C0 : Cx E p m c cX12_isNear 4 s args RX12 meth (some .boolean)) (K4 : Nat → Int32 → Int32 → Int32 → Mem → Option Int32) (hK4 : ∀ (k0 : Nat) (v1 : Int32) (v2 : Int32) (v3 : Int32) (hk0 : kd k0 = 12) (σ : Mem) (H : Heap) (locs : List Loc) (ls : Array Slot), Hs E s σ H locs → lv_has ls 4 [(0, .ref (ea E k0)), (1, .int v1), (2, .int v2), (3, .int v3)] → K4 k0 v1 v2 v3 σ = some r → W p l e (rmD 1) s m args below meth c H locs 0 0 (MQ below (QiM E r σ) args s 0 0 (eA E)) (F0 m 4 ls []))  (k0 : Nat) (v1 : Int32) (v3 : Int32) (s0 : Int32) (hk0 : kd k0 = 12) {σ : Mem} {H : Heap} {locs : List Loc} {ls : Array Slot} (hH : Hs E s σ H locs) (hl : lv_has ls 4 [(0, .ref (ea E k0)), (1, .int v1), (3, .int v3)]) (h : X12_isNear_b40 K4 k0 v1 v3 s0 σ = some r) : W p l e (rmD 1) s m args below meth c H locs 0 0 (MQ below (QiM E r σ) args s 0 0 (eA E)) (F0 m 40 ls [.int s0]) := by
  obtain ⟨⟨hx, hb, hml, hown, hts⟩, hr, hlocks, hF, hAd⟩ := id C0
  unfold X12_isNear_b40 at h
  refine lv_istore_n (lv' := [(2, .int s0), (0, .ref (ea E k0)), (1, .int v1), (3, .int v3)]) hx hb dX12_isNear_40 rfl hl (by decide) rfl (fun ls hl => ?_)
  refine lv_iinc (v := v3 + 1) (lv' := [(3, .int (v3 + 1)), (2, .int s0), (0, .ref (ea E k0)), (1, .int v1)]) hx hb dX12_isNear_41 hl (k := 3) rfl rfl (by decide) rfl (fun ls hl => ?_)
  refine lv_goto (tgt := 4) hx hb dX12_isNear_44 (by decide) ?_
  exact hK4 k0 v1 s0 (v3 + 1) hk0 _ _ _ _ hH (lv_sub hl [2, 3, 1, 0] rfl) h
set_option maxRecDepth 100000 in
set_option maxHeartbeats 4000000 in
theorem w_X12_isNear_b39 {r : Int32} (C0 : Cx E p m c cX12_isNear 4 s args RX12 meth (some .boolean)) (K4 : Nat → Int32 → Int32 → Int32 → Mem → Option Int32) (hK4 : ∀ (k0 : Nat) (v1 : Int32) (v2 : Int32) (v3 : Int32) (hk0 : kd k0 = 12) (σ : Mem) (H : Heap) (locs : List Loc) (ls : Array Slot), Hs E s σ H locs → lv_has ls 4 [(0, .ref (ea E k0)), (1, .int v1), (2, .int v2), (3, .int v3)] → K4 k0 v1 v2 v3 σ = some r → W p l e (rmD 1) s m args below meth c H locs 0 0 (MQ below (QiM E r σ) args s 0 0 (eA E)) (F0 m 4 ls []))  (k0 : Nat) (v1 : Int32) (v3 : Int32) (hk0 : kd k0 = 12) {σ : Mem} {H : Heap} {locs : List Loc} {ls : Array Slot} (hH : Hs E s σ H locs) (hl : lv_has ls 4 [(0, .ref (ea E k0)), (1, .int v1), (3, .int v3)]) (h : X12_isNear_b39 K4 k0 v1 v3 σ = some r) : W p l e (rmD 1) s m args below meth c H locs 0 0 (MQ below (QiM E r σ) args s 0 0 (eA E)) (F0 m 39 ls []) := by
  obtain ⟨⟨hx, hb, hml, hown, hts⟩, hr, hlocks, hF, hAd⟩ := id C0
  unfold X12_isNear_b39 at h
  refine lv_iconst (v := 0) hx hb dX12_isNear_39 (by decide) ?_
  exact w_X12_isNear_b40 C0 K4 hK4 k0 v1 v3 0 hk0 hH (lv_sub hl [0, 1, 2] rfl) h
set_option maxRecDepth 100000 in
set_option maxHeartbeats 4000000 in
theorem w_X12_isNear_b35 {r : Int32} (C0 : Cx E p m c cX12_isNear 4 s args RX12 meth (some .boolean)) (K4 : Nat → Int32 → Int32 → Int32 → Mem → Option Int32) (hK4 : ∀ (k0 : Nat) (v1 : Int32) (v2 : Int32) (v3 : Int32) (hk0 : kd k0 = 12) (σ : Mem) (H : Heap) (locs : List Loc) (ls : Array Slot), Hs E s σ H locs → lv_has ls 4 [(0, .ref (ea E k0)), (1, .int v1), (2, .int v2), (3, .int v3)] → K4 k0 v1 v2 v3 σ = some r → W p l e (rmD 1) s m args below meth c H locs 0 0 (MQ below (QiM E r σ) args s 0 0 (eA E)) (F0 m 4 ls []))  (k0 : Nat) (v1 : Int32) (v3 : Int32) (hk0 : kd k0 = 12) {σ : Mem} {H : Heap} {locs : List Loc} {ls : Array Slot} (hH : Hs E s σ H locs) (hl : lv_has ls 4 [(0, .ref (ea E k0)), (1, .int v1), (3, .int v3)]) (h : X12_isNear_b35 K4 k0 v1 v3 σ = some r) : W p l e (rmD 1) s m args below meth c H locs 0 0 (MQ below (QiM E r σ) args s 0 0 (eA E)) (F0 m 35 ls []) := by
  obtain ⟨⟨hx, hb, hml, hown, hts⟩, hr, hlocks, hF, hAd⟩ := id C0
  unfold X12_isNear_b35 at h
  refine lv_iconst (v := 1) hx hb dX12_isNear_35 (by decide) ?_
  refine lv_goto (tgt := 40) hx hb dX12_isNear_36 (by decide) ?_
  exact w_X12_isNear_b40 C0 K4 hK4 k0 v1 v3 1 hk0 hH (lv_sub hl [0, 1, 2] rfl) h
set_option maxRecDepth 100000 in
set_option maxHeartbeats 4000000 in
theorem w_X12_isNear_b4 {r : Int32} (C0 : Cx E p m c cX12_isNear 4 s args RX12 meth (some .boolean)) (K4 : Nat → Int32 → Int32 → Int32 → Mem → Option Int32) (hK4 : ∀ (k0 : Nat) (v1 : Int32) (v2 : Int32) (v3 : Int32) (hk0 : kd k0 = 12) (σ : Mem) (H : Heap) (locs : List Loc) (ls : Array Slot), Hs E s σ H locs → lv_has ls 4 [(0, .ref (ea E k0)), (1, .int v1), (2, .int v2), (3, .int v3)] → K4 k0 v1 v2 v3 σ = some r → W p l e (rmD 1) s m args below meth c H locs 0 0 (MQ below (QiM E r σ) args s 0 0 (eA E)) (F0 m 4 ls []))  (k0 : Nat) (v1 : Int32) (v2 : Int32) (v3 : Int32) (hk0 : kd k0 = 12) {σ : Mem} {H : Heap} {locs : List Loc} {ls : Array Slot} (hH : Hs E s σ H locs) (hl : lv_has ls 4 [(0, .ref (ea E k0)), (1, .int v1), (2, .int v2), (3, .int v3)]) (h : X12_isNear_b4 K4 k0 v1 v2 v3 σ = some r) : W p l e (rmD 1) s m args below meth c H locs 0 0 (MQ below (QiM E r σ) args s 0 0 (eA E)) (F0 m 4 ls []) := by
  obtain ⟨⟨hx, hb, hml, hown, hts⟩, hr, hlocks, hF, hAd⟩ := id C0
  unfold X12_isNear_b4 at h
  refine lv_iload_n hx hb dX12_isNear_4 rfl (lv_at hl 3 rfl) ?_
  refine lv_bipush (v := 10) hx hb dX12_isNear_5 (by decide) ?_
  refine lv_icmp_ge (tgt := 47) hx hb dX12_isNear_7 (by decide) (fun c1 => ?_) (fun c1 => ?_)
  · replace h := if_t h c1
    refine lv_iload_n hx hb dX12_isNear_47 rfl (lv_at hl 2 rfl) ?_
    obtain ⟨z2, h⟩ := gdb_s h
    exact r_zret C0 (bit_nar z2) hH (Option.some.inj h) rfl dX12_isNear_48
  · replace h := if_f h c1
    refine lv_iload_n hx hb dX12_isNear_10 rfl (lv_at hl 2 rfl) ?_
    refine lv_if_eq (tgt := 39) hx hb dX12_isNear_11 (by decide) (fun c3 => ?_) (fun c3 => ?_)
    · replace h := if_t h c3
      exact w_X12_isNear_b39 C0 K4 hK4 k0 v1 v3 hk0 hH (lv_sub hl [0, 1, 3] rfl) h
    · replace h := if_f h c3
      refine lv_iload_n hx hb dX12_isNear_14 rfl (lv_at hl 1 rfl) ?_
      refine lv_iload_n hx hb dX12_isNear_15 rfl (lv_at hl 3 rfl) ?_
      refine go_i hH (va_run_S (As := [.int v1, .int v3]) (rest := []) C0 hH lk_X12_90 (c_X12_has hAd v1 v3  σ rfl) (by decide) rfl hl.1 rfl (Nat.le_of_ble_eq_true rfl) dX12_isNear_16) (fun H locs hH => ?_)
      refine lv_if_eq (tgt := 35) hx hb dX12_isNear_19 (by decide) (fun c4 => ?_) (fun c4 => ?_)
      · replace h := if_t h c4
        exact w_X12_isNear_b35 C0 K4 hK4 k0 v1 v3 hk0 hH (lv_sub hl [0, 1, 3] rfl) h
      · replace h := if_f h c4
        refine lv_iload_n hx hb dX12_isNear_22 rfl (lv_at hl 1 rfl) ?_
        refine lv_aload_n hx hb dX12_isNear_23 rfl (lv_at hl 0 rfl) ?_
        refine gf_X12_37 C0 hH hk0 dX12_isNear_24 ?_
        refine lv_iload_n hx hb dX12_isNear_27 rfl (lv_at hl 3 rfl) ?_
        obtain ⟨b5, h⟩ := gdx_s h
        refine r_iald C0 hH (n := 10) (kf_12_19 hk0) b5 dX12_isNear_28 ?_
        refine lv_iconst (v := (-1)) hx hb dX12_isNear_29 (by decide) ?_
        refine lv_ixor hx hb dX12_isNear_30 ?_
        refine lv_iand hx hb dX12_isNear_31 ?_
        refine lv_if_ne (tgt := 39) hx hb dX12_isNear_32 (by decide) (fun c6 => ?_) (fun c6 => ?_)
        · replace h := if_f h c6
          exact w_X12_isNear_b39 C0 K4 hK4 k0 v1 v3 hk0 hH (lv_sub hl [0, 1, 3] rfl) h
        · replace h := if_t h c6
          exact w_X12_isNear_b35 C0 K4 hK4 k0 v1 v3 hk0 hH (lv_sub hl [0, 1, 3] rfl) h
set_option maxRecDepth 100000 in
set_option maxHeartbeats 4000000 in
theorem w_X12_isNear_l4 {r : Int32} (C0 : Cx E p m c cX12_isNear 4 s args RX12 meth (some .boolean))  (n : Nat) : ∀ (k0 : Nat) (v1 : Int32) (v2 : Int32) (v3 : Int32) (hk0 : kd k0 = 12) (σ : Mem) (H : Heap) (locs : List Loc) (ls : Array Slot), Hs E s σ H locs → lv_has ls 4 [(0, .ref (ea E k0)), (1, .int v1), (2, .int v2), (3, .int v3)] → X12_isNear_l4 n k0 v1 v2 v3 σ = some r → W p l e (rmD 1) s m args below meth c H locs 0 0 (MQ below (QiM E r σ) args s 0 0 (eA E)) (F0 m 4 ls []) := by
  induction n with
  | zero =>
    intro k0 v1 v2 v3 hk0 σ H locs ls hH hl h
    cases h
  | succ n ih =>
    intro k0 v1 v2 v3 hk0 σ H locs ls hH hl h
    exact w_X12_isNear_b4 C0 (X12_isNear_l4 n)  ih k0 v1 v2 v3 hk0 hH hl h
set_option maxRecDepth 100000 in
set_option maxHeartbeats 4000000 in
theorem w_X12_isNear_b0 {r : Int32} (C0 : Cx E p m c cX12_isNear 4 s args RX12 meth (some .boolean))  (k0 : Nat) (v1 : Int32) (hk0 : kd k0 = 12) {σ : Mem} {H : Heap} {locs : List Loc} {ls : Array Slot} (hH : Hs E s σ H locs) (hl : lv_has ls 4 [(0, .ref (ea E k0)), (1, .int v1)]) (h : X12_isNear_b0 k0 v1 σ = some r) : W p l e (rmD 1) s m args below meth c H locs 0 0 (MQ below (QiM E r σ) args s 0 0 (eA E)) (F0 m 0 ls []) := by
  obtain ⟨⟨hx, hb, hml, hown, hts⟩, hr, hlocks, hF, hAd⟩ := id C0
  unfold X12_isNear_b0 at h
  refine lv_iconst (v := 1) hx hb dX12_isNear_0 (by decide) ?_
  refine lv_istore_n (lv' := [(2, .int 1), (0, .ref (ea E k0)), (1, .int v1)]) hx hb dX12_isNear_1 rfl hl (by decide) rfl (fun ls hl => ?_)
  refine lv_iconst (v := 0) hx hb dX12_isNear_2 (by decide) ?_
  refine lv_istore_n (lv' := [(3, .int 0), (2, .int 1), (0, .ref (ea E k0)), (1, .int v1)]) hx hb dX12_isNear_3 rfl hl (by decide) rfl (fun ls hl => ?_)
  exact w_X12_isNear_l4 C0  FU k0 v1 1 0 hk0 _ _ _ _ hH (lv_sub hl [2, 3, 1, 0] rfl) h
theorem c_X12_isNear {l : Launch} {E : EnvT} (hAd : Ad E) (k0 : Nat) (v1 : Int32) (hk0 : kd k0 = 12) (σ : Mem) {r : Int32} (h : X12_isNear k0 v1 σ = some r) : Met l yX12_isNear (wsM yX12_isNear cX12_isNear 4 (some .boolean)) (rmD 1) (PcM E [.ref (ea E k0), .int v1] σ) (QiM E r σ) 0 0 (eA E) :=
  Met.ofM (by decide) (Nat.le_of_ble_eq_true rfl) (fun p e s m below meth c ls C0 hH hl => w_X12_isNear_b0 C0 k0 v1 hk0 hH hl h) hAd
set_option maxRecDepth 100000 in
set_option maxHeartbeats 4000000 in
theorem w_X12_oneOf_b0 {r : Int32} (C0 : Cx E p m c cX12_oneOf 2 s args RX12 meth (some .int))  (k0 : Nat) (v1 : Int32) (hk0 : kd k0 = 12) {σ : Mem} {H : Heap} {locs : List Loc} {ls : Array Slot} (hH : Hs E s σ H locs) (hl : lv_has ls 2 [(0, .ref (ea E k0)), (1, .int v1)]) (h : X12_oneOf_b0 k0 v1 σ = some r) : W p l e (rmD 2) s m args below meth c H locs 0 0 (MQ below (QiM E r σ) args s 0 0 (eA E)) (F0 m 0 ls []) := by
  obtain ⟨⟨hx, hb, hml, hown, hts⟩, hr, hlocks, hF, hAd⟩ := id C0
  unfold X12_oneOf_b0 at h
  refine lv_iconst (v := 1) hx hb dX12_oneOf_0 (by decide) ?_
  refine lv_aload_n hx hb dX12_oneOf_1 rfl (lv_at hl 0 rfl) ?_
  refine gf_X12_40 C0 hH hk0 dX12_oneOf_2 ?_
  refine lv_iload_n hx hb dX12_oneOf_5 rfl (lv_at hl 1 rfl) ?_
  obtain ⟨b1, h⟩ := gdx_s h
  refine r_iald C0 hH (n := 11) (kf_12_20 hk0) b1 dX12_oneOf_6 ?_
  obtain ⟨r2, qr2, h⟩ := ob_s h
  refine go_i hH (va_run_S (As := [.int (σ (k0 + 11) (nc v1))]) (rest := [.int 1]) C0 hH lk_X12_215 (c_X12_firstOf hAd (σ (k0 + 11) (nc v1))  σ qr2) (by decide) rfl hl.1 rfl (Nat.le_of_ble_eq_true rfl) dX12_oneOf_7) (fun H locs hH => ?_)
  refine lv_ishl hx hb dX12_oneOf_10 ?_
  exact r_iret C0 hH (Option.some.inj h) rfl dX12_oneOf_11
theorem c_X12_oneOf {l : Launch} {E : EnvT} (hAd : Ad E) (k0 : Nat) (v1 : Int32) (hk0 : kd k0 = 12) (σ : Mem) {r : Int32} (h : X12_oneOf k0 v1 σ = some r) : Met l yX12_oneOf (wsM yX12_oneOf cX12_oneOf 2 (some .int)) (rmD 2) (PcM E [.ref (ea E k0), .int v1] σ) (QiM E r σ) 0 0 (eA E) :=
  Met.ofM (by decide) (Nat.le_of_ble_eq_true rfl) (fun p e s m below meth c ls C0 hH hl => w_X12_oneOf_b0 C0 k0 v1 hk0 hH hl h) hAd
set_option maxRecDepth 100000 in
set_option maxHeartbeats 4000000 in
theorem w_X12_turns_b36 {σ' : Mem} (C0 : Cx E p m c cX12_turns 4 s args RX12 meth (none))  (s0 : Nat) (s1 : Int32) (hs0 : kd s0 = 111) {σ : Mem} {H : Heap} {locs : List Loc} {ls : Array Slot} (hH : Hs E s σ H locs) (hl : lv_has ls 4 []) (h : X12_turns_b36 s0 s1 σ = some σ') : W p l e (rmD 3) s m args below meth c H locs 0 0 (MQ below (QvM E σ') args s 0 0 (eA E)) (F0 m 36 ls [.int s1, .ref (ea E s0)]) := by
  obtain ⟨⟨hx, hb, hml, hown, hts⟩, hr, hlocks, hF, hAd⟩ := id C0
  unfold X12_turns_b36 at h
  refine lv_iconst (v := (-1)) hx hb dX12_turns_36 (by decide) ?_
  refine lv_goto (tgt := 50) hx hb dX12_turns_37 (by decide) ?_
  obtain ⟨b1, h⟩ := gdx_s h
  refine r_iast C0 hH (n := 11) hs0 b1 dX12_turns_50 (fun H locs hH => ?_)
  exact r_vret C0 hH (Option.some.inj h) dX12_turns_51
set_option maxRecDepth 100000 in
set_option maxHeartbeats 4000000 in
theorem w_X12_turns_b0 {σ' : Mem} (C0 : Cx E p m c cX12_turns 4 s args RX12 meth (none))  (k0 : Nat) (v1 : Int32) (v2 : Int32) (hk0 : kd k0 = 12) {σ : Mem} {H : Heap} {locs : List Loc} {ls : Array Slot} (hH : Hs E s σ H locs) (hl : lv_has ls 4 [(0, .ref (ea E k0)), (1, .int v1), (2, .int v2)]) (h : X12_turns_b0 k0 v1 v2 σ = some σ') : W p l e (rmD 3) s m args below meth c H locs 0 0 (MQ below (QvM E σ') args s 0 0 (eA E)) (F0 m 0 ls []) := by
  obtain ⟨⟨hx, hb, hml, hown, hts⟩, hr, hlocks, hF, hAd⟩ := id C0
  unfold X12_turns_b0 at h
  refine lv_aload_n hx hb dX12_turns_0 rfl (lv_at hl 0 rfl) ?_
  refine gf_X12_40 C0 hH hk0 dX12_turns_1 ?_
  refine lv_iload_n hx hb dX12_turns_4 rfl (lv_at hl 1 rfl) ?_
  obtain ⟨b1, h⟩ := gdx_s h
  refine r_iald C0 hH (n := 11) (kf_12_20 hk0) b1 dX12_turns_5 ?_
  refine lv_aload_n hx hb dX12_turns_6 rfl (lv_at hl 0 rfl) ?_
  refine lv_iload_n hx hb dX12_turns_7 rfl (lv_at hl 1 rfl) ?_
  obtain ⟨r2, qr2, h⟩ := ob_s h
  refine go_i hH (va_run_V (As := [.int v1]) (rest := [.int (σ (k0 + 11) (nc v1))]) C0 hH lk_X12_218 (c_X12_oneOf hAd k0 v1 hk0 σ qr2) (by decide) (ci := 12) hk0 (by decide) (cob_12 _ _ _) rfl rfl hl.1 rfl (Nat.le_of_ble_eq_true rfl) dX12_turns_8) (fun H locs hH => ?_)
  refine lv_iconst (v := (-1)) hx hb dX12_turns_11 (by decide) ?_
  refine lv_ixor hx hb dX12_turns_12 ?_
  refine lv_iand hx hb dX12_turns_13 ?_
  obtain ⟨x3, ex3, h⟩ := letv_s h
  refine topi_of ex3 ?_
  refine lv_istore_n (lv' := [(3, .int x3), (0, .ref (ea E k0)), (1, .int v1), (2, .int v2)]) hx hb dX12_turns_14 rfl hl (by decide) rfl (fun ls hl => ?_)
  refine lv_aload_n hx hb dX12_turns_15 rfl (lv_at hl 1 rfl) ?_
  refine gf_X12_43 C0 hH hk0 dX12_turns_16 ?_
  refine lv_iload_n hx hb dX12_turns_19 rfl (lv_at hl 2 rfl) ?_
  refine lv_iload_n hx hb dX12_turns_20 rfl (lv_at hl 2 rfl) ?_
  refine lv_iload_n hx hb dX12_turns_21 rfl (lv_at hl 3 rfl) ?_
  refine lv_iconst (v := 1) hx hb dX12_turns_22 (by decide) ?_
  refine lv_isub hx hb dX12_turns_23 ?_
  refine lv_icmp_eq (tgt := 36) hx hb dX12_turns_24 (by decide) (fun c4 => ?_) (fun c4 => ?_)
  · replace h := if_t h c4
    exact w_X12_turns_b36 C0  (k0 + 12) v1 (kf_12_21 hk0) hH (lv_sub hl [] rfl) h
  · replace h := if_f h c4
    refine lv_aload_n hx hb dX12_turns_27 rfl (lv_at hl 1 rfl) ?_
    refine gf_X12_43 C0 hH hk0 dX12_turns_28 ?_
    refine lv_iload_n hx hb dX12_turns_31 rfl (lv_at hl 2 rfl) ?_
    obtain ⟨b5, h⟩ := gdx_s h
    refine r_iald C0 hH (n := 11) (kf_12_21 hk0) b5 dX12_turns_32 ?_
    refine lv_if_ne (tgt := 40) hx hb dX12_turns_33 (by decide) (fun c6 => ?_) (fun c6 => ?_)
    · replace h := if_f h c6
      refine lv_aload_n hx hb dX12_turns_40 rfl (lv_at hl 1 rfl) ?_
      refine gf_X12_43 C0 hH hk0 dX12_turns_41 ?_
      refine lv_iload_n hx hb dX12_turns_44 rfl (lv_at hl 2 rfl) ?_
      obtain ⟨b7, h⟩ := gdx_s h
      refine r_iald C0 hH (n := 11) (kf_12_21 hk0) b7 dX12_turns_45 ?_
      refine lv_iconst (v := 1) hx hb dX12_turns_46 (by decide) ?_
      refine lv_isub hx hb dX12_turns_47 ?_
      refine lv_iload_n hx hb dX12_turns_48 rfl (lv_at hl 0 rfl) ?_
      refine lv_iand hx hb dX12_turns_49 ?_
      obtain ⟨b8, h⟩ := gdx_s h
      refine r_iast C0 hH (n := 11) (kf_12_21 hk0) b8 dX12_turns_50 (fun H locs hH => ?_)
      exact r_vret C0 hH (Option.some.inj h) dX12_turns_51
    · replace h := if_t h c6
      exact w_X12_turns_b36 C0  (k0 + 12) v1 (kf_12_21 hk0) hH (lv_sub hl [] rfl) h
theorem c_X12_turns {l : Launch} {E : EnvT} (hAd : Ad E) (k0 : Nat) (v1 : Int32) (v2 : Int32) (hk0 : kd k0 = 12) (σ : Mem) {σ' : Mem} (h : X12_turns k0 v1 v2 σ = some σ') : Met l yX12_turns (wsM yX12_turns cX12_turns 4 (none)) (rmD 3) (PcM E [.ref (ea E k0), .int v1, .int v2] σ) (QvM E σ') 0 0 (eA E) :=
  Met.ofM (by decide) (Nat.le_of_ble_eq_true rfl) (fun p e s m below meth c ls C0 hH hl => w_X12_turns_b0 C0 k0 v1 v2 hk0 hH hl h) hAd
end
