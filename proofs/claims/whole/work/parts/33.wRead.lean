section
variable {p : Program} {l : Launch} {e : Env} {s : State} {m : MethodId} {args : Array Value} {below : List Frame} {meth : Method} {c : Code} {E : EnvT}
set_option maxRecDepth 100000 in
set_option maxHeartbeats 4000000 in
theorem w_X10_at_b0 {r : Int32} (C0 : Cx E p m c cX10_at 2 s args RX10 meth (some .int))  (k0 : Nat) (v1 : Int32) (hk0 : kd k0 = 10) {σ : Mem} {H : Heap} {locs : List Loc} {ls : Array Slot} (hH : Hs E s σ H locs) (hl : lv_has ls 2 [(0, .ref (ea E k0)), (1, .int v1)]) (h : X10_at_b0 k0 v1 σ = some r) : W p l e (rmD 0) s m args below meth c H locs 0 0 (MQ below (QiM E r σ) args s 0 0 (eA E)) (F0 m 0 ls []) := by
  obtain ⟨⟨hx, hb, hml, hown, hts⟩, hr, hlocks, hF, hAd⟩ := id C0
  unfold X10_at_b0 at h
  refine lv_iload_n hx hb dX10_at_0 rfl (lv_at hl 1 rfl) ?_
  refine lv_if_lt (tgt := 21) hx hb dX10_at_1 (by decide) (fun c1 => ?_) (fun c1 => ?_)
  · replace h := if_t h c1
    refine lv_iconst (v := (-1)) hx hb dX10_at_21 (by decide) ?_
    exact r_iret C0 hH (Option.some.inj h) rfl dX10_at_22
  · replace h := if_f h c1
    refine lv_iload_n hx hb dX10_at_4 rfl (lv_at hl 1 rfl) ?_
    refine lv_aload_n hx hb dX10_at_5 rfl (lv_at hl 0 rfl) ?_
    refine gf_X10_15 C0 hH hk0 dX10_at_6 ?_
    refine lv_icmp_ge (tgt := 21) hx hb dX10_at_9 (by decide) (fun c2 => ?_) (fun c2 => ?_)
    · replace h := if_t h c2
      refine lv_iconst (v := (-1)) hx hb dX10_at_21 (by decide) ?_
      exact r_iret C0 hH (Option.some.inj h) rfl dX10_at_22
    · replace h := if_f h c2
      refine lv_aload_n hx hb dX10_at_12 rfl (lv_at hl 0 rfl) ?_
      refine gf_X10_9 C0 hH hk0 dX10_at_13 ?_
      refine lv_iload_n hx hb dX10_at_16 rfl (lv_at hl 1 rfl) ?_
      obtain ⟨b3, h⟩ := gdx_s h
      refine r_iald C0 hH (n := 130) (kf_10_0 hk0) b3 dX10_at_17 ?_
      refine lv_goto (tgt := 22) hx hb dX10_at_18 (by decide) ?_
      exact r_iret C0 hH (Option.some.inj h) rfl dX10_at_22
theorem c_X10_at {l : Launch} {E : EnvT} (hAd : Ad E) (k0 : Nat) (v1 : Int32) (hk0 : kd k0 = 10) (σ : Mem) {r : Int32} (h : X10_at k0 v1 σ = some r) : Met l yX10_at (wsM yX10_at cX10_at 2 (some .int)) (rmD 0) (PcM E [.ref (ea E k0), .int v1] σ) (QiM E r σ) 0 0 (eA E) :=
  Met.ofM (by decide) (Nat.le_of_ble_eq_true rfl) (fun p e s m below meth c ls C0 hH hl => w_X10_at_b0 C0 k0 v1 hk0 hH hl h) hAd
set_option maxRecDepth 100000 in
set_option maxHeartbeats 4000000 in
theorem w_X10_figuresAt_b4 {r : Int32} (C0 : Cx E p m c cX10_figuresAt 4 s args RX10 meth (some .int)) (K4 : Nat → Int32 → Int32 → Mem → Option Int32) (hK4 : ∀ (k0 : Nat) (v2 : Int32) (v3 : Int32) (hk0 : kd k0 = 10) (σ : Mem) (H : Heap) (locs : List Loc) (ls : Array Slot), Hs E s σ H locs → lv_has ls 4 [(0, .ref (ea E k0)), (2, .int v2), (3, .int v3)] → K4 k0 v2 v3 σ = some r → W p l e (rmD 1) s m args below meth c H locs 0 0 (MQ below (QiM E r σ) args s 0 0 (eA E)) (F0 m 4 ls []))  (k0 : Nat) (v2 : Int32) (v3 : Int32) (hk0 : kd k0 = 10) {σ : Mem} {H : Heap} {locs : List Loc} {ls : Array Slot} (hH : Hs E s σ H locs) (hl : lv_has ls 4 [(0, .ref (ea E k0)), (2, .int v2), (3, .int v3)]) (h : X10_figuresAt_b4 K4 k0 v2 v3 σ = some r) : W p l e (rmD 1) s m args below meth c H locs 0 0 (MQ below (QiM E r σ) args s 0 0 (eA E)) (F0 m 4 ls []) := by
  obtain ⟨⟨hx, hb, hml, hown, hts⟩, hr, hlocks, hF, hAd⟩ := id C0
  unfold X10_figuresAt_b4 at h
  refine lv_iload_n hx hb dX10_figuresAt_4 rfl (lv_at hl 2 rfl) ?_
  refine lv_aload_n hx hb dX10_figuresAt_5 rfl (lv_at hl 0 rfl) ?_
  refine gf_X10_15 C0 hH hk0 dX10_figuresAt_6 ?_
  refine lv_icmp_ge (tgt := 41) hx hb dX10_figuresAt_9 (by decide) (fun c1 => ?_) (fun c1 => ?_)
  · replace h := if_t h c1
    refine lv_iload_n hx hb dX10_figuresAt_41 rfl (lv_at hl 1 rfl) ?_
    exact r_iret C0 hH (Option.some.inj h) rfl dX10_figuresAt_42
  · replace h := if_f h c1
    refine lv_aload_n hx hb dX10_figuresAt_12 rfl (lv_at hl 0 rfl) ?_
    refine lv_iload_n hx hb dX10_figuresAt_13 rfl (lv_at hl 2 rfl) ?_
    obtain ⟨r2, qr2, h⟩ := ob_s h
    refine go_i hH (va_run_V (As := [.int v3]) (rest := []) C0 hH lk_X10_19 (c_X10_at hAd k0 v3 hk0 σ qr2) (by decide) (ci := 10) hk0 (by decide) (cob_10 _ _ _) rfl rfl hl.1 rfl (Nat.le_of_ble_eq_true rfl) dX10_figuresAt_14) (fun H locs hH => ?_)
    refine lv_bipush (v := 48) hx hb dX10_figuresAt_17 (by decide) ?_
    refine lv_icmp_lt (tgt := 41) hx hb dX10_figuresAt_19 (by decide) (fun c3 => ?_) (fun c3 => ?_)
    · replace h := if_t h c3
      refine lv_iload_n hx hb dX10_figuresAt_41 rfl (lv_at hl 1 rfl) ?_
      exact r_iret C0 hH (Option.some.inj h) rfl dX10_figuresAt_42
    · replace h := if_f h c3
      refine lv_aload_n hx hb dX10_figuresAt_22 rfl (lv_at hl 0 rfl) ?_
      refine lv_iload_n hx hb dX10_figuresAt_23 rfl (lv_at hl 2 rfl) ?_
      obtain ⟨r4, qr4, h⟩ := ob_s h
      refine go_i hH (va_run_V (As := [.int v3]) (rest := []) C0 hH lk_X10_19 (c_X10_at hAd k0 v3 hk0 σ qr4) (by decide) (ci := 10) hk0 (by decide) (cob_10 _ _ _) rfl rfl hl.1 rfl (Nat.le_of_ble_eq_true rfl) dX10_figuresAt_24) (fun H locs hH => ?_)
      refine lv_bipush (v := 57) hx hb dX10_figuresAt_27 (by decide) ?_
      refine lv_icmp_gt (tgt := 41) hx hb dX10_figuresAt_29 (by decide) (fun c5 => ?_) (fun c5 => ?_)
      · replace h := if_t h c5
        refine lv_iload_n hx hb dX10_figuresAt_41 rfl (lv_at hl 1 rfl) ?_
        exact r_iret C0 hH (Option.some.inj h) rfl dX10_figuresAt_42
      · replace h := if_f h c5
        refine lv_iinc (v := v2 + 1) (lv' := [(2, .int (v2 + 1)), (0, .ref (ea E k0)), (3, .int v3)]) hx hb dX10_figuresAt_32 hl (k := 1) rfl rfl (by decide) rfl (fun ls hl => ?_)
        refine lv_iinc (v := v3 + 1) (lv' := [(3, .int (v3 + 1)), (2, .int (v2 + 1)), (0, .ref (ea E k0))]) hx hb dX10_figuresAt_35 hl (k := 2) rfl rfl (by decide) rfl (fun ls hl => ?_)
        refine lv_goto (tgt := 4) hx hb dX10_figuresAt_38 (by decide) ?_
        exact hK4 k0 (v2 + 1) (v3 + 1) hk0 _ _ _ _ hH (lv_sub hl [2, 1, 0] rfl) h
set_option maxRecDepth 100000 in
set_option maxHeartbeats 4000000 in
theorem w_X10_figuresAt_l4 {r : Int32} (C0 : Cx E p m c cX10_figuresAt 4 s args RX10 meth (some .int))  (n : Nat) : ∀ (k0 : Nat) (v2 : Int32) (v3 : Int32) (hk0 : kd k0 = 10) (σ : Mem) (H : Heap) (locs : List Loc) (ls : Array Slot), Hs E s σ H locs → lv_has ls 4 [(0, .ref (ea E k0)), (2, .int v2), (3, .int v3)] → X10_figuresAt_l4 n k0 v2 v3 σ = some r → W p l e (rmD 1) s m args below meth c H locs 0 0 (MQ below (QiM E r σ) args s 0 0 (eA E)) (F0 m 4 ls []) := by
  induction n with
  | zero =>
    intro k0 v2 v3 hk0 σ H locs ls hH hl h
    cases h
  | succ n ih =>
    intro k0 v2 v3 hk0 σ H locs ls hH hl h
    exact w_X10_figuresAt_b4 C0 (X10_figuresAt_l4 n)  ih k0 v2 v3 hk0 hH hl h
set_option maxRecDepth 100000 in
set_option maxHeartbeats 4000000 in
theorem w_X10_figuresAt_b0 {r : Int32} (C0 : Cx E p m c cX10_figuresAt 4 s args RX10 meth (some .int))  (k0 : Nat) (v1 : Int32) (hk0 : kd k0 = 10) {σ : Mem} {H : Heap} {locs : List Loc} {ls : Array Slot} (hH : Hs E s σ H locs) (hl : lv_has ls 4 [(0, .ref (ea E k0)), (1, .int v1)]) (h : X10_figuresAt_b0 k0 v1 σ = some r) : W p l e (rmD 1) s m args below meth c H locs 0 0 (MQ below (QiM E r σ) args s 0 0 (eA E)) (F0 m 0 ls []) := by
  obtain ⟨⟨hx, hb, hml, hown, hts⟩, hr, hlocks, hF, hAd⟩ := id C0
  unfold X10_figuresAt_b0 at h
  refine lv_iconst (v := 0) hx hb dX10_figuresAt_0 (by decide) ?_
  refine lv_istore_n (lv' := [(2, .int 0), (0, .ref (ea E k0)), (1, .int v1)]) hx hb dX10_figuresAt_1 rfl hl (by decide) rfl (fun ls hl => ?_)
  refine lv_iload_n hx hb dX10_figuresAt_2 rfl (lv_at hl 2 rfl) ?_
  refine lv_istore_n (lv' := [(3, .int v1), (2, .int 0), (0, .ref (ea E k0)), (1, .int v1)]) hx hb dX10_figuresAt_3 rfl hl (by decide) rfl (fun ls hl => ?_)
  exact w_X10_figuresAt_l4 C0  FU k0 0 v1 hk0 _ _ _ _ hH (lv_sub hl [2, 1, 0] rfl) h
theorem c_X10_figuresAt {l : Launch} {E : EnvT} (hAd : Ad E) (k0 : Nat) (v1 : Int32) (hk0 : kd k0 = 10) (σ : Mem) {r : Int32} (h : X10_figuresAt k0 v1 σ = some r) : Met l yX10_figuresAt (wsM yX10_figuresAt cX10_figuresAt 4 (some .int)) (rmD 1) (PcM E [.ref (ea E k0), .int v1] σ) (QiM E r σ) 0 0 (eA E) :=
  Met.ofM (by decide) (Nat.le_of_ble_eq_true rfl) (fun p e s m below meth c ls C0 hH hl => w_X10_figuresAt_b0 C0 k0 v1 hk0 hH hl h) hAd
set_option maxRecDepth 100000 in
set_option maxHeartbeats 4000000 in
theorem w_X7_fails_b0 {r : Int32} {σ' : Mem} (C0 : Cx E p m c cX7_fails 2 s args RX7 meth (some .boolean))  (k0 : Nat) (v1 : Int32) (hk0 : kd k0 = 7) {σ : Mem} {H : Heap} {locs : List Loc} {ls : Array Slot} (hH : Hs E s σ H locs) (hl : lv_has ls 2 [(0, .ref (ea E k0)), (1, .int v1)]) (h : X7_fails_b0 k0 v1 σ = some (r, σ')) : W p l e (rmD 0) s m args below meth c H locs 0 0 (MQ below (QiM E r σ') args s 0 0 (eA E)) (F0 m 0 ls []) := by
  obtain ⟨⟨hx, hb, hml, hown, hts⟩, hr, hlocks, hF, hAd⟩ := id C0
  unfold X7_fails_b0 at h
  refine lv_aload_n hx hb dX7_fails_0 rfl (lv_at hl 0 rfl) ?_
  refine lv_iload_n hx hb dX7_fails_1 rfl (lv_at hl 1 rfl) ?_
  refine pf_X7_22 C0 hH hk0 dX7_fails_2 (fun H locs hH => ?_)
  refine lv_iconst (v := 0) hx hb dX7_fails_5 (by decide) ?_
  exact r_zret C0 rfl hH (pj1 h) (pj2 h) dX7_fails_6
theorem c_X7_fails {l : Launch} {E : EnvT} (hAd : Ad E) (k0 : Nat) (v1 : Int32) (hk0 : kd k0 = 7) (σ : Mem) {r : Int32} {σ' : Mem} (h : X7_fails k0 v1 σ = some (r, σ')) : Met l yX7_fails (wsM yX7_fails cX7_fails 2 (some .boolean)) (rmD 0) (PcM E [.ref (ea E k0), .int v1] σ) (QiM E r σ') 0 0 (eA E) :=
  Met.ofM (by decide) (Nat.le_of_ble_eq_true rfl) (fun p e s m below meth c ls C0 hH hl => w_X7_fails_b0 C0 k0 v1 hk0 hH hl h) hAd
set_option maxRecDepth 100000 in
set_option maxHeartbeats 4000000 in
theorem w_X7_readNumber_b19 {r : Int32} {σ' : Mem} (C0 : Cx E p m c cX7_readNumber 5 s args RX7 meth (some .int))  (k0 : Nat) (hk0 : kd k0 = 7) {σ : Mem} {H : Heap} {locs : List Loc} {ls : Array Slot} (hH : Hs E s σ H locs) (hl : lv_has ls 5 [(0, .ref (ea E k0))]) (h : X7_readNumber_b19 k0 σ = some (r, σ')) : W p l e (rmD 2) s m args below meth c H locs 0 0 (MQ below (QiM E r σ') args s 0 0 (eA E)) (F0 m 19 ls []) := by
  obtain ⟨⟨hx, hb, hml, hown, hts⟩, hr, hlocks, hF, hAd⟩ := id C0
  unfold X7_readNumber_b19 at h
  refine lv_aload_n hx hb dX7_readNumber_19 rfl (lv_at hl 0 rfl) ?_
  refine lv_iconst (v := 1) hx hb dX7_readNumber_20 (by decide) ?_
  obtain ⟨r1, σ2, qr1, h⟩ := ob2_s h
  refine go_i hH (va_run_V (As := [.int 1]) (rest := []) C0 hH lk_X7_61 (c_X7_fails hAd k0 1 hk0 σ qr1) (by decide) (ci := 7) hk0 (by decide) (cob_7 _ _ _) rfl rfl hl.1 rfl (Nat.le_of_ble_eq_true rfl) dX7_readNumber_21) (fun H locs hH => ?_)
  refine lv_pop hx hb dX7_readNumber_24 rfl ?_
  refine lv_ldc hx hb hown (hts _ qK_X7_60) dX7_readNumber_25 ?_
  exact r_iret C0 hH (pj1 h) (pj2 h) dX7_readNumber_27
set_option maxRecDepth 100000 in
set_option maxHeartbeats 4000000 in
theorem w_X7_readNumber_b67 {r : Int32} {σ' : Mem} (C0 : Cx E p m c cX7_readNumber 5 s args RX7 meth (some .int))  (k0 : Nat) (v2 : Int32) (v3 : Int32) (v4 : Int32) (hk0 : kd k0 = 7) {σ : Mem} {H : Heap} {locs : List Loc} {ls : Array Slot} (hH : Hs E s σ H locs) (hl : lv_has ls 5 [(0, .ref (ea E k0)), (2, .int v2), (3, .int v3), (4, .int v4)]) (h : X7_readNumber_b67 k0 v2 v3 v4 σ = some (r, σ')) : W p l e (rmD 2) s m args below meth c H locs 0 0 (MQ below (QiM E r σ') args s 0 0 (eA E)) (F0 m 67 ls []) := by
  obtain ⟨⟨hx, hb, hml, hown, hts⟩, hr, hlocks, hF, hAd⟩ := id C0
  unfold X7_readNumber_b67 at h
  refine lv_iload hx hb dX7_readNumber_67 (lv_at hl 3 rfl) ?_
  refine lv_iload_n hx hb dX7_readNumber_69 rfl (lv_at hl 1 rfl) ?_
  refine lv_icmp_le (tgt := 82) hx hb dX7_readNumber_70 (by decide) (fun c1 => ?_) (fun c1 => ?_)
  · replace h := if_t h c1
    refine lv_aload_n hx hb dX7_readNumber_82 rfl (lv_at hl 0 rfl) ?_
    refine lv_dup hx hb dX7_readNumber_83 rfl ?_
    refine gf_X7_18 C0 hH hk0 dX7_readNumber_84 ?_
    refine lv_iload_n hx hb dX7_readNumber_87 rfl (lv_at hl 2 rfl) ?_
    refine lv_iadd hx hb dX7_readNumber_88 ?_
    refine pf_X7_18 C0 hH hk0 dX7_readNumber_89 (fun H locs hH => ?_)
    refine lv_iload hx hb dX7_readNumber_92 (lv_at hl 3 rfl) ?_
    exact r_iret C0 hH (pj1 h) (pj2 h) dX7_readNumber_94
  · replace h := if_f h c1
    refine lv_aload_n hx hb dX7_readNumber_73 rfl (lv_at hl 0 rfl) ?_
    refine lv_iconst (v := 2) hx hb dX7_readNumber_74 (by decide) ?_
    obtain ⟨r2, σ3, qr2, h⟩ := ob2_s h
    refine go_i hH (va_run_V (As := [.int 2]) (rest := []) C0 hH lk_X7_61 (c_X7_fails hAd k0 2 hk0 σ qr2) (by decide) (ci := 7) hk0 (by decide) (cob_7 _ _ _) rfl rfl hl.1 rfl (Nat.le_of_ble_eq_true rfl) dX7_readNumber_75) (fun H locs hH => ?_)
    refine lv_pop hx hb dX7_readNumber_78 rfl ?_
    refine lv_ldc hx hb hown (hts _ qK_X7_60) dX7_readNumber_79 ?_
    exact r_iret C0 hH (pj1 h) (pj2 h) dX7_readNumber_81
set_option maxRecDepth 100000 in
set_option maxHeartbeats 4000000 in
theorem w_X7_readNumber_b0 {r : Int32} {σ' : Mem} (C0 : Cx E p m c cX7_readNumber 5 s args RX7 meth (some .int))  (k0 : Nat) (k1 : Nat) (v2 : Int32) (hk0 : kd k0 = 7) (hk1 : kd k1 = 10) {σ : Mem} {H : Heap} {locs : List Loc} {ls : Array Slot} (hH : Hs E s σ H locs) (hl : lv_has ls 5 [(0, .ref (ea E k0)), (1, .ref (ea E k1)), (2, .int v2)]) (h : X7_readNumber_b0 k0 k1 v2 σ = some (r, σ')) : W p l e (rmD 2) s m args below meth c H locs 0 0 (MQ below (QiM E r σ') args s 0 0 (eA E)) (F0 m 0 ls []) := by
  obtain ⟨⟨hx, hb, hml, hown, hts⟩, hr, hlocks, hF, hAd⟩ := id C0
  unfold X7_readNumber_b0 at h
  refine lv_aload_n hx hb dX7_readNumber_0 rfl (lv_at hl 1 rfl) ?_
  refine lv_aload_n hx hb dX7_readNumber_1 rfl (lv_at hl 0 rfl) ?_
  refine gf_X7_18 C0 hH hk0 dX7_readNumber_2 ?_
  obtain ⟨r1, qr1, h⟩ := ob_s h
  refine go_i hH (va_run_V (As := [.int (σ k0 1)]) (rest := []) C0 hH lk_X7_69 (c_X10_figuresAt hAd k1 (σ k0 1) hk1 σ qr1) (by decide) (ci := 10) hk1 (by decide) (cob_10 _ _ _) rfl rfl hl.1 rfl (Nat.le_of_ble_eq_true rfl) dX7_readNumber_5) (fun H locs hH => ?_)
  refine lv_istore_n (lv' := [(3, .int r1), (0, .ref (ea E k0)), (1, .ref (ea E k1)), (2, .int v2)]) hx hb dX7_readNumber_8 rfl hl (by decide) rfl (fun ls hl => ?_)
  refine lv_iload_n hx hb dX7_readNumber_9 rfl (lv_at hl 0 rfl) ?_
  refine lv_iconst (v := 1) hx hb dX7_readNumber_10 (by decide) ?_
  refine lv_icmp_lt (tgt := 19) hx hb dX7_readNumber_11 (by decide) (fun c2 => ?_) (fun c2 => ?_)
  · replace h := if_t h c2
    exact w_X7_readNumber_b19 C0  k0 hk0 hH (lv_sub hl [1] rfl) h
  · replace h := if_f h c2
    refine lv_iload_n hx hb dX7_readNumber_14 rfl (lv_at hl 0 rfl) ?_
    refine lv_iconst (v := 2) hx hb dX7_readNumber_15 (by decide) ?_
    refine lv_icmp_le (tgt := 28) hx hb dX7_readNumber_16 (by decide) (fun c3 => ?_) (fun c3 => ?_)
    · replace h := if_t h c3
      refine lv_aload_n hx hb dX7_readNumber_28 rfl (lv_at hl 2 rfl) ?_
      refine lv_aload_n hx hb dX7_readNumber_29 rfl (lv_at hl 1 rfl) ?_
      refine gf_X7_18 C0 hH hk0 dX7_readNumber_30 ?_
      obtain ⟨r4, qr4, h⟩ := ob_s h
      refine go_i hH (va_run_V (As := [.int (σ k0 1)]) (rest := []) C0 hH lk_X7_54 (c_X10_at hAd k1 (σ k0 1) hk1 σ qr4) (by decide) (ci := 10) hk1 (by decide) (cob_10 _ _ _) rfl rfl hl.1 rfl (Nat.le_of_ble_eq_true rfl) dX7_readNumber_33) (fun H locs hH => ?_)
      refine lv_bipush (v := 48) hx hb dX7_readNumber_36 (by decide) ?_
      refine lv_isub hx hb dX7_readNumber_38 ?_
      obtain ⟨x5, ex5, h⟩ := letv_s h
      refine topi_of ex5 ?_
      refine lv_istore (lv' := [(4, .int x5), (3, .int r1), (0, .ref (ea E k0)), (1, .ref (ea E k1)), (2, .int v2)]) hx hb dX7_readNumber_39 hl (by decide) rfl (fun ls hl => ?_)
      refine lv_iload_n hx hb dX7_readNumber_41 rfl (lv_at hl 1 rfl) ?_
      refine lv_iconst (v := 2) hx hb dX7_readNumber_42 (by decide) ?_
      refine lv_icmp_ne (tgt := 67) hx hb dX7_readNumber_43 (by decide) (fun c6 => ?_) (fun c6 => ?_)
      · replace h := if_f h c6
        exact w_X7_readNumber_b67 C0  k0 v2 r1 x5 hk0 hH (lv_sub hl [2, 4, 1, 0] rfl) h
      · replace h := if_t h c6
        refine lv_bipush (v := 10) hx hb dX7_readNumber_46 (by decide) ?_
        refine lv_iload hx hb dX7_readNumber_48 (lv_at hl 0 rfl) ?_
        refine lv_imul hx hb dX7_readNumber_50 ?_
        refine lv_aload_n hx hb dX7_readNumber_51 rfl (lv_at hl 3 rfl) ?_
        refine lv_aload_n hx hb dX7_readNumber_52 rfl (lv_at hl 2 rfl) ?_
        refine gf_X7_18 C0 hH hk0 dX7_readNumber_53 ?_
        refine lv_iconst (v := 1) hx hb dX7_readNumber_56 (by decide) ?_
        refine lv_iadd hx hb dX7_readNumber_57 ?_
        obtain ⟨r7, qr7, h⟩ := ob_s h
        refine go_i hH (va_run_V (As := [.int ((σ k0 1) + 1)]) (rest := [.int (10 * x5)]) C0 hH lk_X7_54 (c_X10_at hAd k1 ((σ k0 1) + 1) hk1 σ qr7) (by decide) (ci := 10) hk1 (by decide) (cob_10 _ _ _) rfl rfl hl.1 rfl (Nat.le_of_ble_eq_true rfl) dX7_readNumber_58) (fun H locs hH => ?_)
        refine lv_iadd hx hb dX7_readNumber_61 ?_
        refine lv_bipush (v := 48) hx hb dX7_readNumber_62 (by decide) ?_
        refine lv_isub hx hb dX7_readNumber_64 ?_
        obtain ⟨x8, ex8, h⟩ := letv_s h
        refine topi_of ex8 ?_
        refine lv_istore (lv' := [(4, .int x8), (3, .int r1), (0, .ref (ea E k0)), (1, .ref (ea E k1)), (2, .int v2)]) hx hb dX7_readNumber_65 hl (by decide) rfl (fun ls hl => ?_)
        exact w_X7_readNumber_b67 C0  k0 v2 r1 x8 hk0 hH (lv_sub hl [2, 4, 1, 0] rfl) h
    · replace h := if_f h c3
      exact w_X7_readNumber_b19 C0  k0 hk0 hH (lv_sub hl [1] rfl) h
theorem c_X7_readNumber {l : Launch} {E : EnvT} (hAd : Ad E) (k0 : Nat) (k1 : Nat) (v2 : Int32) (hk0 : kd k0 = 7) (hk1 : kd k1 = 10) (σ : Mem) {r : Int32} {σ' : Mem} (h : X7_readNumber k0 k1 v2 σ = some (r, σ')) : Met l yX7_readNumber (wsM yX7_readNumber cX7_readNumber 5 (some .int)) (rmD 2) (PcM E [.ref (ea E k0), .ref (ea E k1), .int v2] σ) (QiM E r σ') 0 0 (eA E) :=
  Met.ofM (by decide) (Nat.le_of_ble_eq_true rfl) (fun p e s m below meth c ls C0 hH hl => w_X7_readNumber_b0 C0 k0 k1 v2 hk0 hk1 hH hl h) hAd
set_option maxRecDepth 100000 in
set_option maxHeartbeats 4000000 in
theorem w_X7_readsByte_b0 {r : Int32} {σ' : Mem} (C0 : Cx E p m c cX7_readsByte 3 s args RX7 meth (some .boolean))  (k0 : Nat) (k1 : Nat) (v2 : Int32) (hk0 : kd k0 = 7) (hk1 : kd k1 = 10) {σ : Mem} {H : Heap} {locs : List Loc} {ls : Array Slot} (hH : Hs E s σ H locs) (hl : lv_has ls 3 [(0, .ref (ea E k0)), (1, .ref (ea E k1)), (2, .int v2)]) (h : X7_readsByte_b0 k0 k1 v2 σ = some (r, σ')) : W p l e (rmD 1) s m args below meth c H locs 0 0 (MQ below (QiM E r σ') args s 0 0 (eA E)) (F0 m 0 ls []) := by
  obtain ⟨⟨hx, hb, hml, hown, hts⟩, hr, hlocks, hF, hAd⟩ := id C0
  unfold X7_readsByte_b0 at h
  refine lv_aload_n hx hb dX7_readsByte_0 rfl (lv_at hl 1 rfl) ?_
  refine lv_aload_n hx hb dX7_readsByte_1 rfl (lv_at hl 0 rfl) ?_
  refine gf_X7_18 C0 hH hk0 dX7_readsByte_2 ?_
  obtain ⟨r1, qr1, h⟩ := ob_s h
  refine go_i hH (va_run_V (As := [.int (σ k0 1)]) (rest := []) C0 hH lk_X7_54 (c_X10_at hAd k1 (σ k0 1) hk1 σ qr1) (by decide) (ci := 10) hk1 (by decide) (cob_10 _ _ _) rfl rfl hl.1 rfl (Nat.le_of_ble_eq_true rfl) dX7_readsByte_5) (fun H locs hH => ?_)
  refine lv_iload_n hx hb dX7_readsByte_8 rfl (lv_at hl 2 rfl) ?_
  refine lv_icmp_eq (tgt := 18) hx hb dX7_readsByte_9 (by decide) (fun c2 => ?_) (fun c2 => ?_)
  · replace h := if_t h c2
    refine lv_aload_n hx hb dX7_readsByte_18 rfl (lv_at hl 0 rfl) ?_
    refine lv_dup hx hb dX7_readsByte_19 rfl ?_
    refine gf_X7_18 C0 hH hk0 dX7_readsByte_20 ?_
    refine lv_iconst (v := 1) hx hb dX7_readsByte_23 (by decide) ?_
    refine lv_iadd hx hb dX7_readsByte_24 ?_
    refine pf_X7_18 C0 hH hk0 dX7_readsByte_25 (fun H locs hH => ?_)
    refine lv_iconst (v := 1) hx hb dX7_readsByte_28 (by decide) ?_
    exact r_zret C0 rfl hH (pj1 h) (pj2 h) dX7_readsByte_29
  · replace h := if_f h c2
    refine lv_aload_n hx hb dX7_readsByte_12 rfl (lv_at hl 0 rfl) ?_
    refine lv_iconst (v := 1) hx hb dX7_readsByte_13 (by decide) ?_
    obtain ⟨r3, σ4, qr3, h⟩ := ob2_s h
    refine go_i hH (va_run_V (As := [.int 1]) (rest := []) C0 hH lk_X7_61 (c_X7_fails hAd k0 1 hk0 σ qr3) (by decide) (ci := 7) hk0 (by decide) (cob_7 _ _ _) rfl rfl hl.1 rfl (Nat.le_of_ble_eq_true rfl) dX7_readsByte_14) (fun H locs hH => ?_)
    obtain ⟨z5, h⟩ := gdb_s h
    exact r_zret C0 (bit_nar z5) hH (pj1 h) (pj2 h) dX7_readsByte_17
theorem c_X7_readsByte {l : Launch} {E : EnvT} (hAd : Ad E) (k0 : Nat) (k1 : Nat) (v2 : Int32) (hk0 : kd k0 = 7) (hk1 : kd k1 = 10) (σ : Mem) {r : Int32} {σ' : Mem} (h : X7_readsByte k0 k1 v2 σ = some (r, σ')) : Met l yX7_readsByte (wsM yX7_readsByte cX7_readsByte 3 (some .boolean)) (rmD 1) (PcM E [.ref (ea E k0), .ref (ea E k1), .int v2] σ) (QiM E r σ') 0 0 (eA E) :=
  Met.ofM (by decide) (Nat.le_of_ble_eq_true rfl) (fun p e s m below meth c ls C0 hH hl => w_X7_readsByte_b0 C0 k0 k1 v2 hk0 hk1 hH hl h) hAd
set_option maxRecDepth 100000 in
set_option maxHeartbeats 4000000 in
theorem w_X7_readsLaw_b0 {r : Int32} {σ' : Mem} (C0 : Cx E p m c cX7_readsLaw 2 s args RX7 meth (some .boolean))  (k0 : Nat) (k1 : Nat) (hk0 : kd k0 = 7) (hk1 : kd k1 = 10) {σ : Mem} {H : Heap} {locs : List Loc} {ls : Array Slot} (hH : Hs E s σ H locs) (hl : lv_has ls 2 [(0, .ref (ea E k0)), (1, .ref (ea E k1))]) (h : X7_readsLaw_b0 k0 k1 σ = some (r, σ')) : W p l e (rmD 3) s m args below meth c H locs 0 0 (MQ below (QiM E r σ') args s 0 0 (eA E)) (F0 m 0 ls []) := by
  obtain ⟨⟨hx, hb, hml, hown, hts⟩, hr, hlocks, hF, hAd⟩ := id C0
  unfold X7_readsLaw_b0 at h
  refine lv_aload_n hx hb dX7_readsLaw_0 rfl (lv_at hl 0 rfl) ?_
  refine lv_aload_n hx hb dX7_readsLaw_1 rfl (lv_at hl 1 rfl) ?_
  refine lv_bipush (v := 104) hx hb dX7_readsLaw_2 (by decide) ?_
  obtain ⟨r1, σ2, qr1, h⟩ := ob2_s h
  refine go_i hH (va_run_V (As := [.ref (ea E k1), .int 104]) (rest := []) C0 hH lk_X7_40 (c_X7_readsByte hAd k0 k1 104 hk0 hk1 σ qr1) (by decide) (ci := 7) hk0 (by decide) (cob_7 _ _ _) rfl rfl hl.1 rfl (Nat.le_of_ble_eq_true rfl) dX7_readsLaw_4) (fun H locs hH => ?_)
  refine lv_if_ne (tgt := 12) hx hb dX7_readsLaw_7 (by decide) (fun c3 => ?_) (fun c3 => ?_)
  · replace h := if_f h c3
    refine lv_aload_n hx hb dX7_readsLaw_12 rfl (lv_at hl 0 rfl) ?_
    refine gf_X7_12 C0 hH hk0 dX7_readsLaw_13 ?_
    refine lv_aload_n hx hb dX7_readsLaw_16 rfl (lv_at hl 0 rfl) ?_
    refine lv_aload_n hx hb dX7_readsLaw_17 rfl (lv_at hl 1 rfl) ?_
    refine lv_bipush (v := 60) hx hb dX7_readsLaw_18 (by decide) ?_
    obtain ⟨r4, σ5, qr4, h⟩ := ob2_s h
    refine go_i hH (va_run_V (As := [.ref (ea E k1), .int 60]) (rest := [.ref (ea E (k0 + 1))]) C0 hH lk_X7_44 (c_X7_readNumber hAd k0 k1 60 hk0 hk1 σ2 qr4) (by decide) (ci := 7) hk0 (by decide) (cob_7 _ _ _) rfl rfl hl.1 rfl (Nat.le_of_ble_eq_true rfl) dX7_readsLaw_20) (fun H locs hH => ?_)
    refine pf_X7_48 C0 hH (kf_7_0 hk0) dX7_readsLaw_23 (fun H locs hH => ?_)
    refine lv_aload_n hx hb dX7_readsLaw_26 rfl (lv_at hl 0 rfl) ?_
    refine gf_X7_12 C0 hH hk0 dX7_readsLaw_27 ?_
    obtain ⟨σ6, eσ6, h⟩ := letv_s h
    replace hH := hs_of eσ6 hH
    refine gf_X7_48 C0 hH (kf_7_0 hk0) dX7_readsLaw_30 ?_
    refine lv_if_lt (tgt := 46) hx hb dX7_readsLaw_33 (by decide) (fun c7 => ?_) (fun c7 => ?_)
    · replace h := if_t h c7
      refine lv_iconst (v := 0) hx hb dX7_readsLaw_46 (by decide) ?_
      exact r_zret C0 rfl hH (pj1 h) (pj2 h) dX7_readsLaw_47
    · replace h := if_f h c7
      refine lv_aload_n hx hb dX7_readsLaw_36 rfl (lv_at hl 0 rfl) ?_
      refine lv_aload_n hx hb dX7_readsLaw_37 rfl (lv_at hl 1 rfl) ?_
      refine lv_bipush (v := 44) hx hb dX7_readsLaw_38 (by decide) ?_
      obtain ⟨r8, σ9, qr8, h⟩ := ob2_s h
      refine go_i hH (va_run_V (As := [.ref (ea E k1), .int 44]) (rest := []) C0 hH lk_X7_40 (c_X7_readsByte hAd k0 k1 44 hk0 hk1 σ6 qr8) (by decide) (ci := 7) hk0 (by decide) (cob_7 _ _ _) rfl rfl hl.1 rfl (Nat.le_of_ble_eq_true rfl) dX7_readsLaw_40) (fun H locs hH => ?_)
      refine lv_if_ne (tgt := 48) hx hb dX7_readsLaw_43 (by decide) (fun c10 => ?_) (fun c10 => ?_)
      · replace h := if_f h c10
        refine lv_aload_n hx hb dX7_readsLaw_48 rfl (lv_at hl 0 rfl) ?_
        refine gf_X7_12 C0 hH hk0 dX7_readsLaw_49 ?_
        refine lv_aload_n hx hb dX7_readsLaw_52 rfl (lv_at hl 0 rfl) ?_
        refine lv_aload_n hx hb dX7_readsLaw_53 rfl (lv_at hl 1 rfl) ?_
        refine lv_bipush (v := 20) hx hb dX7_readsLaw_54 (by decide) ?_
        obtain ⟨r11, σ12, qr11, h⟩ := ob2_s h
        refine go_i hH (va_run_V (As := [.ref (ea E k1), .int 20]) (rest := [.ref (ea E (k0 + 1))]) C0 hH lk_X7_44 (c_X7_readNumber hAd k0 k1 20 hk0 hk1 σ9 qr11) (by decide) (ci := 7) hk0 (by decide) (cob_7 _ _ _) rfl rfl hl.1 rfl (Nat.le_of_ble_eq_true rfl) dX7_readsLaw_56) (fun H locs hH => ?_)
        refine pf_X7_51 C0 hH (kf_7_0 hk0) dX7_readsLaw_59 (fun H locs hH => ?_)
        refine lv_aload_n hx hb dX7_readsLaw_62 rfl (lv_at hl 0 rfl) ?_
        refine gf_X7_12 C0 hH hk0 dX7_readsLaw_63 ?_
        obtain ⟨σ13, eσ13, h⟩ := letv_s h
        replace hH := hs_of eσ13 hH
        refine gf_X7_51 C0 hH (kf_7_0 hk0) dX7_readsLaw_66 ?_
        refine lv_if_lt (tgt := 86) hx hb dX7_readsLaw_69 (by decide) (fun c14 => ?_) (fun c14 => ?_)
        · replace h := if_t h c14
          refine lv_iconst (v := 0) hx hb dX7_readsLaw_86 (by decide) ?_
          exact r_zret C0 rfl hH (pj1 h) (pj2 h) dX7_readsLaw_87
        · replace h := if_f h c14
          refine lv_aload_n hx hb dX7_readsLaw_72 rfl (lv_at hl 0 rfl) ?_
          refine lv_aload_n hx hb dX7_readsLaw_73 rfl (lv_at hl 1 rfl) ?_
          refine lv_bipush (v := 59) hx hb dX7_readsLaw_74 (by decide) ?_
          obtain ⟨r15, σ16, qr15, h⟩ := ob2_s h
          refine go_i hH (va_run_V (As := [.ref (ea E k1), .int 59]) (rest := []) C0 hH lk_X7_40 (c_X7_readsByte hAd k0 k1 59 hk0 hk1 σ13 qr15) (by decide) (ci := 7) hk0 (by decide) (cob_7 _ _ _) rfl rfl hl.1 rfl (Nat.le_of_ble_eq_true rfl) dX7_readsLaw_76) (fun H locs hH => ?_)
          refine lv_if_eq (tgt := 86) hx hb dX7_readsLaw_79 (by decide) (fun c17 => ?_) (fun c17 => ?_)
          · replace h := if_t h c17
            refine lv_iconst (v := 0) hx hb dX7_readsLaw_86 (by decide) ?_
            exact r_zret C0 rfl hH (pj1 h) (pj2 h) dX7_readsLaw_87
          · replace h := if_f h c17
            refine lv_iconst (v := 1) hx hb dX7_readsLaw_82 (by decide) ?_
            refine lv_goto (tgt := 87) hx hb dX7_readsLaw_83 (by decide) ?_
            exact r_zret C0 rfl hH (pj1 h) (pj2 h) dX7_readsLaw_87
      · replace h := if_t h c10
        refine lv_iconst (v := 0) hx hb dX7_readsLaw_46 (by decide) ?_
        exact r_zret C0 rfl hH (pj1 h) (pj2 h) dX7_readsLaw_47
  · replace h := if_t h c3
    refine lv_iconst (v := 0) hx hb dX7_readsLaw_10 (by decide) ?_
    exact r_zret C0 rfl hH (pj1 h) (pj2 h) dX7_readsLaw_11
theorem c_X7_readsLaw {l : Launch} {E : EnvT} (hAd : Ad E) (k0 : Nat) (k1 : Nat) (hk0 : kd k0 = 7) (hk1 : kd k1 = 10) (σ : Mem) {r : Int32} {σ' : Mem} (h : X7_readsLaw k0 k1 σ = some (r, σ')) : Met l yX7_readsLaw (wsM yX7_readsLaw cX7_readsLaw 2 (some .boolean)) (rmD 3) (PcM E [.ref (ea E k0), .ref (ea E k1)] σ) (QiM E r σ') 0 0 (eA E) :=
  Met.ofM (by decide) (Nat.le_of_ble_eq_true rfl) (fun p e s m below meth c ls C0 hH hl => w_X7_readsLaw_b0 C0 k0 k1 hk0 hk1 hH hl h) hAd
set_option maxRecDepth 100000 in
set_option maxHeartbeats 4000000 in
theorem w_X7_kindOfLetter_b0 {r : Int32} (C0 : Cx E p m c cX7_kindOfLetter 1 s args RX7 meth (some .int))  (v0 : Int32)  {σ : Mem} {H : Heap} {locs : List Loc} {ls : Array Slot} (hH : Hs E s σ H locs) (hl : lv_has ls 1 [(0, .int v0)]) (h : X7_kindOfLetter_b0 v0 = r) : W p l e (rmD 0) s m args below meth c H locs 0 0 (MQ below (QiM E r σ) args s 0 0 (eA E)) (F0 m 0 ls []) := by
  obtain ⟨⟨hx, hb, hml, hown, hts⟩, hr, hlocks, hF, hAd⟩ := id C0
  unfold X7_kindOfLetter_b0 at h
  refine lv_iload_n hx hb dX7_kindOfLetter_0 rfl (lv_at hl 0 rfl) ?_
  by_cases c1 : v0 = 99
  · replace h := if_t h c1
    refine lv_lookup (off := 57) (tgt := 58) hx hb dX7_kindOfLetter_1 (by decide) (by rw [c1]; rfl) (by decide) ?_
    refine lv_iconst (v := 4) hx hb dX7_kindOfLetter_58 (by decide) ?_
    exact r_iret C0 hH h rfl dX7_kindOfLetter_59
  · replace h := if_f h c1
    by_cases c2 : v0 = 102
    · replace h := if_t h c2
      refine lv_lookup (off := 53) (tgt := 54) hx hb dX7_kindOfLetter_1 (by decide) (by rw [c2]; rfl) (by decide) ?_
      refine lv_iconst (v := 2) hx hb dX7_kindOfLetter_54 (by decide) ?_
      exact r_iret C0 hH h rfl dX7_kindOfLetter_55
    · replace h := if_f h c2
      by_cases c3 : v0 = 103
      · replace h := if_t h c3
        refine lv_lookup (off := 59) (tgt := 60) hx hb dX7_kindOfLetter_1 (by decide) (by rw [c3]; rfl) (by decide) ?_
        refine lv_iconst (v := 5) hx hb dX7_kindOfLetter_60 (by decide) ?_
        exact r_iret C0 hH h rfl dX7_kindOfLetter_61
      · replace h := if_f h c3
        by_cases c4 : v0 = 112
        · replace h := if_t h c4
          refine lv_lookup (off := 51) (tgt := 52) hx hb dX7_kindOfLetter_1 (by decide) (by rw [c4]; rfl) (by decide) ?_
          refine lv_iconst (v := 1) hx hb dX7_kindOfLetter_52 (by decide) ?_
          exact r_iret C0 hH h rfl dX7_kindOfLetter_53
        · replace h := if_f h c4
          by_cases c5 : v0 = 114
          · replace h := if_t h c5
            refine lv_lookup (off := 55) (tgt := 56) hx hb dX7_kindOfLetter_1 (by decide) (by rw [c5]; rfl) (by decide) ?_
            refine lv_iconst (v := 3) hx hb dX7_kindOfLetter_56 (by decide) ?_
            exact r_iret C0 hH h rfl dX7_kindOfLetter_57
          · replace h := if_f h c5
            refine lv_lookup (off := 61) (tgt := 62) hx hb dX7_kindOfLetter_1 (by decide) (by have := i32_nv (v := 99) c1 (by decide); have := i32_nv (v := 102) c2 (by decide); have := i32_nv (v := 103) c3 (by decide); have := i32_nv (v := 112) c4 (by decide); have := i32_nv (v := 114) c5 (by decide); simp [Op.lookupswitch.offset]; repeat rw [if_neg (by omega)]) (by decide) ?_
            refine lv_ldc hx hb hown (hts _ qK_X7_60) dX7_kindOfLetter_62 ?_
            exact r_iret C0 hH h rfl dX7_kindOfLetter_64
theorem c_X7_kindOfLetter {l : Launch} {E : EnvT} (hAd : Ad E) (v0 : Int32)  (σ : Mem) {r : Int32} (h : X7_kindOfLetter v0 = r) : Met l yX7_kindOfLetter (wsM yX7_kindOfLetter cX7_kindOfLetter 1 (some .int)) (rmD 0) (PcM E [.int v0] σ) (QiM E r σ) 0 0 (eA E) :=
  Met.ofM (by decide) (Nat.le_of_ble_eq_true rfl) (fun p e s m below meth c ls C0 hH hl => w_X7_kindOfLetter_b0 C0 v0  hH hl h) hAd
set_option maxRecDepth 100000 in
set_option maxHeartbeats 4000000 in
theorem w_X7_readsPage_b0 {r : Int32} {σ' : Mem} (C0 : Cx E p m c cX7_readsPage 6 s args RX7 meth (some .boolean))  (k0 : Nat) (k1 : Nat) (hk0 : kd k0 = 7) (hk1 : kd k1 = 10) {σ : Mem} {H : Heap} {locs : List Loc} {ls : Array Slot} (hH : Hs E s σ H locs) (hl : lv_has ls 6 [(0, .ref (ea E k0)), (1, .ref (ea E k1))]) (h : X7_readsPage_b0 k0 k1 σ = some (r, σ')) : W p l e (rmD 3) s m args below meth c H locs 0 0 (MQ below (QiM E r σ') args s 0 0 (eA E)) (F0 m 0 ls []) := by
  obtain ⟨⟨hx, hb, hml, hown, hts⟩, hr, hlocks, hF, hAd⟩ := id C0
  unfold X7_readsPage_b0 at h
  refine lv_aload_n hx hb dX7_readsPage_0 rfl (lv_at hl 1 rfl) ?_
  refine lv_aload_n hx hb dX7_readsPage_1 rfl (lv_at hl 0 rfl) ?_
  refine gf_X7_18 C0 hH hk0 dX7_readsPage_2 ?_
  obtain ⟨r1, qr1, h⟩ := ob_s h
  refine go_i hH (va_run_V (As := [.int (σ k0 1)]) (rest := []) C0 hH lk_X7_54 (c_X10_at hAd k1 (σ k0 1) hk1 σ qr1) (by decide) (ci := 10) hk1 (by decide) (cob_10 _ _ _) rfl rfl hl.1 rfl (Nat.le_of_ble_eq_true rfl) dX7_readsPage_5) (fun H locs hH => ?_)
  refine go_i hH (va_run_S (As := [.int r1]) (rest := []) C0 hH lk_X7_57 (c_X7_kindOfLetter hAd r1  σ rfl) (by decide) rfl hl.1 rfl (Nat.le_of_ble_eq_true rfl) dX7_readsPage_8) (fun H locs hH => ?_)
  obtain ⟨x2, ex2, h⟩ := letv_s h
  refine topi_of ex2 ?_
  refine lv_istore_n (lv' := [(2, .int x2), (0, .ref (ea E k0)), (1, .ref (ea E k1))]) hx hb dX7_readsPage_11 rfl hl (by decide) rfl (fun ls hl => ?_)
  refine lv_iload_n hx hb dX7_readsPage_12 rfl (lv_at hl 0 rfl) ?_
  refine lv_ldc hx hb hown (hts _ qK_X7_60) dX7_readsPage_13 ?_
  refine lv_icmp_ne (tgt := 24) hx hb dX7_readsPage_15 (by decide) (fun c3 => ?_) (fun c3 => ?_)
  · replace h := if_f h c3
    refine lv_aload_n hx hb dX7_readsPage_24 rfl (lv_at hl 1 rfl) ?_
    refine gf_X7_12 C0 hH hk0 dX7_readsPage_25 ?_
    refine gf_X7_25 C0 hH (kf_7_0 hk0) dX7_readsPage_28 ?_
    refine lv_bipush (v := 10) hx hb dX7_readsPage_31 (by decide) ?_
    refine lv_icmp_lt (tgt := 42) hx hb dX7_readsPage_33 (by decide) (fun c4 => ?_) (fun c4 => ?_)
    · replace h := if_t h c4
      refine lv_aload_n hx hb dX7_readsPage_42 rfl (lv_at hl 1 rfl) ?_
      refine lv_dup hx hb dX7_readsPage_43 rfl ?_
      refine gf_X7_18 C0 hH hk0 dX7_readsPage_44 ?_
      refine lv_iconst (v := 1) hx hb dX7_readsPage_47 (by decide) ?_
      refine lv_iadd hx hb dX7_readsPage_48 ?_
      refine pf_X7_18 C0 hH hk0 dX7_readsPage_49 (fun H locs hH => ?_)
      refine lv_aload_n hx hb dX7_readsPage_52 rfl (lv_at hl 1 rfl) ?_
      refine lv_aload_n hx hb dX7_readsPage_53 rfl (lv_at hl 2 rfl) ?_
      refine lv_bipush (v := 30) hx hb dX7_readsPage_54 (by decide) ?_
      obtain ⟨r5, σ6, qr5, h⟩ := ob2_s h
      refine go_i hH (va_run_V (As := [.ref (ea E k1), .int 30]) (rest := []) C0 hH lk_X7_44 (c_X7_readNumber hAd k0 k1 30 hk0 hk1 (wr σ k0 1 ((σ k0 1) + 1)) qr5) (by decide) (ci := 7) hk0 (by decide) (cob_7 _ _ _) rfl rfl hl.1 rfl (Nat.le_of_ble_eq_true rfl) dX7_readsPage_56) (fun H locs hH => ?_)
      refine lv_istore_n (lv' := [(3, .int r5), (2, .int x2), (0, .ref (ea E k0)), (1, .ref (ea E k1))]) hx hb dX7_readsPage_59 rfl hl (by decide) rfl (fun ls hl => ?_)
      refine lv_iload_n hx hb dX7_readsPage_60 rfl (lv_at hl 0 rfl) ?_
      refine lv_if_lt (tgt := 74) hx hb dX7_readsPage_61 (by decide) (fun c7 => ?_) (fun c7 => ?_)
      · replace h := if_t h c7
        refine lv_iconst (v := 0) hx hb dX7_readsPage_74 (by decide) ?_
        exact r_zret C0 rfl hH (pj1 h) (pj2 h) dX7_readsPage_75
      · replace h := if_f h c7
        refine lv_aload_n hx hb dX7_readsPage_64 rfl (lv_at hl 2 rfl) ?_
        refine lv_aload_n hx hb dX7_readsPage_65 rfl (lv_at hl 3 rfl) ?_
        refine lv_bipush (v := 44) hx hb dX7_readsPage_66 (by decide) ?_
        obtain ⟨r8, σ9, qr8, h⟩ := ob2_s h
        refine go_i hH (va_run_V (As := [.ref (ea E k1), .int 44]) (rest := []) C0 hH lk_X7_40 (c_X7_readsByte hAd k0 k1 44 hk0 hk1 σ6 qr8) (by decide) (ci := 7) hk0 (by decide) (cob_7 _ _ _) rfl rfl hl.1 rfl (Nat.le_of_ble_eq_true rfl) dX7_readsPage_68) (fun H locs hH => ?_)
        refine lv_if_ne (tgt := 76) hx hb dX7_readsPage_71 (by decide) (fun c10 => ?_) (fun c10 => ?_)
        · replace h := if_f h c10
          refine lv_aload_n hx hb dX7_readsPage_76 rfl (lv_at hl 2 rfl) ?_
          refine lv_aload_n hx hb dX7_readsPage_77 rfl (lv_at hl 3 rfl) ?_
          refine lv_bipush (v := 30) hx hb dX7_readsPage_78 (by decide) ?_
          obtain ⟨r11, σ12, qr11, h⟩ := ob2_s h
          refine go_i hH (va_run_V (As := [.ref (ea E k1), .int 30]) (rest := []) C0 hH lk_X7_44 (c_X7_readNumber hAd k0 k1 30 hk0 hk1 σ9 qr11) (by decide) (ci := 7) hk0 (by decide) (cob_7 _ _ _) rfl rfl hl.1 rfl (Nat.le_of_ble_eq_true rfl) dX7_readsPage_80) (fun H locs hH => ?_)
          refine lv_istore (lv' := [(4, .int r11), (3, .int r5), (2, .int x2), (0, .ref (ea E k0)), (1, .ref (ea E k1))]) hx hb dX7_readsPage_83 hl (by decide) rfl (fun ls hl => ?_)
          refine lv_iload hx hb dX7_readsPage_85 (lv_at hl 0 rfl) ?_
          refine lv_if_lt (tgt := 100) hx hb dX7_readsPage_87 (by decide) (fun c13 => ?_) (fun c13 => ?_)
          · replace h := if_t h c13
            refine lv_iconst (v := 0) hx hb dX7_readsPage_100 (by decide) ?_
            exact r_zret C0 rfl hH (pj1 h) (pj2 h) dX7_readsPage_101
          · replace h := if_f h c13
            refine lv_aload_n hx hb dX7_readsPage_90 rfl (lv_at hl 3 rfl) ?_
            refine lv_aload_n hx hb dX7_readsPage_91 rfl (lv_at hl 4 rfl) ?_
            refine lv_bipush (v := 44) hx hb dX7_readsPage_92 (by decide) ?_
            obtain ⟨r14, σ15, qr14, h⟩ := ob2_s h
            refine go_i hH (va_run_V (As := [.ref (ea E k1), .int 44]) (rest := []) C0 hH lk_X7_40 (c_X7_readsByte hAd k0 k1 44 hk0 hk1 σ12 qr14) (by decide) (ci := 7) hk0 (by decide) (cob_7 _ _ _) rfl rfl hl.1 rfl (Nat.le_of_ble_eq_true rfl) dX7_readsPage_94) (fun H locs hH => ?_)
            refine lv_if_ne (tgt := 102) hx hb dX7_readsPage_97 (by decide) (fun c16 => ?_) (fun c16 => ?_)
            · replace h := if_f h c16
              refine lv_aload_n hx hb dX7_readsPage_102 rfl (lv_at hl 3 rfl) ?_
              refine lv_aload_n hx hb dX7_readsPage_103 rfl (lv_at hl 4 rfl) ?_
              refine lv_bipush (v := 30) hx hb dX7_readsPage_104 (by decide) ?_
              obtain ⟨r17, σ18, qr17, h⟩ := ob2_s h
              refine go_i hH (va_run_V (As := [.ref (ea E k1), .int 30]) (rest := []) C0 hH lk_X7_44 (c_X7_readNumber hAd k0 k1 30 hk0 hk1 σ15 qr17) (by decide) (ci := 7) hk0 (by decide) (cob_7 _ _ _) rfl rfl hl.1 rfl (Nat.le_of_ble_eq_true rfl) dX7_readsPage_106) (fun H locs hH => ?_)
              refine lv_istore (lv' := [(5, .int r17), (4, .int r11), (3, .int r5), (2, .int x2), (0, .ref (ea E k0)), (1, .ref (ea E k1))]) hx hb dX7_readsPage_109 hl (by decide) rfl (fun ls hl => ?_)
              refine lv_iload hx hb dX7_readsPage_111 (lv_at hl 0 rfl) ?_
              refine lv_if_lt (tgt := 126) hx hb dX7_readsPage_113 (by decide) (fun c19 => ?_) (fun c19 => ?_)
              · replace h := if_t h c19
                refine lv_iconst (v := 0) hx hb dX7_readsPage_126 (by decide) ?_
                exact r_zret C0 rfl hH (pj1 h) (pj2 h) dX7_readsPage_127
              · replace h := if_f h c19
                refine lv_aload_n hx hb dX7_readsPage_116 rfl (lv_at hl 4 rfl) ?_
                refine lv_aload_n hx hb dX7_readsPage_117 rfl (lv_at hl 5 rfl) ?_
                refine lv_bipush (v := 59) hx hb dX7_readsPage_118 (by decide) ?_
                obtain ⟨r20, σ21, qr20, h⟩ := ob2_s h
                refine go_i hH (va_run_V (As := [.ref (ea E k1), .int 59]) (rest := []) C0 hH lk_X7_40 (c_X7_readsByte hAd k0 k1 59 hk0 hk1 σ18 qr20) (by decide) (ci := 7) hk0 (by decide) (cob_7 _ _ _) rfl rfl hl.1 rfl (Nat.le_of_ble_eq_true rfl) dX7_readsPage_120) (fun H locs hH => ?_)
                refine lv_if_ne (tgt := 128) hx hb dX7_readsPage_123 (by decide) (fun c22 => ?_) (fun c22 => ?_)
                · replace h := if_f h c22
                  refine lv_aload_n hx hb dX7_readsPage_128 rfl (lv_at hl 4 rfl) ?_
                  refine gf_X7_12 C0 hH hk0 dX7_readsPage_129 ?_
                  refine lv_aload_n hx hb dX7_readsPage_132 rfl (lv_at hl 4 rfl) ?_
                  refine gf_X7_12 C0 hH hk0 dX7_readsPage_133 ?_
                  refine gf_X7_25 C0 hH (kf_7_0 hk0) dX7_readsPage_136 ?_
                  refine lv_iload_n hx hb dX7_readsPage_139 rfl (lv_at hl 3 rfl) ?_
                  refine lv_iload_n hx hb dX7_readsPage_140 rfl (lv_at hl 2 rfl) ?_
                  refine lv_iload hx hb dX7_readsPage_141 (lv_at hl 1 rfl) ?_
                  refine lv_iload hx hb dX7_readsPage_143 (lv_at hl 0 rfl) ?_
                  obtain ⟨σ23, qσ23, h⟩ := ob_s h
                  refine go_v hH (va_run_V (As := [.int (σ21 (k0 + 1) 0), .int x2, .int r5, .int r11, .int r17]) (rest := []) C0 hH lk_X7_65 (c_X2_insert hAd (k0 + 1) (σ21 (k0 + 1) 0) x2 r5 r11 r17 (kf_7_0 hk0) σ21 qσ23) (by decide) (ci := 2) (kf_7_0 hk0) (by decide) (cob_2 _ _ _) rfl rfl hl.1 rfl (Nat.le_of_ble_eq_true rfl) dX7_readsPage_145) (fun H locs hH => ?_)
                  refine lv_iconst (v := 1) hx hb dX7_readsPage_148 (by decide) ?_
                  exact r_zret C0 rfl hH (pj1 h) (pj2 h) dX7_readsPage_149
                · replace h := if_t h c22
                  refine lv_iconst (v := 0) hx hb dX7_readsPage_126 (by decide) ?_
                  exact r_zret C0 rfl hH (pj1 h) (pj2 h) dX7_readsPage_127
            · replace h := if_t h c16
              refine lv_iconst (v := 0) hx hb dX7_readsPage_100 (by decide) ?_
              exact r_zret C0 rfl hH (pj1 h) (pj2 h) dX7_readsPage_101
        · replace h := if_t h c10
          refine lv_iconst (v := 0) hx hb dX7_readsPage_74 (by decide) ?_
          exact r_zret C0 rfl hH (pj1 h) (pj2 h) dX7_readsPage_75
    · replace h := if_f h c4
      refine lv_aload_n hx hb dX7_readsPage_36 rfl (lv_at hl 1 rfl) ?_
      refine lv_iconst (v := 3) hx hb dX7_readsPage_37 (by decide) ?_
      obtain ⟨r24, σ25, qr24, h⟩ := ob2_s h
      refine go_i hH (va_run_V (As := [.int 3]) (rest := []) C0 hH lk_X7_61 (c_X7_fails hAd k0 3 hk0 σ qr24) (by decide) (ci := 7) hk0 (by decide) (cob_7 _ _ _) rfl rfl hl.1 rfl (Nat.le_of_ble_eq_true rfl) dX7_readsPage_38) (fun H locs hH => ?_)
      obtain ⟨z26, h⟩ := gdb_s h
      exact r_zret C0 (bit_nar z26) hH (pj1 h) (pj2 h) dX7_readsPage_41
  · replace h := if_t h c3
    refine lv_aload_n hx hb dX7_readsPage_18 rfl (lv_at hl 1 rfl) ?_
    refine lv_iconst (v := 1) hx hb dX7_readsPage_19 (by decide) ?_
    obtain ⟨r27, σ28, qr27, h⟩ := ob2_s h
    refine go_i hH (va_run_V (As := [.int 1]) (rest := []) C0 hH lk_X7_61 (c_X7_fails hAd k0 1 hk0 σ qr27) (by decide) (ci := 7) hk0 (by decide) (cob_7 _ _ _) rfl rfl hl.1 rfl (Nat.le_of_ble_eq_true rfl) dX7_readsPage_20) (fun H locs hH => ?_)
    obtain ⟨z29, h⟩ := gdb_s h
    exact r_zret C0 (bit_nar z29) hH (pj1 h) (pj2 h) dX7_readsPage_23
theorem c_X7_readsPage {l : Launch} {E : EnvT} (hAd : Ad E) (k0 : Nat) (k1 : Nat) (hk0 : kd k0 = 7) (hk1 : kd k1 = 10) (σ : Mem) {r : Int32} {σ' : Mem} (h : X7_readsPage k0 k1 σ = some (r, σ')) : Met l yX7_readsPage (wsM yX7_readsPage cX7_readsPage 6 (some .boolean)) (rmD 3) (PcM E [.ref (ea E k0), .ref (ea E k1)] σ) (QiM E r σ') 0 0 (eA E) :=
  Met.ofM (by decide) (Nat.le_of_ble_eq_true rfl) (fun p e s m below meth c ls C0 hH hl => w_X7_readsPage_b0 C0 k0 k1 hk0 hk1 hH hl h) hAd
set_option maxRecDepth 100000 in
set_option maxHeartbeats 4000000 in
theorem w_X7_reads_b48 {r : Int32} {σ' : Mem} (C0 : Cx E p m c cX7_reads 3 s args RX7 meth (some .boolean)) (K25 : Nat → Nat → Int32 → Mem → Option (Int32 × Mem)) (hK25 : ∀ (k0 : Nat) (k1 : Nat) (v2 : Int32) (hk0 : kd k0 = 7) (hk1 : kd k1 = 10) (σ : Mem) (H : Heap) (locs : List Loc) (ls : Array Slot), Hs E s σ H locs → lv_has ls 3 [(0, .ref (ea E k0)), (1, .ref (ea E k1)), (2, .int v2)] → K25 k0 k1 v2 σ = some (r, σ') → W p l e (rmD 4) s m args below meth c H locs 0 0 (MQ below (QiM E r σ') args s 0 0 (eA E)) (F0 m 25 ls []))  (k0 : Nat) (k1 : Nat) (v2 : Int32) (hk0 : kd k0 = 7) (hk1 : kd k1 = 10) {σ : Mem} {H : Heap} {locs : List Loc} {ls : Array Slot} (hH : Hs E s σ H locs) (hl : lv_has ls 3 [(0, .ref (ea E k0)), (1, .ref (ea E k1)), (2, .int v2)]) (h : X7_reads_b48 K25 k0 k1 v2 σ = some (r, σ')) : W p l e (rmD 4) s m args below meth c H locs 0 0 (MQ below (QiM E r σ') args s 0 0 (eA E)) (F0 m 48 ls []) := by
  obtain ⟨⟨hx, hb, hml, hown, hts⟩, hr, hlocks, hF, hAd⟩ := id C0
  unfold X7_reads_b48 at h
  refine lv_aload_n hx hb dX7_reads_48 rfl (lv_at hl 0 rfl) ?_
  refine lv_aload_n hx hb dX7_reads_49 rfl (lv_at hl 1 rfl) ?_
  obtain ⟨r1, σ2, qr1, h⟩ := ob2_s h
  refine go_i hH (va_run_V (As := [.ref (ea E k1)]) (rest := []) C0 hH lk_X7_37 (c_X7_readsPage hAd k0 k1 hk0 hk1 σ qr1) (by decide) (ci := 7) hk0 (by decide) (cob_7 _ _ _) rfl rfl hl.1 rfl (Nat.le_of_ble_eq_true rfl) dX7_reads_50) (fun H locs hH => ?_)
  refine lv_if_ne (tgt := 58) hx hb dX7_reads_53 (by decide) (fun c3 => ?_) (fun c3 => ?_)
  · replace h := if_f h c3
    refine lv_iinc (v := v2 + 1) (lv' := [(2, .int (v2 + 1)), (0, .ref (ea E k0)), (1, .ref (ea E k1))]) hx hb dX7_reads_58 hl (k := 2) rfl rfl (by decide) rfl (fun ls hl => ?_)
    refine lv_goto (tgt := 25) hx hb dX7_reads_61 (by decide) ?_
    exact hK25 k0 k1 (v2 + 1) hk0 hk1 _ _ _ _ hH (lv_sub hl [1, 2, 0] rfl) h
  · replace h := if_t h c3
    refine lv_iconst (v := 0) hx hb dX7_reads_56 (by decide) ?_
    exact r_zret C0 rfl hH (pj1 h) (pj2 h) dX7_reads_57
set_option maxRecDepth 100000 in
set_option maxHeartbeats 4000000 in
theorem w_X7_reads_b25 {r : Int32} {σ' : Mem} (C0 : Cx E p m c cX7_reads 3 s args RX7 meth (some .boolean)) (K25 : Nat → Nat → Int32 → Mem → Option (Int32 × Mem)) (hK25 : ∀ (k0 : Nat) (k1 : Nat) (v2 : Int32) (hk0 : kd k0 = 7) (hk1 : kd k1 = 10) (σ : Mem) (H : Heap) (locs : List Loc) (ls : Array Slot), Hs E s σ H locs → lv_has ls 3 [(0, .ref (ea E k0)), (1, .ref (ea E k1)), (2, .int v2)] → K25 k0 k1 v2 σ = some (r, σ') → W p l e (rmD 4) s m args below meth c H locs 0 0 (MQ below (QiM E r σ') args s 0 0 (eA E)) (F0 m 25 ls []))  (k0 : Nat) (k1 : Nat) (v2 : Int32) (hk0 : kd k0 = 7) (hk1 : kd k1 = 10) {σ : Mem} {H : Heap} {locs : List Loc} {ls : Array Slot} (hH : Hs E s σ H locs) (hl : lv_has ls 3 [(0, .ref (ea E k0)), (1, .ref (ea E k1)), (2, .int v2)]) (h : X7_reads_b25 K25 k0 k1 v2 σ = some (r, σ')) : W p l e (rmD 4) s m args below meth c H locs 0 0 (MQ below (QiM E r σ') args s 0 0 (eA E)) (F0 m 25 ls []) := by
  obtain ⟨⟨hx, hb, hml, hown, hts⟩, hr, hlocks, hF, hAd⟩ := id C0
  unfold X7_reads_b25 at h
  refine lv_iload_n hx hb dX7_reads_25 rfl (lv_at hl 2 rfl) ?_
  refine lv_bipush (v := 10) hx hb dX7_reads_26 (by decide) ?_
  refine lv_icmp_gt (tgt := 64) hx hb dX7_reads_28 (by decide) (fun c1 => ?_) (fun c1 => ?_)
  · replace h := if_t h c1
    refine lv_iconst (v := 0) hx hb dX7_reads_64 (by decide) ?_
    exact r_zret C0 rfl hH (pj1 h) (pj2 h) dX7_reads_65
  · replace h := if_f h c1
    refine lv_iload_n hx hb dX7_reads_31 rfl (lv_at hl 2 rfl) ?_
    refine lv_if_le (tgt := 48) hx hb dX7_reads_32 (by decide) (fun c2 => ?_) (fun c2 => ?_)
    · replace h := if_t h c2
      exact w_X7_reads_b48 C0 K25 hK25 k0 k1 v2 hk0 hk1 hH (lv_sub hl [0, 1, 2] rfl) h
    · replace h := if_f h c2
      refine lv_aload_n hx hb dX7_reads_35 rfl (lv_at hl 0 rfl) ?_
      refine gf_X7_18 C0 hH hk0 dX7_reads_36 ?_
      refine lv_aload_n hx hb dX7_reads_39 rfl (lv_at hl 1 rfl) ?_
      refine gf_X7_32 C0 hH hk1 dX7_reads_40 ?_
      refine lv_icmp_ne (tgt := 48) hx hb dX7_reads_43 (by decide) (fun c3 => ?_) (fun c3 => ?_)
      · replace h := if_f h c3
        exact w_X7_reads_b48 C0 K25 hK25 k0 k1 v2 hk0 hk1 hH (lv_sub hl [0, 1, 2] rfl) h
      · replace h := if_t h c3
        refine lv_iconst (v := 1) hx hb dX7_reads_46 (by decide) ?_
        exact r_zret C0 rfl hH (pj1 h) (pj2 h) dX7_reads_47
set_option maxRecDepth 100000 in
set_option maxHeartbeats 4000000 in
theorem w_X7_reads_l25 {r : Int32} {σ' : Mem} (C0 : Cx E p m c cX7_reads 3 s args RX7 meth (some .boolean))  (n : Nat) : ∀ (k0 : Nat) (k1 : Nat) (v2 : Int32) (hk0 : kd k0 = 7) (hk1 : kd k1 = 10) (σ : Mem) (H : Heap) (locs : List Loc) (ls : Array Slot), Hs E s σ H locs → lv_has ls 3 [(0, .ref (ea E k0)), (1, .ref (ea E k1)), (2, .int v2)] → X7_reads_l25 n k0 k1 v2 σ = some (r, σ') → W p l e (rmD 4) s m args below meth c H locs 0 0 (MQ below (QiM E r σ') args s 0 0 (eA E)) (F0 m 25 ls []) := by
  induction n with
  | zero =>
    intro k0 k1 v2 hk0 hk1 σ H locs ls hH hl h
    cases h
  | succ n ih =>
    intro k0 k1 v2 hk0 hk1 σ H locs ls hH hl h
    exact w_X7_reads_b25 C0 (X7_reads_l25 n)  ih k0 k1 v2 hk0 hk1 hH hl h
set_option maxRecDepth 100000 in
set_option maxHeartbeats 4000000 in
theorem w_X7_reads_b0 {r : Int32} {σ' : Mem} (C0 : Cx E p m c cX7_reads 3 s args RX7 meth (some .boolean))  (k0 : Nat) (k1 : Nat) (hk0 : kd k0 = 7) (hk1 : kd k1 = 10) {σ : Mem} {H : Heap} {locs : List Loc} {ls : Array Slot} (hH : Hs E s σ H locs) (hl : lv_has ls 3 [(0, .ref (ea E k0)), (1, .ref (ea E k1))]) (h : X7_reads_b0 k0 k1 σ = some (r, σ')) : W p l e (rmD 4) s m args below meth c H locs 0 0 (MQ below (QiM E r σ') args s 0 0 (eA E)) (F0 m 0 ls []) := by
  obtain ⟨⟨hx, hb, hml, hown, hts⟩, hr, hlocks, hF, hAd⟩ := id C0
  unfold X7_reads_b0 at h
  refine lv_aload_n hx hb dX7_reads_0 rfl (lv_at hl 0 rfl) ?_
  refine lv_iconst (v := 0) hx hb dX7_reads_1 (by decide) ?_
  refine pf_X7_18 C0 hH hk0 dX7_reads_2 (fun H locs hH => ?_)
  refine lv_aload_n hx hb dX7_reads_5 rfl (lv_at hl 0 rfl) ?_
  refine gf_X7_12 C0 hH hk0 dX7_reads_6 ?_
  refine lv_iconst (v := 0) hx hb dX7_reads_9 (by decide) ?_
  obtain ⟨σ1, eσ1, h⟩ := letv_s h
  replace hH := hs_of eσ1 hH
  refine pf_X7_25 C0 hH (kf_7_0 hk0) dX7_reads_10 (fun H locs hH => ?_)
  refine lv_aload_n hx hb dX7_reads_13 rfl (lv_at hl 0 rfl) ?_
  refine lv_aload_n hx hb dX7_reads_14 rfl (lv_at hl 1 rfl) ?_
  obtain ⟨r2, σ3, qr2, h⟩ := ob2_s h
  refine go_i hH (va_run_V (As := [.ref (ea E k1)]) (rest := []) C0 hH lk_X7_28 (c_X7_readsLaw hAd k0 k1 hk0 hk1 (wr σ1 (k0 + 1) 0 0) qr2) (by decide) (ci := 7) hk0 (by decide) (cob_7 _ _ _) rfl rfl hl.1 rfl (Nat.le_of_ble_eq_true rfl) dX7_reads_15) (fun H locs hH => ?_)
  refine lv_if_ne (tgt := 23) hx hb dX7_reads_18 (by decide) (fun c4 => ?_) (fun c4 => ?_)
  · replace h := if_f h c4
    refine lv_iconst (v := 0) hx hb dX7_reads_23 (by decide) ?_
    refine lv_istore_n (lv' := [(2, .int 0), (0, .ref (ea E k0)), (1, .ref (ea E k1))]) hx hb dX7_reads_24 rfl hl (by decide) rfl (fun ls hl => ?_)
    exact w_X7_reads_l25 C0  FU k0 k1 0 hk0 hk1 _ _ _ _ hH (lv_sub hl [1, 2, 0] rfl) h
  · replace h := if_t h c4
    refine lv_iconst (v := 0) hx hb dX7_reads_21 (by decide) ?_
    exact r_zret C0 rfl hH (pj1 h) (pj2 h) dX7_reads_22
theorem c_X7_reads {l : Launch} {E : EnvT} (hAd : Ad E) (k0 : Nat) (k1 : Nat) (hk0 : kd k0 = 7) (hk1 : kd k1 = 10) (σ : Mem) {r : Int32} {σ' : Mem} (h : X7_reads k0 k1 σ = some (r, σ')) : Met l yX7_reads (wsM yX7_reads cX7_reads 3 (some .boolean)) (rmD 4) (PcM E [.ref (ea E k0), .ref (ea E k1)] σ) (QiM E r σ') 0 0 (eA E) :=
  Met.ofM (by decide) (Nat.le_of_ble_eq_true rfl) (fun p e s m below meth c ls C0 hH hl => w_X7_reads_b0 C0 k0 k1 hk0 hk1 hH hl h) hAd
set_option maxRecDepth 100000 in
set_option maxHeartbeats 4000000 in
theorem w_X8_isMissing_b0 {r : Int32} (C0 : Cx E p m c cX8_isMissing 2 s args RX8 meth (some .boolean))  (k0 : Nat) (v1 : Int32) (hk0 : kd k0 = 8) {σ : Mem} {H : Heap} {locs : List Loc} {ls : Array Slot} (hH : Hs E s σ H locs) (hl : lv_has ls 2 [(0, .ref (ea E k0)), (1, .int v1)]) (h : X8_isMissing_b0 k0 v1 σ = some r) : W p l e (rmD 0) s m args below meth c H locs 0 0 (MQ below (QiM E r σ) args s 0 0 (eA E)) (F0 m 0 ls []) := by
  obtain ⟨⟨hx, hb, hml, hown, hts⟩, hr, hlocks, hF, hAd⟩ := id C0
  unfold X8_isMissing_b0 at h
  refine lv_aload_n hx hb dX8_isMissing_0 rfl (lv_at hl 0 rfl) ?_
  refine gf_X8_20 C0 hH hk0 dX8_isMissing_1 ?_
  refine lv_iload_n hx hb dX8_isMissing_4 rfl (lv_at hl 1 rfl) ?_
  obtain ⟨b1, h⟩ := gdx_s h
  refine r_iald C0 hH (n := 8) (kf_8_2 hk0) b1 dX8_isMissing_5 ?_
  refine lv_iconst (v := (-1)) hx hb dX8_isMissing_6 (by decide) ?_
  refine lv_icmp_ne (tgt := 14) hx hb dX8_isMissing_7 (by decide) (fun c2 => ?_) (fun c2 => ?_)
  · replace h := if_f h c2
    refine lv_iconst (v := 0) hx hb dX8_isMissing_14 (by decide) ?_
    exact r_zret C0 rfl hH (Option.some.inj h) rfl dX8_isMissing_15
  · replace h := if_t h c2
    refine lv_iconst (v := 1) hx hb dX8_isMissing_10 (by decide) ?_
    refine lv_goto (tgt := 15) hx hb dX8_isMissing_11 (by decide) ?_
    exact r_zret C0 rfl hH (Option.some.inj h) rfl dX8_isMissing_15
theorem c_X8_isMissing {l : Launch} {E : EnvT} (hAd : Ad E) (k0 : Nat) (v1 : Int32) (hk0 : kd k0 = 8) (σ : Mem) {r : Int32} (h : X8_isMissing k0 v1 σ = some r) : Met l yX8_isMissing (wsM yX8_isMissing cX8_isMissing 2 (some .boolean)) (rmD 0) (PcM E [.ref (ea E k0), .int v1] σ) (QiM E r σ) 0 0 (eA E) :=
  Met.ofM (by decide) (Nat.le_of_ble_eq_true rfl) (fun p e s m below meth c ls C0 hH hl => w_X8_isMissing_b0 C0 k0 v1 hk0 hH hl h) hAd
set_option maxRecDepth 100000 in
set_option maxHeartbeats 4000000 in
theorem w_X8_holds_b0 {r : Int32} (C0 : Cx E p m c cX8_holds 4 s args RX8 meth (some .boolean))  (k0 : Nat) (v1 : Int32) (v2 : Int32) (v3 : Int32) (hk0 : kd k0 = 8) {σ : Mem} {H : Heap} {locs : List Loc} {ls : Array Slot} (hH : Hs E s σ H locs) (hl : lv_has ls 4 [(0, .ref (ea E k0)), (1, .int v1), (2, .int v2), (3, .int v3)]) (h : X8_holds_b0 k0 v1 v2 v3 σ = some r) : W p l e (rmD 0) s m args below meth c H locs 0 0 (MQ below (QiM E r σ) args s 0 0 (eA E)) (F0 m 0 ls []) := by
  obtain ⟨⟨hx, hb, hml, hown, hts⟩, hr, hlocks, hF, hAd⟩ := id C0
  unfold X8_holds_b0 at h
  refine lv_iload_n hx hb dX8_holds_0 rfl (lv_at hl 2 rfl) ?_
  refine lv_if_lt (tgt := 34) hx hb dX8_holds_1 (by decide) (fun c1 => ?_) (fun c1 => ?_)
  · replace h := if_t h c1
    refine lv_iconst (v := 0) hx hb dX8_holds_34 (by decide) ?_
    exact r_zret C0 rfl hH (Option.some.inj h) rfl dX8_holds_35
  · replace h := if_f h c1
    refine lv_iload_n hx hb dX8_holds_4 rfl (lv_at hl 3 rfl) ?_
    refine lv_if_lt (tgt := 34) hx hb dX8_holds_5 (by decide) (fun c2 => ?_) (fun c2 => ?_)
    · replace h := if_t h c2
      refine lv_iconst (v := 0) hx hb dX8_holds_34 (by decide) ?_
      exact r_zret C0 rfl hH (Option.some.inj h) rfl dX8_holds_35
    · replace h := if_f h c2
      refine lv_iload_n hx hb dX8_holds_8 rfl (lv_at hl 3 rfl) ?_
      refine lv_aload_n hx hb dX8_holds_9 rfl (lv_at hl 0 rfl) ?_
      refine gf_X8_20 C0 hH hk0 dX8_holds_10 ?_
      refine lv_iload_n hx hb dX8_holds_13 rfl (lv_at hl 1 rfl) ?_
      obtain ⟨b3, h⟩ := gdx_s h
      refine r_iald C0 hH (n := 8) (kf_8_2 hk0) b3 dX8_holds_14 ?_
      refine lv_icmp_gt (tgt := 34) hx hb dX8_holds_15 (by decide) (fun c4 => ?_) (fun c4 => ?_)
      · replace h := if_t h c4
        refine lv_iconst (v := 0) hx hb dX8_holds_34 (by decide) ?_
        exact r_zret C0 rfl hH (Option.some.inj h) rfl dX8_holds_35
      · replace h := if_f h c4
        refine lv_iload_n hx hb dX8_holds_18 rfl (lv_at hl 2 rfl) ?_
        refine lv_aload_n hx hb dX8_holds_19 rfl (lv_at hl 0 rfl) ?_
        refine gf_X8_20 C0 hH hk0 dX8_holds_20 ?_
        refine lv_iload_n hx hb dX8_holds_23 rfl (lv_at hl 1 rfl) ?_
        obtain ⟨b5, h⟩ := gdx_s h
        refine r_iald C0 hH (n := 8) (kf_8_2 hk0) b5 dX8_holds_24 ?_
        refine lv_iload_n hx hb dX8_holds_25 rfl (lv_at hl 3 rfl) ?_
        refine lv_isub hx hb dX8_holds_26 ?_
        refine lv_icmp_gt (tgt := 34) hx hb dX8_holds_27 (by decide) (fun c6 => ?_) (fun c6 => ?_)
        · replace h := if_t h c6
          refine lv_iconst (v := 0) hx hb dX8_holds_34 (by decide) ?_
          exact r_zret C0 rfl hH (Option.some.inj h) rfl dX8_holds_35
        · replace h := if_f h c6
          refine lv_iconst (v := 1) hx hb dX8_holds_30 (by decide) ?_
          refine lv_goto (tgt := 35) hx hb dX8_holds_31 (by decide) ?_
          exact r_zret C0 rfl hH (Option.some.inj h) rfl dX8_holds_35
theorem c_X8_holds {l : Launch} {E : EnvT} (hAd : Ad E) (k0 : Nat) (v1 : Int32) (v2 : Int32) (v3 : Int32) (hk0 : kd k0 = 8) (σ : Mem) {r : Int32} (h : X8_holds k0 v1 v2 v3 σ = some r) : Met l yX8_holds (wsM yX8_holds cX8_holds 4 (some .boolean)) (rmD 0) (PcM E [.ref (ea E k0), .int v1, .int v2, .int v3] σ) (QiM E r σ) 0 0 (eA E) :=
  Met.ofM (by decide) (Nat.le_of_ble_eq_true rfl) (fun p e s m below meth c ls C0 hH hl => w_X8_holds_b0 C0 k0 v1 v2 v3 hk0 hH hl h) hAd
set_option maxRecDepth 100000 in
set_option maxHeartbeats 4000000 in
theorem w_X8_lay_b0 {σ' : Mem} (C0 : Cx E p m c cX8_lay 4 s args RX8 meth (none))  (k0 : Nat) (v1 : Int32) (v2 : Int32) (v3 : Int32) (hk0 : kd k0 = 8) {σ : Mem} {H : Heap} {locs : List Loc} {ls : Array Slot} (hH : Hs E s σ H locs) (hl : lv_has ls 4 [(0, .ref (ea E k0)), (1, .int v1), (2, .int v2), (3, .int v3)]) (h : X8_lay_b0 k0 v1 v2 v3 σ = some σ') : W p l e (rmD 1) s m args below meth c H locs 0 0 (MQ below (QvM E σ') args s 0 0 (eA E)) (F0 m 0 ls []) := by
  obtain ⟨⟨hx, hb, hml, hown, hts⟩, hr, hlocks, hF, hAd⟩ := id C0
  unfold X8_lay_b0 at h
  refine lv_aload_n hx hb dX8_lay_0 rfl (lv_at hl 0 rfl) ?_
  refine gf_X8_11 C0 hH hk0 dX8_lay_1 ?_
  refine lv_iload_n hx hb dX8_lay_4 rfl (lv_at hl 1 rfl) ?_
  obtain ⟨b1, h⟩ := gdx_s h
  refine ra_14 C0 hH (kf_8_0 hk0) b1 dX8_lay_5 ?_
  refine lv_iconst (v := 0) hx hb dX8_lay_6 (by decide) ?_
  obtain ⟨σ2, qσ2, h⟩ := ob_s h
  refine go_v hH (va_run_S (As := [.ref (ea E ((k0 + 1) + 1 + nc v1)), .int 0]) (rest := []) C0 hH lk_X8_23 (c_J7_fill_53178 hAd 40 ((k0 + 1) + 1 + nc v1) 0 (ka_14 (kf_8_0 hk0) b1) σ qσ2) (by decide) rfl hl.1 rfl (Nat.le_of_ble_eq_true rfl) dX8_lay_7) (fun H locs hH => ?_)
  refine lv_aload_n hx hb dX8_lay_10 rfl (lv_at hl 0 rfl) ?_
  refine gf_X8_16 C0 hH hk0 dX8_lay_11 ?_
  refine lv_iload_n hx hb dX8_lay_14 rfl (lv_at hl 1 rfl) ?_
  refine lv_iload_n hx hb dX8_lay_15 rfl (lv_at hl 2 rfl) ?_
  obtain ⟨b3, h⟩ := gdx_s h
  refine r_iast C0 hH (n := 8) (kf_8_1 hk0) b3 dX8_lay_16 (fun H locs hH => ?_)
  refine lv_aload_n hx hb dX8_lay_17 rfl (lv_at hl 0 rfl) ?_
  refine gf_X8_20 C0 hH hk0 dX8_lay_18 ?_
  refine lv_iload_n hx hb dX8_lay_21 rfl (lv_at hl 1 rfl) ?_
  refine lv_iload_n hx hb dX8_lay_22 rfl (lv_at hl 3 rfl) ?_
  obtain ⟨σ4, eσ4, h⟩ := letv_s h
  replace hH := hs_of eσ4 hH
  obtain ⟨b5, h⟩ := gdx_s h
  refine r_iast C0 hH (n := 8) (kf_8_2 hk0) b5 dX8_lay_23 (fun H locs hH => ?_)
  exact r_vret C0 hH (Option.some.inj h) dX8_lay_24
theorem c_X8_lay {l : Launch} {E : EnvT} (hAd : Ad E) (k0 : Nat) (v1 : Int32) (v2 : Int32) (v3 : Int32) (hk0 : kd k0 = 8) (σ : Mem) {σ' : Mem} (h : X8_lay k0 v1 v2 v3 σ = some σ') : Met l yX8_lay (wsM yX8_lay cX8_lay 4 (none)) (rmD 1) (PcM E [.ref (ea E k0), .int v1, .int v2, .int v3] σ) (QvM E σ') 0 0 (eA E) :=
  Met.ofM (by decide) (Nat.le_of_ble_eq_true rfl) (fun p e s m below meth c ls C0 hH hl => w_X8_lay_b0 C0 k0 v1 v2 v3 hk0 hH hl h) hAd
set_option maxRecDepth 100000 in
set_option maxHeartbeats 4000000 in
theorem w_X8_lose_b0 {r : Int32} {σ' : Mem} (C0 : Cx E p m c cX8_lose 3 s args RX8 meth (some .int))  (k0 : Nat) (v1 : Int32) (hk0 : kd k0 = 8) {σ : Mem} {H : Heap} {locs : List Loc} {ls : Array Slot} (hH : Hs E s σ H locs) (hl : lv_has ls 3 [(0, .ref (ea E k0)), (1, .int v1)]) (h : X8_lose_b0 k0 v1 σ = some (r, σ')) : W p l e (rmD 0) s m args below meth c H locs 0 0 (MQ below (QiM E r σ') args s 0 0 (eA E)) (F0 m 0 ls []) := by
  obtain ⟨⟨hx, hb, hml, hown, hts⟩, hr, hlocks, hF, hAd⟩ := id C0
  unfold X8_lose_b0 at h
  refine lv_aload_n hx hb dX8_lose_0 rfl (lv_at hl 0 rfl) ?_
  refine gf_X8_20 C0 hH hk0 dX8_lose_1 ?_
  refine lv_iload_n hx hb dX8_lose_4 rfl (lv_at hl 1 rfl) ?_
  obtain ⟨b1, h⟩ := gdx_s h
  refine r_iald C0 hH (n := 8) (kf_8_2 hk0) b1 dX8_lose_5 ?_
  obtain ⟨x2, ex2, h⟩ := letv_s h
  refine topi_of ex2 ?_
  refine lv_istore_n (lv' := [(2, .int x2), (0, .ref (ea E k0)), (1, .int v1)]) hx hb dX8_lose_6 rfl hl (by decide) rfl (fun ls hl => ?_)
  refine lv_aload_n hx hb dX8_lose_7 rfl (lv_at hl 1 rfl) ?_
  refine gf_X8_20 C0 hH hk0 dX8_lose_8 ?_
  refine lv_iload_n hx hb dX8_lose_11 rfl (lv_at hl 2 rfl) ?_
  refine lv_iconst (v := (-1)) hx hb dX8_lose_12 (by decide) ?_
  obtain ⟨b3, h⟩ := gdx_s h
  refine r_iast C0 hH (n := 8) (kf_8_2 hk0) b3 dX8_lose_13 (fun H locs hH => ?_)
  refine lv_iload_n hx hb dX8_lose_14 rfl (lv_at hl 0 rfl) ?_
  exact r_iret C0 hH (pj1 h) (pj2 h) dX8_lose_15
theorem c_X8_lose {l : Launch} {E : EnvT} (hAd : Ad E) (k0 : Nat) (v1 : Int32) (hk0 : kd k0 = 8) (σ : Mem) {r : Int32} {σ' : Mem} (h : X8_lose k0 v1 σ = some (r, σ')) : Met l yX8_lose (wsM yX8_lose cX8_lose 3 (some .int)) (rmD 0) (PcM E [.ref (ea E k0), .int v1] σ) (QiM E r σ') 0 0 (eA E) :=
  Met.ofM (by decide) (Nat.le_of_ble_eq_true rfl) (fun p e s m below meth c ls C0 hH hl => w_X8_lose_b0 C0 k0 v1 hk0 hH hl h) hAd
set_option maxRecDepth 100000 in
set_option maxHeartbeats 4000000 in
theorem w_X8_write_b33 {r : Int32} {σ' : Mem} (C0 : Cx E p m c cX8_write 5 s args RX8 meth (some .int))  (k0 : Nat) (v1 : Int32) (v2 : Int32) (v4 : Int32) (hk0 : kd k0 = 8) {σ : Mem} {H : Heap} {locs : List Loc} {ls : Array Slot} (hH : Hs E s σ H locs) (hl : lv_has ls 5 [(0, .ref (ea E k0)), (1, .int v1), (2, .int v2), (4, .int v4)]) (h : X8_write_b33 k0 v1 v2 v4 σ = some (r, σ')) : W p l e (rmD 0) s m args below meth c H locs 0 0 (MQ below (QiM E r σ') args s 0 0 (eA E)) (F0 m 33 ls []) := by
  obtain ⟨⟨hx, hb, hml, hown, hts⟩, hr, hlocks, hF, hAd⟩ := id C0
  unfold X8_write_b33 at h
  refine lv_aload_n hx hb dX8_write_33 rfl (lv_at hl 0 rfl) ?_
  refine gf_X8_11 C0 hH hk0 dX8_write_34 ?_
  refine lv_iload_n hx hb dX8_write_37 rfl (lv_at hl 1 rfl) ?_
  obtain ⟨b1, h⟩ := gdx_s h
  refine ra_14 C0 hH (kf_8_0 hk0) b1 dX8_write_38 ?_
  refine lv_iload_n hx hb dX8_write_39 rfl (lv_at hl 2 rfl) ?_
  refine lv_iload hx hb dX8_write_40 (lv_at hl 3 rfl) ?_
  obtain ⟨b2, h⟩ := gdx_s h
  refine r_iast C0 hH (n := 40) (ka_14 (kf_8_0 hk0) b1) b2 dX8_write_42 (fun H locs hH => ?_)
  refine lv_iload hx hb dX8_write_43 (lv_at hl 3 rfl) ?_
  exact r_iret C0 hH (pj1 h) (pj2 h) dX8_write_45
set_option maxRecDepth 100000 in
set_option maxHeartbeats 4000000 in
theorem w_X8_write_b0 {r : Int32} {σ' : Mem} (C0 : Cx E p m c cX8_write 5 s args RX8 meth (some .int))  (k0 : Nat) (v1 : Int32) (v2 : Int32) (v3 : Int32) (hk0 : kd k0 = 8) {σ : Mem} {H : Heap} {locs : List Loc} {ls : Array Slot} (hH : Hs E s σ H locs) (hl : lv_has ls 5 [(0, .ref (ea E k0)), (1, .int v1), (2, .int v2), (3, .int v3)]) (h : X8_write_b0 k0 v1 v2 v3 σ = some (r, σ')) : W p l e (rmD 0) s m args below meth c H locs 0 0 (MQ below (QiM E r σ') args s 0 0 (eA E)) (F0 m 0 ls []) := by
  obtain ⟨⟨hx, hb, hml, hown, hts⟩, hr, hlocks, hF, hAd⟩ := id C0
  unfold X8_write_b0 at h
  refine lv_iload_n hx hb dX8_write_0 rfl (lv_at hl 3 rfl) ?_
  refine lv_istore (lv' := [(4, .int v3), (0, .ref (ea E k0)), (1, .int v1), (2, .int v2), (3, .int v3)]) hx hb dX8_write_1 hl (by decide) rfl (fun ls hl => ?_)
  refine lv_aload_n hx hb dX8_write_3 rfl (lv_at hl 1 rfl) ?_
  refine gf_X8_16 C0 hH hk0 dX8_write_4 ?_
  refine lv_iload_n hx hb dX8_write_7 rfl (lv_at hl 2 rfl) ?_
  obtain ⟨b1, h⟩ := gdx_s h
  refine r_iald C0 hH (n := 8) (kf_8_1 hk0) b1 dX8_write_8 ?_
  refine lv_if_ne (tgt := 19) hx hb dX8_write_9 (by decide) (fun c2 => ?_) (fun c2 => ?_)
  · replace h := if_f h c2
    refine lv_aload_n hx hb dX8_write_19 rfl (lv_at hl 1 rfl) ?_
    refine gf_X8_16 C0 hH hk0 dX8_write_20 ?_
    refine lv_iload_n hx hb dX8_write_23 rfl (lv_at hl 2 rfl) ?_
    obtain ⟨b3, h⟩ := gdx_s h
    refine r_iald C0 hH (n := 8) (kf_8_1 hk0) b3 dX8_write_24 ?_
    refine lv_iconst (v := 1) hx hb dX8_write_25 (by decide) ?_
    refine lv_icmp_ne (tgt := 33) hx hb dX8_write_26 (by decide) (fun c4 => ?_) (fun c4 => ?_)
    · replace h := if_f h c4
      exact w_X8_write_b33 C0  k0 v1 v2 v3 hk0 hH (lv_sub hl [1, 2, 3, 0] rfl) h
    · replace h := if_t h c4
      refine lv_iload_n hx hb dX8_write_29 rfl (lv_at hl 4 rfl) ?_
      refine lv_i2s (v := i2s v3) hx hb dX8_write_30 rfl ?_
      obtain ⟨x5, ex5, h⟩ := letv_s h
      refine topi_of ex5 ?_
      refine lv_istore (lv' := [(4, .int x5), (0, .ref (ea E k0)), (1, .int v1), (2, .int v2), (3, .int v3)]) hx hb dX8_write_31 hl (by decide) rfl (fun ls hl => ?_)
      exact w_X8_write_b33 C0  k0 v1 v2 x5 hk0 hH (lv_sub hl [1, 2, 3, 0] rfl) h
  · replace h := if_t h c2
    refine lv_iload_n hx hb dX8_write_12 rfl (lv_at hl 4 rfl) ?_
    refine lv_i2b (v := i2b v3) hx hb dX8_write_13 rfl ?_
    obtain ⟨x6, ex6, h⟩ := letv_s h
    refine topi_of ex6 ?_
    refine lv_istore (lv' := [(4, .int x6), (0, .ref (ea E k0)), (1, .int v1), (2, .int v2), (3, .int v3)]) hx hb dX8_write_14 hl (by decide) rfl (fun ls hl => ?_)
    refine lv_goto (tgt := 33) hx hb dX8_write_16 (by decide) ?_
    exact w_X8_write_b33 C0  k0 v1 v2 x6 hk0 hH (lv_sub hl [1, 2, 3, 0] rfl) h
theorem c_X8_write {l : Launch} {E : EnvT} (hAd : Ad E) (k0 : Nat) (v1 : Int32) (v2 : Int32) (v3 : Int32) (hk0 : kd k0 = 8) (σ : Mem) {r : Int32} {σ' : Mem} (h : X8_write k0 v1 v2 v3 σ = some (r, σ')) : Met l yX8_write (wsM yX8_write cX8_write 5 (some .int)) (rmD 0) (PcM E [.ref (ea E k0), .int v1, .int v2, .int v3] σ) (QiM E r σ') 0 0 (eA E) :=
  Met.ofM (by decide) (Nat.le_of_ble_eq_true rfl) (fun p e s m below meth c ls C0 hH hl => w_X8_write_b0 C0 k0 v1 v2 v3 hk0 hH hl h) hAd
set_option maxRecDepth 100000 in
set_option maxHeartbeats 4000000 in
theorem w_X8_laid_b23 {r : Int32} (C0 : Cx E p m c cX8_laid 3 s args RX8 meth (some .int)) (K4 : Nat → Int32 → Int32 → Mem → Option Int32) (hK4 : ∀ (k0 : Nat) (v1 : Int32) (v2 : Int32) (hk0 : kd k0 = 8) (σ : Mem) (H : Heap) (locs : List Loc) (ls : Array Slot), Hs E s σ H locs → lv_has ls 3 [(0, .ref (ea E k0)), (1, .int v1), (2, .int v2)] → K4 k0 v1 v2 σ = some r → W p l e (rmD 0) s m args below meth c H locs 0 0 (MQ below (QiM E r σ) args s 0 0 (eA E)) (F0 m 4 ls []))  (k0 : Nat) (v1 : Int32) (v2 : Int32) (hk0 : kd k0 = 8) {σ : Mem} {H : Heap} {locs : List Loc} {ls : Array Slot} (hH : Hs E s σ H locs) (hl : lv_has ls 3 [(0, .ref (ea E k0)), (1, .int v1), (2, .int v2)]) (h : X8_laid_b23 K4 k0 v1 v2 σ = some r) : W p l e (rmD 0) s m args below meth c H locs 0 0 (MQ below (QiM E r σ) args s 0 0 (eA E)) (F0 m 23 ls []) := by
  obtain ⟨⟨hx, hb, hml, hown, hts⟩, hr, hlocks, hF, hAd⟩ := id C0
  unfold X8_laid_b23 at h
  refine lv_iinc (v := v2 + 1) (lv' := [(2, .int (v2 + 1)), (0, .ref (ea E k0)), (1, .int v1)]) hx hb dX8_laid_23 hl (k := 2) rfl rfl (by decide) rfl (fun ls hl => ?_)
  refine lv_goto (tgt := 4) hx hb dX8_laid_26 (by decide) ?_
  exact hK4 k0 v1 (v2 + 1) hk0 _ _ _ _ hH (lv_sub hl [1, 2, 0] rfl) h
set_option maxRecDepth 100000 in
set_option maxHeartbeats 4000000 in
theorem w_X8_laid_b4 {r : Int32} (C0 : Cx E p m c cX8_laid 3 s args RX8 meth (some .int)) (K4 : Nat → Int32 → Int32 → Mem → Option Int32) (hK4 : ∀ (k0 : Nat) (v1 : Int32) (v2 : Int32) (hk0 : kd k0 = 8) (σ : Mem) (H : Heap) (locs : List Loc) (ls : Array Slot), Hs E s σ H locs → lv_has ls 3 [(0, .ref (ea E k0)), (1, .int v1), (2, .int v2)] → K4 k0 v1 v2 σ = some r → W p l e (rmD 0) s m args below meth c H locs 0 0 (MQ below (QiM E r σ) args s 0 0 (eA E)) (F0 m 4 ls []))  (k0 : Nat) (v1 : Int32) (v2 : Int32) (hk0 : kd k0 = 8) {σ : Mem} {H : Heap} {locs : List Loc} {ls : Array Slot} (hH : Hs E s σ H locs) (hl : lv_has ls 3 [(0, .ref (ea E k0)), (1, .int v1), (2, .int v2)]) (h : X8_laid_b4 K4 k0 v1 v2 σ = some r) : W p l e (rmD 0) s m args below meth c H locs 0 0 (MQ below (QiM E r σ) args s 0 0 (eA E)) (F0 m 4 ls []) := by
  obtain ⟨⟨hx, hb, hml, hown, hts⟩, hr, hlocks, hF, hAd⟩ := id C0
  unfold X8_laid_b4 at h
  refine lv_iload_n hx hb dX8_laid_4 rfl (lv_at hl 2 rfl) ?_
  refine lv_bipush (v := 8) hx hb dX8_laid_5 (by decide) ?_
  refine lv_icmp_ge (tgt := 29) hx hb dX8_laid_7 (by decide) (fun c1 => ?_) (fun c1 => ?_)
  · replace h := if_t h c1
    refine lv_iload_n hx hb dX8_laid_29 rfl (lv_at hl 1 rfl) ?_
    exact r_iret C0 hH (Option.some.inj h) rfl dX8_laid_30
  · replace h := if_f h c1
    refine lv_aload_n hx hb dX8_laid_10 rfl (lv_at hl 0 rfl) ?_
    refine gf_X8_20 C0 hH hk0 dX8_laid_11 ?_
    refine lv_iload_n hx hb dX8_laid_14 rfl (lv_at hl 2 rfl) ?_
    obtain ⟨b2, h⟩ := gdx_s h
    refine r_iald C0 hH (n := 8) (kf_8_2 hk0) b2 dX8_laid_15 ?_
    refine lv_iconst (v := (-1)) hx hb dX8_laid_16 (by decide) ?_
    refine lv_icmp_eq (tgt := 23) hx hb dX8_laid_17 (by decide) (fun c3 => ?_) (fun c3 => ?_)
    · replace h := if_t h c3
      exact w_X8_laid_b23 C0 K4 hK4 k0 v1 v2 hk0 hH (lv_sub hl [0, 1, 2] rfl) h
    · replace h := if_f h c3
      refine lv_iinc (v := v1 + 1) (lv' := [(1, .int (v1 + 1)), (0, .ref (ea E k0)), (2, .int v2)]) hx hb dX8_laid_20 hl (k := 1) rfl rfl (by decide) rfl (fun ls hl => ?_)
      exact w_X8_laid_b23 C0 K4 hK4 k0 (v1 + 1) v2 hk0 hH (lv_sub hl [1, 0, 2] rfl) h
set_option maxRecDepth 100000 in
set_option maxHeartbeats 4000000 in
theorem w_X8_laid_l4 {r : Int32} (C0 : Cx E p m c cX8_laid 3 s args RX8 meth (some .int))  (n : Nat) : ∀ (k0 : Nat) (v1 : Int32) (v2 : Int32) (hk0 : kd k0 = 8) (σ : Mem) (H : Heap) (locs : List Loc) (ls : Array Slot), Hs E s σ H locs → lv_has ls 3 [(0, .ref (ea E k0)), (1, .int v1), (2, .int v2)] → X8_laid_l4 n k0 v1 v2 σ = some r → W p l e (rmD 0) s m args below meth c H locs 0 0 (MQ below (QiM E r σ) args s 0 0 (eA E)) (F0 m 4 ls []) := by
  induction n with
  | zero =>
    intro k0 v1 v2 hk0 σ H locs ls hH hl h
    cases h
  | succ n ih =>
    intro k0 v1 v2 hk0 σ H locs ls hH hl h
    exact w_X8_laid_b4 C0 (X8_laid_l4 n)  ih k0 v1 v2 hk0 hH hl h
set_option maxRecDepth 100000 in
set_option maxHeartbeats 4000000 in
theorem w_X8_laid_b0 {r : Int32} (C0 : Cx E p m c cX8_laid 3 s args RX8 meth (some .int))  (k0 : Nat) (hk0 : kd k0 = 8) {σ : Mem} {H : Heap} {locs : List Loc} {ls : Array Slot} (hH : Hs E s σ H locs) (hl : lv_has ls 3 [(0, .ref (ea E k0))]) (h : X8_laid_b0 k0 σ = some r) : W p l e (rmD 0) s m args below meth c H locs 0 0 (MQ below (QiM E r σ) args s 0 0 (eA E)) (F0 m 0 ls []) := by
  obtain ⟨⟨hx, hb, hml, hown, hts⟩, hr, hlocks, hF, hAd⟩ := id C0
  unfold X8_laid_b0 at h
  refine lv_iconst (v := 0) hx hb dX8_laid_0 (by decide) ?_
  refine lv_istore_n (lv' := [(1, .int 0), (0, .ref (ea E k0))]) hx hb dX8_laid_1 rfl hl (by decide) rfl (fun ls hl => ?_)
  refine lv_iconst (v := 0) hx hb dX8_laid_2 (by decide) ?_
  refine lv_istore_n (lv' := [(2, .int 0), (1, .int 0), (0, .ref (ea E k0))]) hx hb dX8_laid_3 rfl hl (by decide) rfl (fun ls hl => ?_)
  exact w_X8_laid_l4 C0  FU k0 0 0 hk0 _ _ _ _ hH (lv_sub hl [2, 1, 0] rfl) h
theorem c_X8_laid {l : Launch} {E : EnvT} (hAd : Ad E) (k0 : Nat) (hk0 : kd k0 = 8) (σ : Mem) {r : Int32} (h : X8_laid k0 σ = some r) : Met l yX8_laid (wsM yX8_laid cX8_laid 3 (some .int)) (rmD 0) (PcM E [.ref (ea E k0)] σ) (QiM E r σ) 0 0 (eA E) :=
  Met.ofM (by decide) (Nat.le_of_ble_eq_true rfl) (fun p e s m below meth c ls C0 hH hl => w_X8_laid_b0 C0 k0 hk0 hH hl h) hAd
set_option maxRecDepth 100000 in
set_option maxHeartbeats 4000000 in
theorem w_X10_add_b0 {r : Int32} {σ' : Mem} (C0 : Cx E p m c cX10_add 2 s args RX10 meth (some .int))  (k0 : Nat) (v1 : Int32) (hk0 : kd k0 = 10) {σ : Mem} {H : Heap} {locs : List Loc} {ls : Array Slot} (hH : Hs E s σ H locs) (hl : lv_has ls 2 [(0, .ref (ea E k0)), (1, .int v1)]) (h : X10_add_b0 k0 v1 σ = some (r, σ')) : W p l e (rmD 0) s m args below meth c H locs 0 0 (MQ below (QiM E r σ') args s 0 0 (eA E)) (F0 m 0 ls []) := by
  obtain ⟨⟨hx, hb, hml, hown, hts⟩, hr, hlocks, hF, hAd⟩ := id C0
  unfold X10_add_b0 at h
  refine lv_aload_n hx hb dX10_add_0 rfl (lv_at hl 0 rfl) ?_
  refine gf_X10_15 C0 hH hk0 dX10_add_1 ?_
  refine lv_sipush (v := 130) hx hb dX10_add_4 (by decide) ?_
  refine lv_icmp_ge (tgt := 30) hx hb dX10_add_7 (by decide) (fun c1 => ?_) (fun c1 => ?_)
  · replace h := if_t h c1
    refine lv_aload_n hx hb dX10_add_30 rfl (lv_at hl 0 rfl) ?_
    refine gf_X10_15 C0 hH hk0 dX10_add_31 ?_
    exact r_iret C0 hH (pj1 h) (pj2 h) dX10_add_34
  · replace h := if_f h c1
    refine lv_aload_n hx hb dX10_add_10 rfl (lv_at hl 0 rfl) ?_
    refine gf_X10_9 C0 hH hk0 dX10_add_11 ?_
    refine lv_aload_n hx hb dX10_add_14 rfl (lv_at hl 0 rfl) ?_
    refine gf_X10_15 C0 hH hk0 dX10_add_15 ?_
    refine lv_iload_n hx hb dX10_add_18 rfl (lv_at hl 1 rfl) ?_
    obtain ⟨b2, h⟩ := gdx_s h
    refine r_iast C0 hH (n := 130) (kf_10_0 hk0) b2 dX10_add_19 (fun H locs hH => ?_)
    refine lv_aload_n hx hb dX10_add_20 rfl (lv_at hl 0 rfl) ?_
    refine lv_dup hx hb dX10_add_21 rfl ?_
    obtain ⟨σ3, eσ3, h⟩ := letv_s h
    replace hH := hs_of eσ3 hH
    refine gf_X10_15 C0 hH hk0 dX10_add_22 ?_
    refine lv_iconst (v := 1) hx hb dX10_add_25 (by decide) ?_
    refine lv_iadd hx hb dX10_add_26 ?_
    refine pf_X10_15 C0 hH hk0 dX10_add_27 (fun H locs hH => ?_)
    refine lv_aload_n hx hb dX10_add_30 rfl (lv_at hl 0 rfl) ?_
    obtain ⟨σ4, eσ4, h⟩ := letv_s h
    replace hH := hs_of eσ4 hH
    refine gf_X10_15 C0 hH hk0 dX10_add_31 ?_
    exact r_iret C0 hH (pj1 h) (pj2 h) dX10_add_34
theorem c_X10_add {l : Launch} {E : EnvT} (hAd : Ad E) (k0 : Nat) (v1 : Int32) (hk0 : kd k0 = 10) (σ : Mem) {r : Int32} {σ' : Mem} (h : X10_add k0 v1 σ = some (r, σ')) : Met l yX10_add (wsM yX10_add cX10_add 2 (some .int)) (rmD 0) (PcM E [.ref (ea E k0), .int v1] σ) (QiM E r σ') 0 0 (eA E) :=
  Met.ofM (by decide) (Nat.le_of_ble_eq_true rfl) (fun p e s m below meth c ls C0 hH hl => w_X10_add_b0 C0 k0 v1 hk0 hH hl h) hAd
end
