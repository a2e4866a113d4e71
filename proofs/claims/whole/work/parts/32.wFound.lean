section
variable {p : Program} {l : Launch} {e : Env} {s : State} {m : MethodId} {args : Array Value} {below : List Frame} {meth : Method} {c : Code} {E : EnvT}
set_option maxRecDepth 100000 in
set_option maxHeartbeats 4000000 in
theorem w_X4_doubt_b62 {σ' : Mem} (C0 : Cx E p m c cX4_doubt 4 s args RX4 meth (none)) (K7 : Nat → Int32 → Int32 → Mem → Option Mem) (K14 : Nat → Int32 → Int32 → Int32 → Mem → Option Mem) (hK7 : ∀ (k0 : Nat) (v1 : Int32) (v2 : Int32) (hk0 : kd k0 = 4) (σ : Mem) (H : Heap) (locs : List Loc) (ls : Array Slot), Hs E s σ H locs → lv_has ls 4 [(0, .ref (ea E k0)), (1, .int v1), (2, .int v2)] → K7 k0 v1 v2 σ = some σ' → W p l e (rmD 1) s m args below meth c H locs 0 0 (MQ below (QvM E σ') args s 0 0 (eA E)) (F0 m 7 ls [])) (hK14 : ∀ (k0 : Nat) (v1 : Int32) (v2 : Int32) (v3 : Int32) (hk0 : kd k0 = 4) (σ : Mem) (H : Heap) (locs : List Loc) (ls : Array Slot), Hs E s σ H locs → lv_has ls 4 [(0, .ref (ea E k0)), (1, .int v1), (2, .int v2), (3, .int v3)] → K14 k0 v1 v2 v3 σ = some σ' → W p l e (rmD 1) s m args below meth c H locs 0 0 (MQ below (QvM E σ') args s 0 0 (eA E)) (F0 m 14 ls []))  (k0 : Nat) (v1 : Int32) (v2 : Int32) (v3 : Int32) (hk0 : kd k0 = 4) {σ : Mem} {H : Heap} {locs : List Loc} {ls : Array Slot} (hH : Hs E s σ H locs) (hl : lv_has ls 4 [(0, .ref (ea E k0)), (1, .int v1), (2, .int v2), (3, .int v3)]) (h : X4_doubt_b62 K7 K14 k0 v1 v2 v3 σ = some σ') : W p l e (rmD 1) s m args below meth c H locs 0 0 (MQ below (QvM E σ') args s 0 0 (eA E)) (F0 m 62 ls []) := by
  obtain ⟨⟨hx, hb, hml, hown, hts⟩, hr, hlocks, hF, hAd⟩ := id C0
  unfold X4_doubt_b62 at h
  refine lv_iinc (v := v3 + 1) (lv' := [(3, .int (v3 + 1)), (0, .ref (ea E k0)), (1, .int v1), (2, .int v2)]) hx hb dX4_doubt_62 hl (k := 3) rfl rfl (by decide) rfl (fun ls hl => ?_)
  refine lv_goto (tgt := 14) hx hb dX4_doubt_65 (by decide) ?_
  exact hK14 k0 v1 v2 (v3 + 1) hk0 _ _ _ _ hH (lv_sub hl [1, 2, 3, 0] rfl) h
set_option maxRecDepth 100000 in
set_option maxHeartbeats 4000000 in
theorem w_X4_doubt_b14 {σ' : Mem} (C0 : Cx E p m c cX4_doubt 4 s args RX4 meth (none)) (K7 : Nat → Int32 → Int32 → Mem → Option Mem) (K14 : Nat → Int32 → Int32 → Int32 → Mem → Option Mem) (hK7 : ∀ (k0 : Nat) (v1 : Int32) (v2 : Int32) (hk0 : kd k0 = 4) (σ : Mem) (H : Heap) (locs : List Loc) (ls : Array Slot), Hs E s σ H locs → lv_has ls 4 [(0, .ref (ea E k0)), (1, .int v1), (2, .int v2)] → K7 k0 v1 v2 σ = some σ' → W p l e (rmD 1) s m args below meth c H locs 0 0 (MQ below (QvM E σ') args s 0 0 (eA E)) (F0 m 7 ls [])) (hK14 : ∀ (k0 : Nat) (v1 : Int32) (v2 : Int32) (v3 : Int32) (hk0 : kd k0 = 4) (σ : Mem) (H : Heap) (locs : List Loc) (ls : Array Slot), Hs E s σ H locs → lv_has ls 4 [(0, .ref (ea E k0)), (1, .int v1), (2, .int v2), (3, .int v3)] → K14 k0 v1 v2 v3 σ = some σ' → W p l e (rmD 1) s m args below meth c H locs 0 0 (MQ below (QvM E σ') args s 0 0 (eA E)) (F0 m 14 ls []))  (k0 : Nat) (v1 : Int32) (v2 : Int32) (v3 : Int32) (hk0 : kd k0 = 4) {σ : Mem} {H : Heap} {locs : List Loc} {ls : Array Slot} (hH : Hs E s σ H locs) (hl : lv_has ls 4 [(0, .ref (ea E k0)), (1, .int v1), (2, .int v2), (3, .int v3)]) (h : X4_doubt_b14 K7 K14 k0 v1 v2 v3 σ = some σ') : W p l e (rmD 1) s m args below meth c H locs 0 0 (MQ below (QvM E σ') args s 0 0 (eA E)) (F0 m 14 ls []) := by
  obtain ⟨⟨hx, hb, hml, hown, hts⟩, hr, hlocks, hF, hAd⟩ := id C0
  unfold X4_doubt_b14 at h
  refine lv_iload_n hx hb dX4_doubt_14 rfl (lv_at hl 3 rfl) ?_
  refine lv_aload_n hx hb dX4_doubt_15 rfl (lv_at hl 0 rfl) ?_
  refine gf_X4_12 C0 hH hk0 dX4_doubt_16 ?_
  refine gf_X4_110 C0 hH (kf_4_0 hk0) dX4_doubt_19 ?_
  refine lv_icmp_ge (tgt := 68) hx hb dX4_doubt_22 (by decide) (fun c1 => ?_) (fun c1 => ?_)
  · replace h := if_t h c1
    refine lv_iinc (v := v2 + 1) (lv' := [(2, .int (v2 + 1)), (0, .ref (ea E k0)), (1, .int v1), (3, .int v3)]) hx hb dX4_doubt_68 hl (k := 2) rfl rfl (by decide) rfl (fun ls hl => ?_)
    refine lv_goto (tgt := 7) hx hb dX4_doubt_71 (by decide) ?_
    exact hK7 k0 v1 (v2 + 1) hk0 _ _ _ _ hH (lv_sub hl [1, 2, 0] rfl) h
  · replace h := if_f h c1
    refine lv_iload_n hx hb dX4_doubt_25 rfl (lv_at hl 3 rfl) ?_
    refine lv_aload_n hx hb dX4_doubt_26 rfl (lv_at hl 0 rfl) ?_
    refine gf_X4_12 C0 hH hk0 dX4_doubt_27 ?_
    refine gf_X4_113 C0 hH (kf_4_0 hk0) dX4_doubt_30 ?_
    refine lv_iload_n hx hb dX4_doubt_33 rfl (lv_at hl 2 rfl) ?_
    obtain ⟨b2, h⟩ := gdx_s h
    refine r_iald C0 hH (n := 10) (kf_6_1 (kf_4_0 hk0)) b2 dX4_doubt_34 ?_
    refine lv_icmp_eq (tgt := 62) hx hb dX4_doubt_35 (by decide) (fun c3 => ?_) (fun c3 => ?_)
    · replace h := if_t h c3
      exact w_X4_doubt_b62 C0 K7 K14 hK7 hK14 k0 v1 v2 v3 hk0 hH (lv_sub hl [0, 1, 2, 3] rfl) h
    · replace h := if_f h c3
      refine lv_aload_n hx hb dX4_doubt_38 rfl (lv_at hl 0 rfl) ?_
      refine gf_X4_12 C0 hH hk0 dX4_doubt_39 ?_
      refine lv_iload_n hx hb dX4_doubt_42 rfl (lv_at hl 2 rfl) ?_
      refine lv_iload_n hx hb dX4_doubt_43 rfl (lv_at hl 3 rfl) ?_
      obtain ⟨r4, qr4, h⟩ := ob_s h
      refine go_i hH (va_run_V (As := [.int v2, .int v3]) (rest := []) C0 hH lk_X4_116 (c_X6_fits hAd (k0 + 1) v2 v3 (kf_4_0 hk0) σ qr4) (by decide) (ci := 6) (kf_4_0 hk0) (by decide) (cob_6 _ _ _) rfl rfl hl.1 rfl (Nat.le_of_ble_eq_true rfl) dX4_doubt_44) (fun H locs hH => ?_)
      refine lv_if_eq (tgt := 62) hx hb dX4_doubt_47 (by decide) (fun c5 => ?_) (fun c5 => ?_)
      · replace h := if_t h c5
        exact w_X4_doubt_b62 C0 K7 K14 hK7 hK14 k0 v1 v2 v3 hk0 hH (lv_sub hl [0, 1, 2, 3] rfl) h
      · replace h := if_f h c5
        refine lv_aload_n hx hb dX4_doubt_50 rfl (lv_at hl 0 rfl) ?_
        refine lv_dup hx hb dX4_doubt_51 rfl ?_
        refine gf_X4_38 C0 hH hk0 dX4_doubt_52 ?_
        refine lv_iconst (v := 1) hx hb dX4_doubt_55 (by decide) ?_
        refine lv_iload_n hx hb dX4_doubt_56 rfl (lv_at hl 2 rfl) ?_
        refine lv_ishl hx hb dX4_doubt_57 ?_
        refine lv_ior hx hb dX4_doubt_58 ?_
        refine pf_X4_38 C0 hH hk0 dX4_doubt_59 (fun H locs hH => ?_)
        exact w_X4_doubt_b62 C0 K7 K14 hK7 hK14 k0 v1 v2 v3 hk0 hH (lv_sub hl [0, 1, 2, 3] rfl) h
set_option maxRecDepth 100000 in
set_option maxHeartbeats 4000000 in
theorem w_X4_doubt_l14 {σ' : Mem} (C0 : Cx E p m c cX4_doubt 4 s args RX4 meth (none)) (K7 : Nat → Int32 → Int32 → Mem → Option Mem) (hK7 : ∀ (k0 : Nat) (v1 : Int32) (v2 : Int32) (hk0 : kd k0 = 4) (σ : Mem) (H : Heap) (locs : List Loc) (ls : Array Slot), Hs E s σ H locs → lv_has ls 4 [(0, .ref (ea E k0)), (1, .int v1), (2, .int v2)] → K7 k0 v1 v2 σ = some σ' → W p l e (rmD 1) s m args below meth c H locs 0 0 (MQ below (QvM E σ') args s 0 0 (eA E)) (F0 m 7 ls []))  (n : Nat) : ∀ (k0 : Nat) (v1 : Int32) (v2 : Int32) (v3 : Int32) (hk0 : kd k0 = 4) (σ : Mem) (H : Heap) (locs : List Loc) (ls : Array Slot), Hs E s σ H locs → lv_has ls 4 [(0, .ref (ea E k0)), (1, .int v1), (2, .int v2), (3, .int v3)] → X4_doubt_l14 K7 n k0 v1 v2 v3 σ = some σ' → W p l e (rmD 1) s m args below meth c H locs 0 0 (MQ below (QvM E σ') args s 0 0 (eA E)) (F0 m 14 ls []) := by
  induction n with
  | zero =>
    intro k0 v1 v2 v3 hk0 σ H locs ls hH hl h
    cases h
  | succ n ih =>
    intro k0 v1 v2 v3 hk0 σ H locs ls hH hl h
    exact w_X4_doubt_b14 C0 K7 (X4_doubt_l14 K7 n) hK7 ih k0 v1 v2 v3 hk0 hH hl h
set_option maxRecDepth 100000 in
set_option maxHeartbeats 4000000 in
theorem w_X4_doubt_b7 {σ' : Mem} (C0 : Cx E p m c cX4_doubt 4 s args RX4 meth (none)) (K7 : Nat → Int32 → Int32 → Mem → Option Mem) (hK7 : ∀ (k0 : Nat) (v1 : Int32) (v2 : Int32) (hk0 : kd k0 = 4) (σ : Mem) (H : Heap) (locs : List Loc) (ls : Array Slot), Hs E s σ H locs → lv_has ls 4 [(0, .ref (ea E k0)), (1, .int v1), (2, .int v2)] → K7 k0 v1 v2 σ = some σ' → W p l e (rmD 1) s m args below meth c H locs 0 0 (MQ below (QvM E σ') args s 0 0 (eA E)) (F0 m 7 ls []))  (k0 : Nat) (v1 : Int32) (v2 : Int32) (hk0 : kd k0 = 4) {σ : Mem} {H : Heap} {locs : List Loc} {ls : Array Slot} (hH : Hs E s σ H locs) (hl : lv_has ls 4 [(0, .ref (ea E k0)), (1, .int v1), (2, .int v2)]) (h : X4_doubt_b7 K7 k0 v1 v2 σ = some σ') : W p l e (rmD 1) s m args below meth c H locs 0 0 (MQ below (QvM E σ') args s 0 0 (eA E)) (F0 m 7 ls []) := by
  obtain ⟨⟨hx, hb, hml, hown, hts⟩, hr, hlocks, hF, hAd⟩ := id C0
  unfold X4_doubt_b7 at h
  refine lv_iload_n hx hb dX4_doubt_7 rfl (lv_at hl 2 rfl) ?_
  refine lv_iload_n hx hb dX4_doubt_8 rfl (lv_at hl 1 rfl) ?_
  refine lv_icmp_ge (tgt := 74) hx hb dX4_doubt_9 (by decide) (fun c1 => ?_) (fun c1 => ?_)
  · replace h := if_t h c1
    exact r_vret C0 hH (Option.some.inj h) dX4_doubt_74
  · replace h := if_f h c1
    refine lv_iconst (v := 0) hx hb dX4_doubt_12 (by decide) ?_
    refine lv_istore_n (lv' := [(3, .int 0), (0, .ref (ea E k0)), (1, .int v1), (2, .int v2)]) hx hb dX4_doubt_13 rfl hl (by decide) rfl (fun ls hl => ?_)
    exact w_X4_doubt_l14 C0 K7 hK7 FU k0 v1 v2 0 hk0 _ _ _ _ hH (lv_sub hl [1, 2, 3, 0] rfl) h
set_option maxRecDepth 100000 in
set_option maxHeartbeats 4000000 in
theorem w_X4_doubt_l7 {σ' : Mem} (C0 : Cx E p m c cX4_doubt 4 s args RX4 meth (none))  (n : Nat) : ∀ (k0 : Nat) (v1 : Int32) (v2 : Int32) (hk0 : kd k0 = 4) (σ : Mem) (H : Heap) (locs : List Loc) (ls : Array Slot), Hs E s σ H locs → lv_has ls 4 [(0, .ref (ea E k0)), (1, .int v1), (2, .int v2)] → X4_doubt_l7 n k0 v1 v2 σ = some σ' → W p l e (rmD 1) s m args below meth c H locs 0 0 (MQ below (QvM E σ') args s 0 0 (eA E)) (F0 m 7 ls []) := by
  induction n with
  | zero =>
    intro k0 v1 v2 hk0 σ H locs ls hH hl h
    cases h
  | succ n ih =>
    intro k0 v1 v2 hk0 σ H locs ls hH hl h
    exact w_X4_doubt_b7 C0 (X4_doubt_l7 n)  ih k0 v1 v2 hk0 hH hl h
set_option maxRecDepth 100000 in
set_option maxHeartbeats 4000000 in
theorem w_X4_doubt_b0 {σ' : Mem} (C0 : Cx E p m c cX4_doubt 4 s args RX4 meth (none))  (k0 : Nat) (v1 : Int32) (hk0 : kd k0 = 4) {σ : Mem} {H : Heap} {locs : List Loc} {ls : Array Slot} (hH : Hs E s σ H locs) (hl : lv_has ls 4 [(0, .ref (ea E k0)), (1, .int v1)]) (h : X4_doubt_b0 k0 v1 σ = some σ') : W p l e (rmD 1) s m args below meth c H locs 0 0 (MQ below (QvM E σ') args s 0 0 (eA E)) (F0 m 0 ls []) := by
  obtain ⟨⟨hx, hb, hml, hown, hts⟩, hr, hlocks, hF, hAd⟩ := id C0
  unfold X4_doubt_b0 at h
  refine lv_aload_n hx hb dX4_doubt_0 rfl (lv_at hl 0 rfl) ?_
  refine lv_iconst (v := 0) hx hb dX4_doubt_1 (by decide) ?_
  refine pf_X4_38 C0 hH hk0 dX4_doubt_2 (fun H locs hH => ?_)
  refine lv_iconst (v := 0) hx hb dX4_doubt_5 (by decide) ?_
  refine lv_istore_n (lv' := [(2, .int 0), (0, .ref (ea E k0)), (1, .int v1)]) hx hb dX4_doubt_6 rfl hl (by decide) rfl (fun ls hl => ?_)
  exact w_X4_doubt_l7 C0  FU k0 v1 0 hk0 _ _ _ _ hH (lv_sub hl [1, 2, 0] rfl) h
theorem c_X4_doubt {l : Launch} {E : EnvT} (hAd : Ad E) (k0 : Nat) (v1 : Int32) (hk0 : kd k0 = 4) (σ : Mem) {σ' : Mem} (h : X4_doubt k0 v1 σ = some σ') : Met l yX4_doubt (wsM yX4_doubt cX4_doubt 4 (none)) (rmD 1) (PcM E [.ref (ea E k0), .int v1] σ) (QvM E σ') 0 0 (eA E) :=
  Met.ofM (by decide) (Nat.le_of_ble_eq_true rfl) (fun p e s m below meth c ls C0 hH hl => w_X4_doubt_b0 C0 k0 v1 hk0 hH hl h) hAd
set_option maxRecDepth 100000 in
set_option maxHeartbeats 4000000 in
theorem w_X4_unite_b57 {σ' : Mem} (C0 : Cx E p m c cX4_unite 7 s args RX4 meth (none)) (K57 : Nat → Int32 → Int32 → Int32 → Int32 → Int32 → Mem → Option Mem) (hK57 : ∀ (k0 : Nat) (v1 : Int32) (v2 : Int32) (v3 : Int32) (v4 : Int32) (v5 : Int32) (hk0 : kd k0 = 4) (σ : Mem) (H : Heap) (locs : List Loc) (ls : Array Slot), Hs E s σ H locs → lv_has ls 7 [(0, .ref (ea E k0)), (1, .int v1), (2, .int v2), (3, .int v3), (4, .int v4), (5, .int v5)] → K57 k0 v1 v2 v3 v4 v5 σ = some σ' → W p l e (rmD 1) s m args below meth c H locs 0 0 (MQ below (QvM E σ') args s 0 0 (eA E)) (F0 m 57 ls []))  (k0 : Nat) (v1 : Int32) (v2 : Int32) (v3 : Int32) (v4 : Int32) (v5 : Int32) (hk0 : kd k0 = 4) {σ : Mem} {H : Heap} {locs : List Loc} {ls : Array Slot} (hH : Hs E s σ H locs) (hl : lv_has ls 7 [(0, .ref (ea E k0)), (1, .int v1), (2, .int v2), (3, .int v3), (4, .int v4), (5, .int v5)]) (h : X4_unite_b57 K57 k0 v1 v2 v3 v4 v5 σ = some σ') : W p l e (rmD 1) s m args below meth c H locs 0 0 (MQ below (QvM E σ') args s 0 0 (eA E)) (F0 m 57 ls []) := by
  obtain ⟨⟨hx, hb, hml, hown, hts⟩, hr, hlocks, hF, hAd⟩ := id C0
  unfold X4_unite_b57 at h
  refine lv_iload hx hb dX4_unite_57 (lv_at hl 5 rfl) ?_
  refine lv_iload_n hx hb dX4_unite_59 rfl (lv_at hl 1 rfl) ?_
  refine lv_icmp_ge (tgt := 119) hx hb dX4_unite_60 (by decide) (fun c1 => ?_) (fun c1 => ?_)
  · replace h := if_t h c1
    exact r_vret C0 hH (Option.some.inj h) dX4_unite_119
  · replace h := if_f h c1
    refine lv_iload hx hb dX4_unite_63 (lv_at hl 4 rfl) ?_
    refine lv_aload_n hx hb dX4_unite_65 rfl (lv_at hl 0 rfl) ?_
    refine gf_X4_31 C0 hH hk0 dX4_unite_66 ?_
    refine lv_iload_n hx hb dX4_unite_69 rfl (lv_at hl 2 rfl) ?_
    obtain ⟨b2, h⟩ := gdx_s h
    refine ra_15 C0 hH (kf_4_3 hk0) b2 dX4_unite_70 ?_
    refine lv_iload hx hb dX4_unite_71 (lv_at hl 5 rfl) ?_
    obtain ⟨b3, h⟩ := gdx_s h
    refine r_iald C0 hH (n := 10) (ka_15 (kf_4_3 hk0) b2) b3 dX4_unite_73 ?_
    refine lv_aload_n hx hb dX4_unite_74 rfl (lv_at hl 0 rfl) ?_
    refine gf_X4_31 C0 hH hk0 dX4_unite_75 ?_
    refine lv_iload_n hx hb dX4_unite_78 rfl (lv_at hl 3 rfl) ?_
    obtain ⟨b4, h⟩ := gdx_s h
    refine ra_15 C0 hH (kf_4_3 hk0) b4 dX4_unite_79 ?_
    refine lv_iload hx hb dX4_unite_80 (lv_at hl 5 rfl) ?_
    obtain ⟨b5, h⟩ := gdx_s h
    refine r_iald C0 hH (n := 10) (ka_15 (kf_4_3 hk0) b4) b5 dX4_unite_82 ?_
    refine r_mmax C0 (h := 0) qM_X4_104 hl.1 rfl (Nat.le_of_ble_eq_true rfl) dX4_unite_83 ?_
    refine r_mmax C0 (h := 0) qM_X4_104 hl.1 rfl (Nat.le_of_ble_eq_true rfl) dX4_unite_86 ?_
    obtain ⟨x6, ex6, h⟩ := letv_s h
    refine topi_of ex6 ?_
    refine lv_istore (lv' := [(6, .int x6), (0, .ref (ea E k0)), (1, .int v1), (2, .int v2), (3, .int v3), (4, .int v4), (5, .int v5)]) hx hb dX4_unite_89 hl (by decide) rfl (fun ls hl => ?_)
    refine lv_aload_n hx hb dX4_unite_91 rfl (lv_at hl 1 rfl) ?_
    refine gf_X4_31 C0 hH hk0 dX4_unite_92 ?_
    refine lv_iload_n hx hb dX4_unite_95 rfl (lv_at hl 3 rfl) ?_
    obtain ⟨b7, h⟩ := gdx_s h
    refine ra_15 C0 hH (kf_4_3 hk0) b7 dX4_unite_96 ?_
    refine lv_iload hx hb dX4_unite_97 (lv_at hl 6 rfl) ?_
    refine lv_iload hx hb dX4_unite_99 (lv_at hl 0 rfl) ?_
    obtain ⟨b8, h⟩ := gdx_s h
    refine r_iast C0 hH (n := 10) (ka_15 (kf_4_3 hk0) b7) b8 dX4_unite_101 (fun H locs hH => ?_)
    refine lv_aload_n hx hb dX4_unite_102 rfl (lv_at hl 1 rfl) ?_
    refine gf_X4_31 C0 hH hk0 dX4_unite_103 ?_
    refine lv_iload hx hb dX4_unite_106 (lv_at hl 6 rfl) ?_
    obtain ⟨b9, h⟩ := gdx_s h
    refine ra_15 C0 hH (kf_4_3 hk0) b9 dX4_unite_108 ?_
    refine lv_iload_n hx hb dX4_unite_109 rfl (lv_at hl 3 rfl) ?_
    refine lv_iload hx hb dX4_unite_110 (lv_at hl 0 rfl) ?_
    obtain ⟨σ10, eσ10, h⟩ := letv_s h
    replace hH := hs_of eσ10 hH
    obtain ⟨b11, h⟩ := gdx_s h
    refine r_iast C0 hH (n := 10) (ka_15 (kf_4_3 hk0) b9) b11 dX4_unite_112 (fun H locs hH => ?_)
    refine lv_iinc (v := v5 + 1) (lv' := [(5, .int (v5 + 1)), (6, .int x6), (0, .ref (ea E k0)), (1, .int v1), (2, .int v2), (3, .int v3), (4, .int v4)]) hx hb dX4_unite_113 hl (k := 6) rfl rfl (by decide) rfl (fun ls hl => ?_)
    refine lv_goto (tgt := 57) hx hb dX4_unite_116 (by decide) ?_
    exact hK57 k0 v1 v2 v3 v4 (v5 + 1) hk0 _ _ _ _ hH (lv_sub hl [2, 3, 4, 5, 6, 0] rfl) h
set_option maxRecDepth 100000 in
set_option maxHeartbeats 4000000 in
theorem w_X4_unite_l57 {σ' : Mem} (C0 : Cx E p m c cX4_unite 7 s args RX4 meth (none))  (n : Nat) : ∀ (k0 : Nat) (v1 : Int32) (v2 : Int32) (v3 : Int32) (v4 : Int32) (v5 : Int32) (hk0 : kd k0 = 4) (σ : Mem) (H : Heap) (locs : List Loc) (ls : Array Slot), Hs E s σ H locs → lv_has ls 7 [(0, .ref (ea E k0)), (1, .int v1), (2, .int v2), (3, .int v3), (4, .int v4), (5, .int v5)] → X4_unite_l57 n k0 v1 v2 v3 v4 v5 σ = some σ' → W p l e (rmD 1) s m args below meth c H locs 0 0 (MQ below (QvM E σ') args s 0 0 (eA E)) (F0 m 57 ls []) := by
  induction n with
  | zero =>
    intro k0 v1 v2 v3 v4 v5 hk0 σ H locs ls hH hl h
    cases h
  | succ n ih =>
    intro k0 v1 v2 v3 v4 v5 hk0 σ H locs ls hH hl h
    exact w_X4_unite_b57 C0 (X4_unite_l57 n)  ih k0 v1 v2 v3 v4 v5 hk0 hH hl h
set_option maxRecDepth 100000 in
set_option maxHeartbeats 4000000 in
theorem w_X4_unite_b38 {σ' : Mem} (C0 : Cx E p m c cX4_unite 7 s args RX4 meth (none)) (K13 : Nat → Int32 → Int32 → Int32 → Int32 → Mem → Option Mem) (hK13 : ∀ (k0 : Nat) (v1 : Int32) (v2 : Int32) (v3 : Int32) (v4 : Int32) (hk0 : kd k0 = 4) (σ : Mem) (H : Heap) (locs : List Loc) (ls : Array Slot), Hs E s σ H locs → lv_has ls 7 [(0, .ref (ea E k0)), (1, .int v1), (2, .int v2), (3, .int v3), (4, .int v4)] → K13 k0 v1 v2 v3 v4 σ = some σ' → W p l e (rmD 1) s m args below meth c H locs 0 0 (MQ below (QvM E σ') args s 0 0 (eA E)) (F0 m 13 ls []))  (k0 : Nat) (v1 : Int32) (v2 : Int32) (v3 : Int32) (v4 : Int32) (hk0 : kd k0 = 4) {σ : Mem} {H : Heap} {locs : List Loc} {ls : Array Slot} (hH : Hs E s σ H locs) (hl : lv_has ls 7 [(0, .ref (ea E k0)), (1, .int v1), (2, .int v2), (3, .int v3), (4, .int v4)]) (h : X4_unite_b38 K13 k0 v1 v2 v3 v4 σ = some σ') : W p l e (rmD 1) s m args below meth c H locs 0 0 (MQ below (QvM E σ') args s 0 0 (eA E)) (F0 m 38 ls []) := by
  obtain ⟨⟨hx, hb, hml, hown, hts⟩, hr, hlocks, hF, hAd⟩ := id C0
  unfold X4_unite_b38 at h
  refine lv_iinc (v := v4 + 1) (lv' := [(4, .int (v4 + 1)), (0, .ref (ea E k0)), (1, .int v1), (2, .int v2), (3, .int v3)]) hx hb dX4_unite_38 hl (k := 4) rfl rfl (by decide) rfl (fun ls hl => ?_)
  refine lv_goto (tgt := 13) hx hb dX4_unite_41 (by decide) ?_
  exact hK13 k0 v1 v2 v3 (v4 + 1) hk0 _ _ _ _ hH (lv_sub hl [1, 2, 3, 4, 0] rfl) h
set_option maxRecDepth 100000 in
set_option maxHeartbeats 4000000 in
theorem w_X4_unite_b13 {σ' : Mem} (C0 : Cx E p m c cX4_unite 7 s args RX4 meth (none)) (K13 : Nat → Int32 → Int32 → Int32 → Int32 → Mem → Option Mem) (hK13 : ∀ (k0 : Nat) (v1 : Int32) (v2 : Int32) (v3 : Int32) (v4 : Int32) (hk0 : kd k0 = 4) (σ : Mem) (H : Heap) (locs : List Loc) (ls : Array Slot), Hs E s σ H locs → lv_has ls 7 [(0, .ref (ea E k0)), (1, .int v1), (2, .int v2), (3, .int v3), (4, .int v4)] → K13 k0 v1 v2 v3 v4 σ = some σ' → W p l e (rmD 1) s m args below meth c H locs 0 0 (MQ below (QvM E σ') args s 0 0 (eA E)) (F0 m 13 ls []))  (k0 : Nat) (v1 : Int32) (v2 : Int32) (v3 : Int32) (v4 : Int32) (hk0 : kd k0 = 4) {σ : Mem} {H : Heap} {locs : List Loc} {ls : Array Slot} (hH : Hs E s σ H locs) (hl : lv_has ls 7 [(0, .ref (ea E k0)), (1, .int v1), (2, .int v2), (3, .int v3), (4, .int v4)]) (h : X4_unite_b13 K13 k0 v1 v2 v3 v4 σ = some σ') : W p l e (rmD 1) s m args below meth c H locs 0 0 (MQ below (QvM E σ') args s 0 0 (eA E)) (F0 m 13 ls []) := by
  obtain ⟨⟨hx, hb, hml, hown, hts⟩, hr, hlocks, hF, hAd⟩ := id C0
  unfold X4_unite_b13 at h
  refine lv_iload hx hb dX4_unite_13 (lv_at hl 4 rfl) ?_
  refine lv_iload_n hx hb dX4_unite_15 rfl (lv_at hl 1 rfl) ?_
  refine lv_icmp_ge (tgt := 44) hx hb dX4_unite_16 (by decide) (fun c1 => ?_) (fun c1 => ?_)
  · replace h := if_t h c1
    refine lv_aload_n hx hb dX4_unite_44 rfl (lv_at hl 0 rfl) ?_
    refine gf_X4_31 C0 hH hk0 dX4_unite_45 ?_
    refine lv_iload_n hx hb dX4_unite_48 rfl (lv_at hl 2 rfl) ?_
    obtain ⟨b2, h⟩ := gdx_s h
    refine ra_15 C0 hH (kf_4_3 hk0) b2 dX4_unite_49 ?_
    refine lv_iload_n hx hb dX4_unite_50 rfl (lv_at hl 3 rfl) ?_
    obtain ⟨b3, h⟩ := gdx_s h
    refine r_iald C0 hH (n := 10) (ka_15 (kf_4_3 hk0) b2) b3 dX4_unite_51 ?_
    obtain ⟨x4, ex4, h⟩ := letv_s h
    refine topi_of ex4 ?_
    refine lv_istore (lv' := [(4, .int x4), (0, .ref (ea E k0)), (1, .int v1), (2, .int v2), (3, .int v3)]) hx hb dX4_unite_52 hl (by decide) rfl (fun ls hl => ?_)
    refine lv_iconst (v := 0) hx hb dX4_unite_54 (by decide) ?_
    refine lv_istore (lv' := [(5, .int 0), (4, .int x4), (0, .ref (ea E k0)), (1, .int v1), (2, .int v2), (3, .int v3)]) hx hb dX4_unite_55 hl (by decide) rfl (fun ls hl => ?_)
    exact w_X4_unite_l57 C0  FU k0 v1 v2 v3 x4 0 hk0 _ _ _ _ hH (lv_sub hl [2, 3, 4, 5, 1, 0] rfl) h
  · replace h := if_f h c1
    refine lv_aload_n hx hb dX4_unite_19 rfl (lv_at hl 0 rfl) ?_
    refine gf_X4_25 C0 hH hk0 dX4_unite_20 ?_
    refine lv_iload hx hb dX4_unite_23 (lv_at hl 4 rfl) ?_
    obtain ⟨b5, h⟩ := gdx_s h
    refine r_iald C0 hH (n := 10) (kf_4_2 hk0) b5 dX4_unite_25 ?_
    refine lv_iload_n hx hb dX4_unite_26 rfl (lv_at hl 3 rfl) ?_
    refine lv_icmp_ne (tgt := 38) hx hb dX4_unite_27 (by decide) (fun c6 => ?_) (fun c6 => ?_)
    · replace h := if_f h c6
      exact w_X4_unite_b38 C0 K13 hK13 k0 v1 v2 v3 v4 hk0 hH (lv_sub hl [0, 1, 2, 3, 4] rfl) h
    · replace h := if_t h c6
      refine lv_aload_n hx hb dX4_unite_30 rfl (lv_at hl 0 rfl) ?_
      refine gf_X4_25 C0 hH hk0 dX4_unite_31 ?_
      refine lv_iload hx hb dX4_unite_34 (lv_at hl 4 rfl) ?_
      refine lv_iload_n hx hb dX4_unite_36 rfl (lv_at hl 2 rfl) ?_
      obtain ⟨b7, h⟩ := gdx_s h
      refine r_iast C0 hH (n := 10) (kf_4_2 hk0) b7 dX4_unite_37 (fun H locs hH => ?_)
      exact w_X4_unite_b38 C0 K13 hK13 k0 v1 v2 v3 v4 hk0 hH (lv_sub hl [0, 1, 2, 3, 4] rfl) h
set_option maxRecDepth 100000 in
set_option maxHeartbeats 4000000 in
theorem w_X4_unite_l13 {σ' : Mem} (C0 : Cx E p m c cX4_unite 7 s args RX4 meth (none))  (n : Nat) : ∀ (k0 : Nat) (v1 : Int32) (v2 : Int32) (v3 : Int32) (v4 : Int32) (hk0 : kd k0 = 4) (σ : Mem) (H : Heap) (locs : List Loc) (ls : Array Slot), Hs E s σ H locs → lv_has ls 7 [(0, .ref (ea E k0)), (1, .int v1), (2, .int v2), (3, .int v3), (4, .int v4)] → X4_unite_l13 n k0 v1 v2 v3 v4 σ = some σ' → W p l e (rmD 1) s m args below meth c H locs 0 0 (MQ below (QvM E σ') args s 0 0 (eA E)) (F0 m 13 ls []) := by
  induction n with
  | zero =>
    intro k0 v1 v2 v3 v4 hk0 σ H locs ls hH hl h
    cases h
  | succ n ih =>
    intro k0 v1 v2 v3 v4 hk0 σ H locs ls hH hl h
    exact w_X4_unite_b13 C0 (X4_unite_l13 n)  ih k0 v1 v2 v3 v4 hk0 hH hl h
set_option maxRecDepth 100000 in
set_option maxHeartbeats 4000000 in
theorem w_X4_unite_b0 {σ' : Mem} (C0 : Cx E p m c cX4_unite 7 s args RX4 meth (none))  (k0 : Nat) (v1 : Int32) (v2 : Int32) (v3 : Int32) (hk0 : kd k0 = 4) {σ : Mem} {H : Heap} {locs : List Loc} {ls : Array Slot} (hH : Hs E s σ H locs) (hl : lv_has ls 7 [(0, .ref (ea E k0)), (1, .int v1), (2, .int v2), (3, .int v3)]) (h : X4_unite_b0 k0 v1 v2 v3 σ = some σ') : W p l e (rmD 1) s m args below meth c H locs 0 0 (MQ below (QvM E σ') args s 0 0 (eA E)) (F0 m 0 ls []) := by
  obtain ⟨⟨hx, hb, hml, hown, hts⟩, hr, hlocks, hF, hAd⟩ := id C0
  unfold X4_unite_b0 at h
  refine lv_aload_n hx hb dX4_unite_0 rfl (lv_at hl 0 rfl) ?_
  refine lv_dup hx hb dX4_unite_1 rfl ?_
  refine gf_X4_34 C0 hH hk0 dX4_unite_2 ?_
  refine lv_iconst (v := 1) hx hb dX4_unite_5 (by decide) ?_
  refine lv_isub hx hb dX4_unite_6 ?_
  refine pf_X4_34 C0 hH hk0 dX4_unite_7 (fun H locs hH => ?_)
  refine lv_iconst (v := 0) hx hb dX4_unite_10 (by decide) ?_
  refine lv_istore (lv' := [(4, .int 0), (0, .ref (ea E k0)), (1, .int v1), (2, .int v2), (3, .int v3)]) hx hb dX4_unite_11 hl (by decide) rfl (fun ls hl => ?_)
  exact w_X4_unite_l13 C0  FU k0 v1 v2 v3 0 hk0 _ _ _ _ hH (lv_sub hl [1, 2, 3, 4, 0] rfl) h
theorem c_X4_unite {l : Launch} {E : EnvT} (hAd : Ad E) (k0 : Nat) (v1 : Int32) (v2 : Int32) (v3 : Int32) (hk0 : kd k0 = 4) (σ : Mem) {σ' : Mem} (h : X4_unite k0 v1 v2 v3 σ = some σ') : Met l yX4_unite (wsM yX4_unite cX4_unite 7 (none)) (rmD 1) (PcM E [.ref (ea E k0), .int v1, .int v2, .int v3] σ) (QvM E σ') 0 0 (eA E) :=
  Met.ofM (by decide) (Nat.le_of_ble_eq_true rfl) (fun p e s m below meth c ls C0 hH hl => w_X4_unite_b0 C0 k0 v1 v2 v3 hk0 hH hl h) hAd
set_option maxRecDepth 100000 in
set_option maxHeartbeats 4000000 in
theorem w_X4_joinsOnce_b91 {r : Int32} {σ' : Mem} (C0 : Cx E p m c cX4_joinsOnce 8 s args RX4 meth (some .boolean)) (K15 : Nat → Int32 → Int32 → Int32 → Int32 → Int32 → Mem → Option (Int32 × Mem)) (K27 : Nat → Int32 → Int32 → Int32 → Int32 → Int32 → Int32 → Mem → Option (Int32 × Mem)) (hK15 : ∀ (k0 : Nat) (v1 : Int32) (v3 : Int32) (v4 : Int32) (v5 : Int32) (v6 : Int32) (hk0 : kd k0 = 4) (σ : Mem) (H : Heap) (locs : List Loc) (ls : Array Slot), Hs E s σ H locs → lv_has ls 8 [(0, .ref (ea E k0)), (1, .int v1), (3, .int v3), (4, .int v4), (5, .int v5), (6, .int v6)] → K15 k0 v1 v3 v4 v5 v6 σ = some (r, σ') → W p l e (rmD 2) s m args below meth c H locs 0 0 (MQ below (QiM E r σ') args s 0 0 (eA E)) (F0 m 15 ls [])) (hK27 : ∀ (k0 : Nat) (v1 : Int32) (v3 : Int32) (v4 : Int32) (v5 : Int32) (v6 : Int32) (v7 : Int32) (hk0 : kd k0 = 4) (σ : Mem) (H : Heap) (locs : List Loc) (ls : Array Slot), Hs E s σ H locs → lv_has ls 8 [(0, .ref (ea E k0)), (1, .int v1), (3, .int v3), (4, .int v4), (5, .int v5), (6, .int v6), (7, .int v7)] → K27 k0 v1 v3 v4 v5 v6 v7 σ = some (r, σ') → W p l e (rmD 2) s m args below meth c H locs 0 0 (MQ below (QiM E r σ') args s 0 0 (eA E)) (F0 m 27 ls []))  (k0 : Nat) (v1 : Int32) (v3 : Int32) (v4 : Int32) (v5 : Int32) (v6 : Int32) (v7 : Int32) (hk0 : kd k0 = 4) {σ : Mem} {H : Heap} {locs : List Loc} {ls : Array Slot} (hH : Hs E s σ H locs) (hl : lv_has ls 8 [(0, .ref (ea E k0)), (1, .int v1), (3, .int v3), (4, .int v4), (5, .int v5), (6, .int v6), (7, .int v7)]) (h : X4_joinsOnce_b91 K15 K27 k0 v1 v3 v4 v5 v6 v7 σ = some (r, σ')) : W p l e (rmD 2) s m args below meth c H locs 0 0 (MQ below (QiM E r σ') args s 0 0 (eA E)) (F0 m 91 ls []) := by
  obtain ⟨⟨hx, hb, hml, hown, hts⟩, hr, hlocks, hF, hAd⟩ := id C0
  unfold X4_joinsOnce_b91 at h
  refine lv_iinc (v := v7 + 1) (lv' := [(7, .int (v7 + 1)), (0, .ref (ea E k0)), (1, .int v1), (3, .int v3), (4, .int v4), (5, .int v5), (6, .int v6)]) hx hb dX4_joinsOnce_91 hl (k := 6) rfl rfl (by decide) rfl (fun ls hl => ?_)
  refine lv_goto (tgt := 27) hx hb dX4_joinsOnce_94 (by decide) ?_
  exact hK27 k0 v1 v3 v4 v5 v6 (v7 + 1) hk0 _ _ _ _ hH (lv_sub hl [1, 2, 3, 4, 5, 6, 0] rfl) h
set_option maxRecDepth 100000 in
set_option maxHeartbeats 4000000 in
theorem w_X4_joinsOnce_b27 {r : Int32} {σ' : Mem} (C0 : Cx E p m c cX4_joinsOnce 8 s args RX4 meth (some .boolean)) (K15 : Nat → Int32 → Int32 → Int32 → Int32 → Int32 → Mem → Option (Int32 × Mem)) (K27 : Nat → Int32 → Int32 → Int32 → Int32 → Int32 → Int32 → Mem → Option (Int32 × Mem)) (hK15 : ∀ (k0 : Nat) (v1 : Int32) (v3 : Int32) (v4 : Int32) (v5 : Int32) (v6 : Int32) (hk0 : kd k0 = 4) (σ : Mem) (H : Heap) (locs : List Loc) (ls : Array Slot), Hs E s σ H locs → lv_has ls 8 [(0, .ref (ea E k0)), (1, .int v1), (3, .int v3), (4, .int v4), (5, .int v5), (6, .int v6)] → K15 k0 v1 v3 v4 v5 v6 σ = some (r, σ') → W p l e (rmD 2) s m args below meth c H locs 0 0 (MQ below (QiM E r σ') args s 0 0 (eA E)) (F0 m 15 ls [])) (hK27 : ∀ (k0 : Nat) (v1 : Int32) (v3 : Int32) (v4 : Int32) (v5 : Int32) (v6 : Int32) (v7 : Int32) (hk0 : kd k0 = 4) (σ : Mem) (H : Heap) (locs : List Loc) (ls : Array Slot), Hs E s σ H locs → lv_has ls 8 [(0, .ref (ea E k0)), (1, .int v1), (3, .int v3), (4, .int v4), (5, .int v5), (6, .int v6), (7, .int v7)] → K27 k0 v1 v3 v4 v5 v6 v7 σ = some (r, σ') → W p l e (rmD 2) s m args below meth c H locs 0 0 (MQ below (QiM E r σ') args s 0 0 (eA E)) (F0 m 27 ls []))  (k0 : Nat) (v1 : Int32) (v3 : Int32) (v4 : Int32) (v5 : Int32) (v6 : Int32) (v7 : Int32) (hk0 : kd k0 = 4) {σ : Mem} {H : Heap} {locs : List Loc} {ls : Array Slot} (hH : Hs E s σ H locs) (hl : lv_has ls 8 [(0, .ref (ea E k0)), (1, .int v1), (3, .int v3), (4, .int v4), (5, .int v5), (6, .int v6), (7, .int v7)]) (h : X4_joinsOnce_b27 K15 K27 k0 v1 v3 v4 v5 v6 v7 σ = some (r, σ')) : W p l e (rmD 2) s m args below meth c H locs 0 0 (MQ below (QiM E r σ') args s 0 0 (eA E)) (F0 m 27 ls []) := by
  obtain ⟨⟨hx, hb, hml, hown, hts⟩, hr, hlocks, hF, hAd⟩ := id C0
  unfold X4_joinsOnce_b27 at h
  refine lv_iload hx hb dX4_joinsOnce_27 (lv_at hl 6 rfl) ?_
  refine lv_iload_n hx hb dX4_joinsOnce_29 rfl (lv_at hl 1 rfl) ?_
  refine lv_icmp_ge (tgt := 97) hx hb dX4_joinsOnce_30 (by decide) (fun c1 => ?_) (fun c1 => ?_)
  · replace h := if_t h c1
    refine lv_iinc (v := v6 + 1) (lv' := [(6, .int (v6 + 1)), (0, .ref (ea E k0)), (1, .int v1), (3, .int v3), (4, .int v4), (5, .int v5), (7, .int v7)]) hx hb dX4_joinsOnce_97 hl (k := 5) rfl rfl (by decide) rfl (fun ls hl => ?_)
    refine lv_goto (tgt := 15) hx hb dX4_joinsOnce_100 (by decide) ?_
    exact hK15 k0 v1 v3 v4 v5 (v6 + 1) hk0 _ _ _ _ hH (lv_sub hl [1, 2, 3, 4, 5, 0] rfl) h
  · replace h := if_f h c1
    refine lv_aload_n hx hb dX4_joinsOnce_33 rfl (lv_at hl 0 rfl) ?_
    refine gf_X4_25 C0 hH hk0 dX4_joinsOnce_34 ?_
    refine lv_iload hx hb dX4_joinsOnce_37 (lv_at hl 5 rfl) ?_
    obtain ⟨b2, h⟩ := gdx_s h
    refine r_iald C0 hH (n := 10) (kf_4_2 hk0) b2 dX4_joinsOnce_39 ?_
    refine lv_iload hx hb dX4_joinsOnce_40 (lv_at hl 5 rfl) ?_
    refine lv_icmp_ne (tgt := 91) hx hb dX4_joinsOnce_42 (by decide) (fun c3 => ?_) (fun c3 => ?_)
    · replace h := if_f h c3
      exact w_X4_joinsOnce_b91 C0 K15 K27 hK15 hK27 k0 v1 v3 v4 v5 v6 v7 hk0 hH (lv_sub hl [0, 1, 2, 3, 4, 5, 6] rfl) h
    · replace h := if_t h c3
      refine lv_aload_n hx hb dX4_joinsOnce_45 rfl (lv_at hl 0 rfl) ?_
      refine gf_X4_25 C0 hH hk0 dX4_joinsOnce_46 ?_
      refine lv_iload hx hb dX4_joinsOnce_49 (lv_at hl 6 rfl) ?_
      obtain ⟨b4, h⟩ := gdx_s h
      refine r_iald C0 hH (n := 10) (kf_4_2 hk0) b4 dX4_joinsOnce_51 ?_
      refine lv_iload hx hb dX4_joinsOnce_52 (lv_at hl 6 rfl) ?_
      refine lv_icmp_ne (tgt := 91) hx hb dX4_joinsOnce_54 (by decide) (fun c5 => ?_) (fun c5 => ?_)
      · replace h := if_f h c5
        exact w_X4_joinsOnce_b91 C0 K15 K27 hK15 hK27 k0 v1 v3 v4 v5 v6 v7 hk0 hH (lv_sub hl [0, 1, 2, 3, 4, 5, 6] rfl) h
      · replace h := if_t h c5
        refine lv_aload_n hx hb dX4_joinsOnce_57 rfl (lv_at hl 0 rfl) ?_
        refine gf_X4_31 C0 hH hk0 dX4_joinsOnce_58 ?_
        refine lv_iload hx hb dX4_joinsOnce_61 (lv_at hl 5 rfl) ?_
        obtain ⟨b6, h⟩ := gdx_s h
        refine ra_15 C0 hH (kf_4_3 hk0) b6 dX4_joinsOnce_63 ?_
        refine lv_iload hx hb dX4_joinsOnce_64 (lv_at hl 6 rfl) ?_
        obtain ⟨b7, h⟩ := gdx_s h
        refine r_iald C0 hH (n := 10) (ka_15 (kf_4_3 hk0) b6) b7 dX4_joinsOnce_66 ?_
        refine lv_iload hx hb dX4_joinsOnce_67 (lv_at hl 4 rfl) ?_
        refine lv_icmp_ge (tgt := 91) hx hb dX4_joinsOnce_69 (by decide) (fun c8 => ?_) (fun c8 => ?_)
        · replace h := if_t h c8
          exact w_X4_joinsOnce_b91 C0 K15 K27 hK15 hK27 k0 v1 v3 v4 v5 v6 v7 hk0 hH (lv_sub hl [0, 1, 2, 3, 4, 5, 6] rfl) h
        · replace h := if_f h c8
          refine lv_iload hx hb dX4_joinsOnce_72 (lv_at hl 5 rfl) ?_
          refine lv_istore_n (lv' := [(3, .int v6), (0, .ref (ea E k0)), (1, .int v1), (4, .int v4), (5, .int v5), (6, .int v6), (7, .int v7)]) hx hb dX4_joinsOnce_74 rfl hl (by decide) rfl (fun ls hl => ?_)
          refine lv_iload hx hb dX4_joinsOnce_75 (lv_at hl 6 rfl) ?_
          refine lv_istore (lv' := [(4, .int v7), (3, .int v6), (0, .ref (ea E k0)), (1, .int v1), (5, .int v5), (6, .int v6), (7, .int v7)]) hx hb dX4_joinsOnce_77 hl (by decide) rfl (fun ls hl => ?_)
          refine lv_aload_n hx hb dX4_joinsOnce_79 rfl (lv_at hl 2 rfl) ?_
          refine gf_X4_31 C0 hH hk0 dX4_joinsOnce_80 ?_
          refine lv_iload hx hb dX4_joinsOnce_83 (lv_at hl 5 rfl) ?_
          obtain ⟨b9, h⟩ := gdx_s h
          refine ra_15 C0 hH (kf_4_3 hk0) b9 dX4_joinsOnce_85 ?_
          refine lv_iload hx hb dX4_joinsOnce_86 (lv_at hl 6 rfl) ?_
          obtain ⟨b10, h⟩ := gdx_s h
          refine r_iald C0 hH (n := 10) (ka_15 (kf_4_3 hk0) b9) b10 dX4_joinsOnce_88 ?_
          obtain ⟨x11, ex11, h⟩ := letv_s h
          refine topi_of ex11 ?_
          refine lv_istore (lv' := [(5, .int x11), (4, .int v7), (3, .int v6), (0, .ref (ea E k0)), (1, .int v1), (6, .int v6), (7, .int v7)]) hx hb dX4_joinsOnce_89 hl (by decide) rfl (fun ls hl => ?_)
          exact w_X4_joinsOnce_b91 C0 K15 K27 hK15 hK27 k0 v1 v6 v7 x11 v6 v7 hk0 hH (lv_sub hl [3, 4, 2, 1, 0, 5, 6] rfl) h
set_option maxRecDepth 100000 in
set_option maxHeartbeats 4000000 in
theorem w_X4_joinsOnce_l27 {r : Int32} {σ' : Mem} (C0 : Cx E p m c cX4_joinsOnce 8 s args RX4 meth (some .boolean)) (K15 : Nat → Int32 → Int32 → Int32 → Int32 → Int32 → Mem → Option (Int32 × Mem)) (hK15 : ∀ (k0 : Nat) (v1 : Int32) (v3 : Int32) (v4 : Int32) (v5 : Int32) (v6 : Int32) (hk0 : kd k0 = 4) (σ : Mem) (H : Heap) (locs : List Loc) (ls : Array Slot), Hs E s σ H locs → lv_has ls 8 [(0, .ref (ea E k0)), (1, .int v1), (3, .int v3), (4, .int v4), (5, .int v5), (6, .int v6)] → K15 k0 v1 v3 v4 v5 v6 σ = some (r, σ') → W p l e (rmD 2) s m args below meth c H locs 0 0 (MQ below (QiM E r σ') args s 0 0 (eA E)) (F0 m 15 ls []))  (n : Nat) : ∀ (k0 : Nat) (v1 : Int32) (v3 : Int32) (v4 : Int32) (v5 : Int32) (v6 : Int32) (v7 : Int32) (hk0 : kd k0 = 4) (σ : Mem) (H : Heap) (locs : List Loc) (ls : Array Slot), Hs E s σ H locs → lv_has ls 8 [(0, .ref (ea E k0)), (1, .int v1), (3, .int v3), (4, .int v4), (5, .int v5), (6, .int v6), (7, .int v7)] → X4_joinsOnce_l27 K15 n k0 v1 v3 v4 v5 v6 v7 σ = some (r, σ') → W p l e (rmD 2) s m args below meth c H locs 0 0 (MQ below (QiM E r σ') args s 0 0 (eA E)) (F0 m 27 ls []) := by
  induction n with
  | zero =>
    intro k0 v1 v3 v4 v5 v6 v7 hk0 σ H locs ls hH hl h
    cases h
  | succ n ih =>
    intro k0 v1 v3 v4 v5 v6 v7 hk0 σ H locs ls hH hl h
    exact w_X4_joinsOnce_b27 C0 K15 (X4_joinsOnce_l27 K15 n) hK15 ih k0 v1 v3 v4 v5 v6 v7 hk0 hH hl h
set_option maxRecDepth 100000 in
set_option maxHeartbeats 4000000 in
theorem w_X4_joinsOnce_b15 {r : Int32} {σ' : Mem} (C0 : Cx E p m c cX4_joinsOnce 8 s args RX4 meth (some .boolean)) (K15 : Nat → Int32 → Int32 → Int32 → Int32 → Int32 → Mem → Option (Int32 × Mem)) (hK15 : ∀ (k0 : Nat) (v1 : Int32) (v3 : Int32) (v4 : Int32) (v5 : Int32) (v6 : Int32) (hk0 : kd k0 = 4) (σ : Mem) (H : Heap) (locs : List Loc) (ls : Array Slot), Hs E s σ H locs → lv_has ls 8 [(0, .ref (ea E k0)), (1, .int v1), (3, .int v3), (4, .int v4), (5, .int v5), (6, .int v6)] → K15 k0 v1 v3 v4 v5 v6 σ = some (r, σ') → W p l e (rmD 2) s m args below meth c H locs 0 0 (MQ below (QiM E r σ') args s 0 0 (eA E)) (F0 m 15 ls []))  (k0 : Nat) (v1 : Int32) (v3 : Int32) (v4 : Int32) (v5 : Int32) (v6 : Int32) (hk0 : kd k0 = 4) {σ : Mem} {H : Heap} {locs : List Loc} {ls : Array Slot} (hH : Hs E s σ H locs) (hl : lv_has ls 8 [(0, .ref (ea E k0)), (1, .int v1), (3, .int v3), (4, .int v4), (5, .int v5), (6, .int v6)]) (h : X4_joinsOnce_b15 K15 k0 v1 v3 v4 v5 v6 σ = some (r, σ')) : W p l e (rmD 2) s m args below meth c H locs 0 0 (MQ below (QiM E r σ') args s 0 0 (eA E)) (F0 m 15 ls []) := by
  obtain ⟨⟨hx, hb, hml, hown, hts⟩, hr, hlocks, hF, hAd⟩ := id C0
  unfold X4_joinsOnce_b15 at h
  refine lv_iload hx hb dX4_joinsOnce_15 (lv_at hl 5 rfl) ?_
  refine lv_iload_n hx hb dX4_joinsOnce_17 rfl (lv_at hl 1 rfl) ?_
  refine lv_icmp_ge (tgt := 103) hx hb dX4_joinsOnce_18 (by decide) (fun c1 => ?_) (fun c1 => ?_)
  · replace h := if_t h c1
    refine lv_iload_n hx hb dX4_joinsOnce_103 rfl (lv_at hl 2 rfl) ?_
    refine lv_if_lt (tgt := 112) hx hb dX4_joinsOnce_104 (by decide) (fun c2 => ?_) (fun c2 => ?_)
    · replace h := if_t h c2
      refine lv_iconst (v := 0) hx hb dX4_joinsOnce_112 (by decide) ?_
      exact r_zret C0 rfl hH (pj1 h) (pj2 h) dX4_joinsOnce_113
    · replace h := if_f h c2
      refine lv_iload hx hb dX4_joinsOnce_107 (lv_at hl 3 rfl) ?_
      refine lv_if_ge (tgt := 114) hx hb dX4_joinsOnce_109 (by decide) (fun c3 => ?_) (fun c3 => ?_)
      · replace h := if_t h c3
        refine lv_aload_n hx hb dX4_joinsOnce_114 rfl (lv_at hl 0 rfl) ?_
        refine lv_iload_n hx hb dX4_joinsOnce_115 rfl (lv_at hl 1 rfl) ?_
        refine lv_iload_n hx hb dX4_joinsOnce_116 rfl (lv_at hl 2 rfl) ?_
        refine lv_iload hx hb dX4_joinsOnce_117 (lv_at hl 3 rfl) ?_
        obtain ⟨σ4, qσ4, h⟩ := ob_s h
        refine go_v hH (va_run_V (As := [.int v1, .int v3, .int v4]) (rest := []) C0 hH lk_X4_100 (c_X4_unite hAd k0 v1 v3 v4 hk0 σ qσ4) (by decide) (ci := 4) hk0 (by decide) (cob_4 _ _ _) rfl rfl hl.1 rfl (Nat.le_of_ble_eq_true rfl) dX4_joinsOnce_119) (fun H locs hH => ?_)
        refine lv_iconst (v := 1) hx hb dX4_joinsOnce_122 (by decide) ?_
        exact r_zret C0 rfl hH (pj1 h) (pj2 h) dX4_joinsOnce_123
      · replace h := if_f h c3
        refine lv_iconst (v := 0) hx hb dX4_joinsOnce_112 (by decide) ?_
        exact r_zret C0 rfl hH (pj1 h) (pj2 h) dX4_joinsOnce_113
  · replace h := if_f h c1
    refine lv_iload hx hb dX4_joinsOnce_21 (lv_at hl 5 rfl) ?_
    refine lv_iconst (v := 1) hx hb dX4_joinsOnce_23 (by decide) ?_
    refine lv_iadd hx hb dX4_joinsOnce_24 ?_
    obtain ⟨x5, ex5, h⟩ := letv_s h
    refine topi_of ex5 ?_
    refine lv_istore (lv' := [(7, .int x5), (0, .ref (ea E k0)), (1, .int v1), (3, .int v3), (4, .int v4), (5, .int v5), (6, .int v6)]) hx hb dX4_joinsOnce_25 hl (by decide) rfl (fun ls hl => ?_)
    exact w_X4_joinsOnce_l27 C0 K15 hK15 FU k0 v1 v3 v4 v5 v6 x5 hk0 _ _ _ _ hH (lv_sub hl [1, 2, 3, 4, 5, 6, 0] rfl) h
set_option maxRecDepth 100000 in
set_option maxHeartbeats 4000000 in
theorem w_X4_joinsOnce_l15 {r : Int32} {σ' : Mem} (C0 : Cx E p m c cX4_joinsOnce 8 s args RX4 meth (some .boolean))  (n : Nat) : ∀ (k0 : Nat) (v1 : Int32) (v3 : Int32) (v4 : Int32) (v5 : Int32) (v6 : Int32) (hk0 : kd k0 = 4) (σ : Mem) (H : Heap) (locs : List Loc) (ls : Array Slot), Hs E s σ H locs → lv_has ls 8 [(0, .ref (ea E k0)), (1, .int v1), (3, .int v3), (4, .int v4), (5, .int v5), (6, .int v6)] → X4_joinsOnce_l15 n k0 v1 v3 v4 v5 v6 σ = some (r, σ') → W p l e (rmD 2) s m args below meth c H locs 0 0 (MQ below (QiM E r σ') args s 0 0 (eA E)) (F0 m 15 ls []) := by
  induction n with
  | zero =>
    intro k0 v1 v3 v4 v5 v6 hk0 σ H locs ls hH hl h
    cases h
  | succ n ih =>
    intro k0 v1 v3 v4 v5 v6 hk0 σ H locs ls hH hl h
    exact w_X4_joinsOnce_b15 C0 (X4_joinsOnce_l15 n)  ih k0 v1 v3 v4 v5 v6 hk0 hH hl h
set_option maxRecDepth 100000 in
set_option maxHeartbeats 4000000 in
theorem w_X4_joinsOnce_b0 {r : Int32} {σ' : Mem} (C0 : Cx E p m c cX4_joinsOnce 8 s args RX4 meth (some .boolean))  (k0 : Nat) (v1 : Int32) (v2 : Int32) (hk0 : kd k0 = 4) {σ : Mem} {H : Heap} {locs : List Loc} {ls : Array Slot} (hH : Hs E s σ H locs) (hl : lv_has ls 8 [(0, .ref (ea E k0)), (1, .int v1), (2, .int v2)]) (h : X4_joinsOnce_b0 k0 v1 v2 σ = some (r, σ')) : W p l e (rmD 2) s m args below meth c H locs 0 0 (MQ below (QiM E r σ') args s 0 0 (eA E)) (F0 m 0 ls []) := by
  obtain ⟨⟨hx, hb, hml, hown, hts⟩, hr, hlocks, hF, hAd⟩ := id C0
  unfold X4_joinsOnce_b0 at h
  refine lv_ldc hx hb hown (hts _ qK_X4_99) dX4_joinsOnce_0 ?_
  refine lv_istore_n (lv' := [(3, .int ((-1000000))), (0, .ref (ea E k0)), (1, .int v1), (2, .int v2)]) hx hb dX4_joinsOnce_2 rfl hl (by decide) rfl (fun ls hl => ?_)
  refine lv_ldc hx hb hown (hts _ qK_X4_99) dX4_joinsOnce_3 ?_
  refine lv_istore (lv' := [(4, .int ((-1000000))), (3, .int ((-1000000))), (0, .ref (ea E k0)), (1, .int v1), (2, .int v2)]) hx hb dX4_joinsOnce_5 hl (by decide) rfl (fun ls hl => ?_)
  refine lv_iload_n hx hb dX4_joinsOnce_7 rfl (lv_at hl 4 rfl) ?_
  refine lv_iconst (v := 1) hx hb dX4_joinsOnce_8 (by decide) ?_
  refine lv_iadd hx hb dX4_joinsOnce_9 ?_
  obtain ⟨x1, ex1, h⟩ := letv_s h
  refine topi_of ex1 ?_
  refine lv_istore (lv' := [(5, .int x1), (4, .int ((-1000000))), (3, .int ((-1000000))), (0, .ref (ea E k0)), (1, .int v1), (2, .int v2)]) hx hb dX4_joinsOnce_10 hl (by decide) rfl (fun ls hl => ?_)
  refine lv_iconst (v := 0) hx hb dX4_joinsOnce_12 (by decide) ?_
  refine lv_istore (lv' := [(6, .int 0), (5, .int x1), (4, .int ((-1000000))), (3, .int ((-1000000))), (0, .ref (ea E k0)), (1, .int v1), (2, .int v2)]) hx hb dX4_joinsOnce_13 hl (by decide) rfl (fun ls hl => ?_)
  exact w_X4_joinsOnce_l15 C0  FU k0 v1 (-1000000) (-1000000) x1 0 hk0 _ _ _ _ hH (lv_sub hl [4, 5, 3, 2, 1, 0] rfl) h
theorem c_X4_joinsOnce {l : Launch} {E : EnvT} (hAd : Ad E) (k0 : Nat) (v1 : Int32) (v2 : Int32) (hk0 : kd k0 = 4) (σ : Mem) {r : Int32} {σ' : Mem} (h : X4_joinsOnce k0 v1 v2 σ = some (r, σ')) : Met l yX4_joinsOnce (wsM yX4_joinsOnce cX4_joinsOnce 8 (some .boolean)) (rmD 2) (PcM E [.ref (ea E k0), .int v1, .int v2] σ) (QiM E r σ') 0 0 (eA E) :=
  Met.ofM (by decide) (Nat.le_of_ble_eq_true rfl) (fun p e s m below meth c ls C0 hH hl => w_X4_joinsOnce_b0 C0 k0 v1 v2 hk0 hH hl h) hAd
set_option maxRecDepth 100000 in
set_option maxHeartbeats 4000000 in
theorem w_X4_join_b52 {σ' : Mem} (C0 : Cx E p m c cX4_join 4 s args RX4 meth (none)) (K52 : Nat → Int32 → Int32 → Int32 → Mem → Option Mem) (hK52 : ∀ (k0 : Nat) (v1 : Int32) (v2 : Int32) (v3 : Int32) (hk0 : kd k0 = 4) (σ : Mem) (H : Heap) (locs : List Loc) (ls : Array Slot), Hs E s σ H locs → lv_has ls 4 [(0, .ref (ea E k0)), (1, .int v1), (2, .int v2), (3, .int v3)] → K52 k0 v1 v2 v3 σ = some σ' → W p l e (rmD 3) s m args below meth c H locs 0 0 (MQ below (QvM E σ') args s 0 0 (eA E)) (F0 m 52 ls []))  (k0 : Nat) (v1 : Int32) (v2 : Int32) (v3 : Int32) (hk0 : kd k0 = 4) {σ : Mem} {H : Heap} {locs : List Loc} {ls : Array Slot} (hH : Hs E s σ H locs) (hl : lv_has ls 4 [(0, .ref (ea E k0)), (1, .int v1), (2, .int v2), (3, .int v3)]) (h : X4_join_b52 K52 k0 v1 v2 v3 σ = some σ') : W p l e (rmD 3) s m args below meth c H locs 0 0 (MQ below (QvM E σ') args s 0 0 (eA E)) (F0 m 52 ls []) := by
  obtain ⟨⟨hx, hb, hml, hown, hts⟩, hr, hlocks, hF, hAd⟩ := id C0
  unfold X4_join_b52 at h
  refine lv_iload_n hx hb dX4_join_52 rfl (lv_at hl 3 rfl) ?_
  refine lv_iload_n hx hb dX4_join_53 rfl (lv_at hl 1 rfl) ?_
  refine lv_icmp_ge (tgt := 73) hx hb dX4_join_54 (by decide) (fun c1 => ?_) (fun c1 => ?_)
  · replace h := if_t h c1
    exact r_vret C0 hH (Option.some.inj h) dX4_join_73
  · replace h := if_f h c1
    refine lv_aload_n hx hb dX4_join_57 rfl (lv_at hl 0 rfl) ?_
    refine lv_iload_n hx hb dX4_join_58 rfl (lv_at hl 1 rfl) ?_
    refine lv_iload_n hx hb dX4_join_59 rfl (lv_at hl 2 rfl) ?_
    obtain ⟨r2, σ3, qr2, h⟩ := ob2_s h
    refine go_i hH (va_run_V (As := [.int v1, .int v2]) (rest := []) C0 hH lk_X4_95 (c_X4_joinsOnce hAd k0 v1 v2 hk0 σ qr2) (by decide) (ci := 4) hk0 (by decide) (cob_4 _ _ _) rfl rfl hl.1 rfl (Nat.le_of_ble_eq_true rfl) dX4_join_60) (fun H locs hH => ?_)
    refine lv_if_ne (tgt := 67) hx hb dX4_join_63 (by decide) (fun c4 => ?_) (fun c4 => ?_)
    · replace h := if_f h c4
      refine lv_iinc (v := v3 + 1) (lv' := [(3, .int (v3 + 1)), (0, .ref (ea E k0)), (1, .int v1), (2, .int v2)]) hx hb dX4_join_67 hl (k := 3) rfl rfl (by decide) rfl (fun ls hl => ?_)
      refine lv_goto (tgt := 52) hx hb dX4_join_70 (by decide) ?_
      exact hK52 k0 v1 v2 (v3 + 1) hk0 _ _ _ _ hH (lv_sub hl [1, 2, 3, 0] rfl) h
    · replace h := if_t h c4
      exact r_vret C0 hH (Option.some.inj h) dX4_join_66
set_option maxRecDepth 100000 in
set_option maxHeartbeats 4000000 in
theorem w_X4_join_l52 {σ' : Mem} (C0 : Cx E p m c cX4_join 4 s args RX4 meth (none))  (n : Nat) : ∀ (k0 : Nat) (v1 : Int32) (v2 : Int32) (v3 : Int32) (hk0 : kd k0 = 4) (σ : Mem) (H : Heap) (locs : List Loc) (ls : Array Slot), Hs E s σ H locs → lv_has ls 4 [(0, .ref (ea E k0)), (1, .int v1), (2, .int v2), (3, .int v3)] → X4_join_l52 n k0 v1 v2 v3 σ = some σ' → W p l e (rmD 3) s m args below meth c H locs 0 0 (MQ below (QvM E σ') args s 0 0 (eA E)) (F0 m 52 ls []) := by
  induction n with
  | zero =>
    intro k0 v1 v2 v3 hk0 σ H locs ls hH hl h
    cases h
  | succ n ih =>
    intro k0 v1 v2 v3 hk0 σ H locs ls hH hl h
    exact w_X4_join_b52 C0 (X4_join_l52 n)  ih k0 v1 v2 v3 hk0 hH hl h
set_option maxRecDepth 100000 in
set_option maxHeartbeats 4000000 in
theorem w_X4_join_b2 {σ' : Mem} (C0 : Cx E p m c cX4_join 4 s args RX4 meth (none)) (K2 : Nat → Int32 → Int32 → Int32 → Mem → Option Mem) (hK2 : ∀ (k0 : Nat) (v1 : Int32) (v2 : Int32) (v3 : Int32) (hk0 : kd k0 = 4) (σ : Mem) (H : Heap) (locs : List Loc) (ls : Array Slot), Hs E s σ H locs → lv_has ls 4 [(0, .ref (ea E k0)), (1, .int v1), (2, .int v2), (3, .int v3)] → K2 k0 v1 v2 v3 σ = some σ' → W p l e (rmD 3) s m args below meth c H locs 0 0 (MQ below (QvM E σ') args s 0 0 (eA E)) (F0 m 2 ls []))  (k0 : Nat) (v1 : Int32) (v2 : Int32) (v3 : Int32) (hk0 : kd k0 = 4) {σ : Mem} {H : Heap} {locs : List Loc} {ls : Array Slot} (hH : Hs E s σ H locs) (hl : lv_has ls 4 [(0, .ref (ea E k0)), (1, .int v1), (2, .int v2), (3, .int v3)]) (h : X4_join_b2 K2 k0 v1 v2 v3 σ = some σ') : W p l e (rmD 3) s m args below meth c H locs 0 0 (MQ below (QvM E σ') args s 0 0 (eA E)) (F0 m 2 ls []) := by
  obtain ⟨⟨hx, hb, hml, hown, hts⟩, hr, hlocks, hF, hAd⟩ := id C0
  unfold X4_join_b2 at h
  refine lv_iload_n hx hb dX4_join_2 rfl (lv_at hl 3 rfl) ?_
  refine lv_iload_n hx hb dX4_join_3 rfl (lv_at hl 1 rfl) ?_
  refine lv_icmp_ge (tgt := 45) hx hb dX4_join_4 (by decide) (fun c1 => ?_) (fun c1 => ?_)
  · replace h := if_t h c1
    refine lv_aload_n hx hb dX4_join_45 rfl (lv_at hl 0 rfl) ?_
    refine lv_iload_n hx hb dX4_join_46 rfl (lv_at hl 1 rfl) ?_
    refine pf_X4_34 C0 hH hk0 dX4_join_47 (fun H locs hH => ?_)
    refine lv_iconst (v := 1) hx hb dX4_join_50 (by decide) ?_
    refine lv_istore_n (lv' := [(3, .int 1), (0, .ref (ea E k0)), (1, .int v1), (2, .int v2)]) hx hb dX4_join_51 rfl hl (by decide) rfl (fun ls hl => ?_)
    exact w_X4_join_l52 C0  FU k0 v1 v2 1 hk0 _ _ _ _ hH (lv_sub hl [1, 2, 3, 0] rfl) h
  · replace h := if_f h c1
    refine lv_aload_n hx hb dX4_join_7 rfl (lv_at hl 0 rfl) ?_
    refine gf_X4_25 C0 hH hk0 dX4_join_8 ?_
    refine lv_iload_n hx hb dX4_join_11 rfl (lv_at hl 3 rfl) ?_
    refine lv_iload_n hx hb dX4_join_12 rfl (lv_at hl 3 rfl) ?_
    obtain ⟨b2, h⟩ := gdx_s h
    refine r_iast C0 hH (n := 10) (kf_4_2 hk0) b2 dX4_join_13 (fun H locs hH => ?_)
    refine lv_aload_n hx hb dX4_join_14 rfl (lv_at hl 0 rfl) ?_
    refine gf_X4_12 C0 hH hk0 dX4_join_15 ?_
    refine gf_X4_47 C0 hH (kf_4_0 hk0) dX4_join_18 ?_
    refine gf_X4_86 C0 hH (kf_6_0 (kf_4_0 hk0)) dX4_join_21 ?_
    refine lv_iload_n hx hb dX4_join_24 rfl (lv_at hl 3 rfl) ?_
    obtain ⟨b3, h⟩ := gdx_s h
    refine ra_15 C0 hH (kf_5_1 (kf_6_0 (kf_4_0 hk0))) b3 dX4_join_25 ?_
    refine lv_iconst (v := 0) hx hb dX4_join_26 (by decide) ?_
    refine lv_aload_n hx hb dX4_join_27 rfl (lv_at hl 0 rfl) ?_
    refine gf_X4_31 C0 hH hk0 dX4_join_28 ?_
    refine lv_iload_n hx hb dX4_join_31 rfl (lv_at hl 3 rfl) ?_
    obtain ⟨b4, h⟩ := gdx_s h
    refine ra_15 C0 hH (kf_4_3 hk0) b4 dX4_join_32 ?_
    refine lv_iconst (v := 0) hx hb dX4_join_33 (by decide) ?_
    refine lv_bipush (v := 10) hx hb dX4_join_34 (by decide) ?_
    obtain ⟨σ5, eσ5, h⟩ := letv_s h
    replace hH := hs_of eσ5 hH
    obtain ⟨b6, h⟩ := gdc_s h
    refine r_acopy C0 hH (n0 := 10) (n1 := 10) (h := 2) qM_X4_89 hl.1 rfl rfl (ka_15 (kf_5_1 (kf_6_0 (kf_4_0 hk0))) b3) (ka_15 (kf_4_3 hk0) b4) b6.1 b6.2.1 b6.2.2.1 b6.2.2.2.1 b6.2.2.2.2 dX4_join_36 (fun H locs hH => ?_)
    refine lv_iinc (v := v3 + 1) (lv' := [(3, .int (v3 + 1)), (0, .ref (ea E k0)), (1, .int v1), (2, .int v2)]) hx hb dX4_join_39 hl (k := 3) rfl rfl (by decide) rfl (fun ls hl => ?_)
    refine lv_goto (tgt := 2) hx hb dX4_join_42 (by decide) ?_
    exact hK2 k0 v1 v2 (v3 + 1) hk0 _ _ _ _ hH (lv_sub hl [1, 2, 3, 0] rfl) h
set_option maxRecDepth 100000 in
set_option maxHeartbeats 4000000 in
theorem w_X4_join_l2 {σ' : Mem} (C0 : Cx E p m c cX4_join 4 s args RX4 meth (none))  (n : Nat) : ∀ (k0 : Nat) (v1 : Int32) (v2 : Int32) (v3 : Int32) (hk0 : kd k0 = 4) (σ : Mem) (H : Heap) (locs : List Loc) (ls : Array Slot), Hs E s σ H locs → lv_has ls 4 [(0, .ref (ea E k0)), (1, .int v1), (2, .int v2), (3, .int v3)] → X4_join_l2 n k0 v1 v2 v3 σ = some σ' → W p l e (rmD 3) s m args below meth c H locs 0 0 (MQ below (QvM E σ') args s 0 0 (eA E)) (F0 m 2 ls []) := by
  induction n with
  | zero =>
    intro k0 v1 v2 v3 hk0 σ H locs ls hH hl h
    cases h
  | succ n ih =>
    intro k0 v1 v2 v3 hk0 σ H locs ls hH hl h
    exact w_X4_join_b2 C0 (X4_join_l2 n)  ih k0 v1 v2 v3 hk0 hH hl h
set_option maxRecDepth 100000 in
set_option maxHeartbeats 4000000 in
theorem w_X4_join_b0 {σ' : Mem} (C0 : Cx E p m c cX4_join 4 s args RX4 meth (none))  (k0 : Nat) (v1 : Int32) (v2 : Int32) (hk0 : kd k0 = 4) {σ : Mem} {H : Heap} {locs : List Loc} {ls : Array Slot} (hH : Hs E s σ H locs) (hl : lv_has ls 4 [(0, .ref (ea E k0)), (1, .int v1), (2, .int v2)]) (h : X4_join_b0 k0 v1 v2 σ = some σ') : W p l e (rmD 3) s m args below meth c H locs 0 0 (MQ below (QvM E σ') args s 0 0 (eA E)) (F0 m 0 ls []) := by
  obtain ⟨⟨hx, hb, hml, hown, hts⟩, hr, hlocks, hF, hAd⟩ := id C0
  unfold X4_join_b0 at h
  refine lv_iconst (v := 0) hx hb dX4_join_0 (by decide) ?_
  refine lv_istore_n (lv' := [(3, .int 0), (0, .ref (ea E k0)), (1, .int v1), (2, .int v2)]) hx hb dX4_join_1 rfl hl (by decide) rfl (fun ls hl => ?_)
  exact w_X4_join_l2 C0  FU k0 v1 v2 0 hk0 _ _ _ _ hH (lv_sub hl [1, 2, 3, 0] rfl) h
theorem c_X4_join {l : Launch} {E : EnvT} (hAd : Ad E) (k0 : Nat) (v1 : Int32) (v2 : Int32) (hk0 : kd k0 = 4) (σ : Mem) {σ' : Mem} (h : X4_join k0 v1 v2 σ = some σ') : Met l yX4_join (wsM yX4_join cX4_join 4 (none)) (rmD 3) (PcM E [.ref (ea E k0), .int v1, .int v2] σ) (QvM E σ') 0 0 (eA E) :=
  Met.ofM (by decide) (Nat.le_of_ble_eq_true rfl) (fun p e s m below meth c ls C0 hH hl => w_X4_join_b0 C0 k0 v1 v2 hk0 hH hl h) hAd
set_option maxRecDepth 100000 in
set_option maxHeartbeats 4000000 in
theorem w_X4_add_b0 {σ' : Mem} (C0 : Cx E p m c cX4_add 2 s args RX4 meth (none))  (k0 : Nat) (v1 : Int32) (hk0 : kd k0 = 4) {σ : Mem} {H : Heap} {locs : List Loc} {ls : Array Slot} (hH : Hs E s σ H locs) (hl : lv_has ls 2 [(0, .ref (ea E k0)), (1, .int v1)]) (h : X4_add_b0 k0 v1 σ = some σ') : W p l e (rmD 0) s m args below meth c H locs 0 0 (MQ below (QvM E σ') args s 0 0 (eA E)) (F0 m 0 ls []) := by
  obtain ⟨⟨hx, hb, hml, hown, hts⟩, hr, hlocks, hF, hAd⟩ := id C0
  unfold X4_add_b0 at h
  refine lv_aload_n hx hb dX4_add_0 rfl (lv_at hl 0 rfl) ?_
  refine gf_X4_44 C0 hH hk0 dX4_add_1 ?_
  refine lv_bipush (v := 64) hx hb dX4_add_4 (by decide) ?_
  refine lv_icmp_ge (tgt := 29) hx hb dX4_add_6 (by decide) (fun c1 => ?_) (fun c1 => ?_)
  · replace h := if_t h c1
    exact r_vret C0 hH (Option.some.inj h) dX4_add_29
  · replace h := if_f h c1
    refine lv_aload_n hx hb dX4_add_9 rfl (lv_at hl 0 rfl) ?_
    refine gf_X4_41 C0 hH hk0 dX4_add_10 ?_
    refine lv_aload_n hx hb dX4_add_13 rfl (lv_at hl 0 rfl) ?_
    refine gf_X4_44 C0 hH hk0 dX4_add_14 ?_
    refine lv_iload_n hx hb dX4_add_17 rfl (lv_at hl 1 rfl) ?_
    obtain ⟨b2, h⟩ := gdx_s h
    refine r_iast C0 hH (n := 64) (kf_4_6 hk0) b2 dX4_add_18 (fun H locs hH => ?_)
    refine lv_aload_n hx hb dX4_add_19 rfl (lv_at hl 0 rfl) ?_
    refine lv_dup hx hb dX4_add_20 rfl ?_
    obtain ⟨σ3, eσ3, h⟩ := letv_s h
    replace hH := hs_of eσ3 hH
    refine gf_X4_44 C0 hH hk0 dX4_add_21 ?_
    refine lv_iconst (v := 1) hx hb dX4_add_24 (by decide) ?_
    refine lv_iadd hx hb dX4_add_25 ?_
    refine pf_X4_44 C0 hH hk0 dX4_add_26 (fun H locs hH => ?_)
    exact r_vret C0 hH (Option.some.inj h) dX4_add_29
theorem c_X4_add {l : Launch} {E : EnvT} (hAd : Ad E) (k0 : Nat) (v1 : Int32) (hk0 : kd k0 = 4) (σ : Mem) {σ' : Mem} (h : X4_add k0 v1 σ = some σ') : Met l yX4_add (wsM yX4_add cX4_add 2 (none)) (rmD 0) (PcM E [.ref (ea E k0), .int v1] σ) (QvM E σ') 0 0 (eA E) :=
  Met.ofM (by decide) (Nat.le_of_ble_eq_true rfl) (fun p e s m below meth c ls C0 hH hl => w_X4_add_b0 C0 k0 v1 hk0 hH hl h) hAd
set_option maxRecDepth 100000 in
set_option maxHeartbeats 4000000 in
theorem w_X4_addNumber_b0 {σ' : Mem} (C0 : Cx E p m c cX4_addNumber 2 s args RX4 meth (none))  (k0 : Nat) (v1 : Int32) (hk0 : kd k0 = 4) {σ : Mem} {H : Heap} {locs : List Loc} {ls : Array Slot} (hH : Hs E s σ H locs) (hl : lv_has ls 2 [(0, .ref (ea E k0)), (1, .int v1)]) (h : X4_addNumber_b0 k0 v1 σ = some σ') : W p l e (rmD 1) s m args below meth c H locs 0 0 (MQ below (QvM E σ') args s 0 0 (eA E)) (F0 m 0 ls []) := by
  obtain ⟨⟨hx, hb, hml, hown, hts⟩, hr, hlocks, hF, hAd⟩ := id C0
  unfold X4_addNumber_b0 at h
  refine lv_aload_n hx hb dX4_addNumber_0 rfl (lv_at hl 0 rfl) ?_
  refine lv_bipush (v := 48) hx hb dX4_addNumber_1 (by decide) ?_
  refine lv_iload_n hx hb dX4_addNumber_3 rfl (lv_at hl 1 rfl) ?_
  refine lv_iadd hx hb dX4_addNumber_4 ?_
  obtain ⟨σ1, qσ1, h⟩ := ob_s h
  refine go_v hH (va_run_V (As := [.int (48 + v1)]) (rest := []) C0 hH lk_X4_119 (c_X4_add hAd k0 (48 + v1) hk0 σ qσ1) (by decide) (ci := 4) hk0 (by decide) (cob_4 _ _ _) rfl rfl hl.1 rfl (Nat.le_of_ble_eq_true rfl) dX4_addNumber_5) (fun H locs hH => ?_)
  exact r_vret C0 hH (Option.some.inj h) dX4_addNumber_8
theorem c_X4_addNumber {l : Launch} {E : EnvT} (hAd : Ad E) (k0 : Nat) (v1 : Int32) (hk0 : kd k0 = 4) (σ : Mem) {σ' : Mem} (h : X4_addNumber k0 v1 σ = some σ') : Met l yX4_addNumber (wsM yX4_addNumber cX4_addNumber 2 (none)) (rmD 1) (PcM E [.ref (ea E k0), .int v1] σ) (QvM E σ') 0 0 (eA E) :=
  Met.ofM (by decide) (Nat.le_of_ble_eq_true rfl) (fun p e s m below meth c ls C0 hH hl => w_X4_addNumber_b0 C0 k0 v1 hk0 hH hl h) hAd
set_option maxRecDepth 100000 in
set_option maxHeartbeats 4000000 in
theorem w_X4_writePages_b58 {σ' : Mem} (C0 : Cx E p m c cX4_writePages 5 s args RX4 meth (none)) (K5 : Nat → Int32 → Int32 → Int32 → Int32 → Mem → Option Mem) (hK5 : ∀ (k0 : Nat) (v1 : Int32) (v2 : Int32) (v3 : Int32) (v4 : Int32) (hk0 : kd k0 = 4) (σ : Mem) (H : Heap) (locs : List Loc) (ls : Array Slot), Hs E s σ H locs → lv_has ls 5 [(0, .ref (ea E k0)), (1, .int v1), (2, .int v2), (3, .int v3), (4, .int v4)] → K5 k0 v1 v2 v3 v4 σ = some σ' → W p l e (rmD 2) s m args below meth c H locs 0 0 (MQ below (QvM E σ') args s 0 0 (eA E)) (F0 m 5 ls []))  (k0 : Nat) (v1 : Int32) (v2 : Int32) (v3 : Int32) (v4 : Int32) (hk0 : kd k0 = 4) {σ : Mem} {H : Heap} {locs : List Loc} {ls : Array Slot} (hH : Hs E s σ H locs) (hl : lv_has ls 5 [(0, .ref (ea E k0)), (1, .int v1), (2, .int v2), (3, .int v3), (4, .int v4)]) (h : X4_writePages_b58 K5 k0 v1 v2 v3 v4 σ = some σ') : W p l e (rmD 2) s m args below meth c H locs 0 0 (MQ below (QvM E σ') args s 0 0 (eA E)) (F0 m 58 ls []) := by
  obtain ⟨⟨hx, hb, hml, hown, hts⟩, hr, hlocks, hF, hAd⟩ := id C0
  unfold X4_writePages_b58 at h
  refine lv_iinc (v := v4 + 1) (lv' := [(4, .int (v4 + 1)), (0, .ref (ea E k0)), (1, .int v1), (2, .int v2), (3, .int v3)]) hx hb dX4_writePages_58 hl (k := 4) rfl rfl (by decide) rfl (fun ls hl => ?_)
  refine lv_goto (tgt := 5) hx hb dX4_writePages_61 (by decide) ?_
  exact hK5 k0 v1 v2 v3 (v4 + 1) hk0 _ _ _ _ hH (lv_sub hl [1, 2, 3, 4, 0] rfl) h
set_option maxRecDepth 100000 in
set_option maxHeartbeats 4000000 in
theorem w_X4_writePages_b31 {σ' : Mem} (C0 : Cx E p m c cX4_writePages 5 s args RX4 meth (none)) (K5 : Nat → Int32 → Int32 → Int32 → Int32 → Mem → Option Mem) (hK5 : ∀ (k0 : Nat) (v1 : Int32) (v2 : Int32) (v3 : Int32) (v4 : Int32) (hk0 : kd k0 = 4) (σ : Mem) (H : Heap) (locs : List Loc) (ls : Array Slot), Hs E s σ H locs → lv_has ls 5 [(0, .ref (ea E k0)), (1, .int v1), (2, .int v2), (3, .int v3), (4, .int v4)] → K5 k0 v1 v2 v3 v4 σ = some σ' → W p l e (rmD 2) s m args below meth c H locs 0 0 (MQ below (QvM E σ') args s 0 0 (eA E)) (F0 m 5 ls []))  (k0 : Nat) (v1 : Int32) (v2 : Int32) (v4 : Int32) (hk0 : kd k0 = 4) {σ : Mem} {H : Heap} {locs : List Loc} {ls : Array Slot} (hH : Hs E s σ H locs) (hl : lv_has ls 5 [(0, .ref (ea E k0)), (1, .int v1), (2, .int v2), (4, .int v4)]) (h : X4_writePages_b31 K5 k0 v1 v2 v4 σ = some σ') : W p l e (rmD 2) s m args below meth c H locs 0 0 (MQ below (QvM E σ') args s 0 0 (eA E)) (F0 m 31 ls []) := by
  obtain ⟨⟨hx, hb, hml, hown, hts⟩, hr, hlocks, hF, hAd⟩ := id C0
  unfold X4_writePages_b31 at h
  refine lv_iconst (v := 0) hx hb dX4_writePages_31 (by decide) ?_
  refine lv_istore_n (lv' := [(3, .int 0), (0, .ref (ea E k0)), (1, .int v1), (2, .int v2), (4, .int v4)]) hx hb dX4_writePages_32 rfl hl (by decide) rfl (fun ls hl => ?_)
  refine lv_aload_n hx hb dX4_writePages_33 rfl (lv_at hl 1 rfl) ?_
  refine lv_iload hx hb dX4_writePages_34 (lv_at hl 4 rfl) ?_
  obtain ⟨σ1, qσ1, h⟩ := ob_s h
  refine go_v hH (va_run_V (As := [.int v4]) (rest := []) C0 hH lk_X4_132 (c_X4_addNumber hAd k0 v4 hk0 σ qσ1) (by decide) (ci := 4) hk0 (by decide) (cob_4 _ _ _) rfl rfl hl.1 rfl (Nat.le_of_ble_eq_true rfl) dX4_writePages_36) (fun H locs hH => ?_)
  refine lv_aload_n hx hb dX4_writePages_39 rfl (lv_at hl 1 rfl) ?_
  refine gf_X4_38 C0 hH hk0 dX4_writePages_40 ?_
  refine lv_iload hx hb dX4_writePages_43 (lv_at hl 4 rfl) ?_
  refine lv_ishr hx hb dX4_writePages_45 ?_
  refine lv_iconst (v := 1) hx hb dX4_writePages_46 (by decide) ?_
  refine lv_iand hx hb dX4_writePages_47 ?_
  refine lv_iconst (v := 1) hx hb dX4_writePages_48 (by decide) ?_
  refine lv_icmp_ne (tgt := 58) hx hb dX4_writePages_49 (by decide) (fun c2 => ?_) (fun c2 => ?_)
  · replace h := if_f h c2
    exact w_X4_writePages_b58 C0 K5 hK5 k0 v1 v2 0 v4 hk0 hH (lv_sub hl [1, 2, 3, 0, 4] rfl) h
  · replace h := if_t h c2
    refine lv_aload_n hx hb dX4_writePages_52 rfl (lv_at hl 1 rfl) ?_
    refine lv_bipush (v := 63) hx hb dX4_writePages_53 (by decide) ?_
    obtain ⟨σ3, qσ3, h⟩ := ob_s h
    refine go_v hH (va_run_V (As := [.int 63]) (rest := []) C0 hH lk_X4_119 (c_X4_add hAd k0 63 hk0 σ1 qσ3) (by decide) (ci := 4) hk0 (by decide) (cob_4 _ _ _) rfl rfl hl.1 rfl (Nat.le_of_ble_eq_true rfl) dX4_writePages_55) (fun H locs hH => ?_)
    exact w_X4_writePages_b58 C0 K5 hK5 k0 v1 v2 0 v4 hk0 hH (lv_sub hl [1, 2, 3, 0, 4] rfl) h
set_option maxRecDepth 100000 in
set_option maxHeartbeats 4000000 in
theorem w_X4_writePages_b5 {σ' : Mem} (C0 : Cx E p m c cX4_writePages 5 s args RX4 meth (none)) (K5 : Nat → Int32 → Int32 → Int32 → Int32 → Mem → Option Mem) (hK5 : ∀ (k0 : Nat) (v1 : Int32) (v2 : Int32) (v3 : Int32) (v4 : Int32) (hk0 : kd k0 = 4) (σ : Mem) (H : Heap) (locs : List Loc) (ls : Array Slot), Hs E s σ H locs → lv_has ls 5 [(0, .ref (ea E k0)), (1, .int v1), (2, .int v2), (3, .int v3), (4, .int v4)] → K5 k0 v1 v2 v3 v4 σ = some σ' → W p l e (rmD 2) s m args below meth c H locs 0 0 (MQ below (QvM E σ') args s 0 0 (eA E)) (F0 m 5 ls []))  (k0 : Nat) (v1 : Int32) (v2 : Int32) (v3 : Int32) (v4 : Int32) (hk0 : kd k0 = 4) {σ : Mem} {H : Heap} {locs : List Loc} {ls : Array Slot} (hH : Hs E s σ H locs) (hl : lv_has ls 5 [(0, .ref (ea E k0)), (1, .int v1), (2, .int v2), (3, .int v3), (4, .int v4)]) (h : X4_writePages_b5 K5 k0 v1 v2 v3 v4 σ = some σ') : W p l e (rmD 2) s m args below meth c H locs 0 0 (MQ below (QvM E σ') args s 0 0 (eA E)) (F0 m 5 ls []) := by
  obtain ⟨⟨hx, hb, hml, hown, hts⟩, hr, hlocks, hF, hAd⟩ := id C0
  unfold X4_writePages_b5 at h
  refine lv_iload hx hb dX4_writePages_5 (lv_at hl 4 rfl) ?_
  refine lv_iload_n hx hb dX4_writePages_7 rfl (lv_at hl 1 rfl) ?_
  refine lv_icmp_ge (tgt := 64) hx hb dX4_writePages_8 (by decide) (fun c1 => ?_) (fun c1 => ?_)
  · replace h := if_t h c1
    exact r_vret C0 hH (Option.some.inj h) dX4_writePages_64
  · replace h := if_f h c1
    refine lv_iload_n hx hb dX4_writePages_11 rfl (lv_at hl 2 rfl) ?_
    refine lv_iload hx hb dX4_writePages_12 (lv_at hl 4 rfl) ?_
    refine lv_ishr hx hb dX4_writePages_14 ?_
    refine lv_iconst (v := 1) hx hb dX4_writePages_15 (by decide) ?_
    refine lv_iand hx hb dX4_writePages_16 ?_
    refine lv_iconst (v := 1) hx hb dX4_writePages_17 (by decide) ?_
    refine lv_icmp_ne (tgt := 58) hx hb dX4_writePages_18 (by decide) (fun c2 => ?_) (fun c2 => ?_)
    · replace h := if_f h c2
      exact w_X4_writePages_b58 C0 K5 hK5 k0 v1 v2 v3 v4 hk0 hH (lv_sub hl [0, 1, 2, 3, 4] rfl) h
    · replace h := if_t h c2
      refine lv_iload_n hx hb dX4_writePages_21 rfl (lv_at hl 3 rfl) ?_
      refine lv_if_ne (tgt := 31) hx hb dX4_writePages_22 (by decide) (fun c3 => ?_) (fun c3 => ?_)
      · replace h := if_f h c3
        exact w_X4_writePages_b31 C0 K5 hK5 k0 v1 v2 v4 hk0 hH (lv_sub hl [0, 1, 2, 4] rfl) h
      · replace h := if_t h c3
        refine lv_aload_n hx hb dX4_writePages_25 rfl (lv_at hl 0 rfl) ?_
        refine lv_bipush (v := 44) hx hb dX4_writePages_26 (by decide) ?_
        obtain ⟨σ4, qσ4, h⟩ := ob_s h
        refine go_v hH (va_run_V (As := [.int 44]) (rest := []) C0 hH lk_X4_119 (c_X4_add hAd k0 44 hk0 σ qσ4) (by decide) (ci := 4) hk0 (by decide) (cob_4 _ _ _) rfl rfl hl.1 rfl (Nat.le_of_ble_eq_true rfl) dX4_writePages_28) (fun H locs hH => ?_)
        exact w_X4_writePages_b31 C0 K5 hK5 k0 v1 v2 v4 hk0 hH (lv_sub hl [0, 1, 2, 4] rfl) h
set_option maxRecDepth 100000 in
set_option maxHeartbeats 4000000 in
theorem w_X4_writePages_l5 {σ' : Mem} (C0 : Cx E p m c cX4_writePages 5 s args RX4 meth (none))  (n : Nat) : ∀ (k0 : Nat) (v1 : Int32) (v2 : Int32) (v3 : Int32) (v4 : Int32) (hk0 : kd k0 = 4) (σ : Mem) (H : Heap) (locs : List Loc) (ls : Array Slot), Hs E s σ H locs → lv_has ls 5 [(0, .ref (ea E k0)), (1, .int v1), (2, .int v2), (3, .int v3), (4, .int v4)] → X4_writePages_l5 n k0 v1 v2 v3 v4 σ = some σ' → W p l e (rmD 2) s m args below meth c H locs 0 0 (MQ below (QvM E σ') args s 0 0 (eA E)) (F0 m 5 ls []) := by
  induction n with
  | zero =>
    intro k0 v1 v2 v3 v4 hk0 σ H locs ls hH hl h
    cases h
  | succ n ih =>
    intro k0 v1 v2 v3 v4 hk0 σ H locs ls hH hl h
    exact w_X4_writePages_b5 C0 (X4_writePages_l5 n)  ih k0 v1 v2 v3 v4 hk0 hH hl h
set_option maxRecDepth 100000 in
set_option maxHeartbeats 4000000 in
theorem w_X4_writePages_b0 {σ' : Mem} (C0 : Cx E p m c cX4_writePages 5 s args RX4 meth (none))  (k0 : Nat) (v1 : Int32) (v2 : Int32) (hk0 : kd k0 = 4) {σ : Mem} {H : Heap} {locs : List Loc} {ls : Array Slot} (hH : Hs E s σ H locs) (hl : lv_has ls 5 [(0, .ref (ea E k0)), (1, .int v1), (2, .int v2)]) (h : X4_writePages_b0 k0 v1 v2 σ = some σ') : W p l e (rmD 2) s m args below meth c H locs 0 0 (MQ below (QvM E σ') args s 0 0 (eA E)) (F0 m 0 ls []) := by
  obtain ⟨⟨hx, hb, hml, hown, hts⟩, hr, hlocks, hF, hAd⟩ := id C0
  unfold X4_writePages_b0 at h
  refine lv_iconst (v := 1) hx hb dX4_writePages_0 (by decide) ?_
  refine lv_istore_n (lv' := [(3, .int 1), (0, .ref (ea E k0)), (1, .int v1), (2, .int v2)]) hx hb dX4_writePages_1 rfl hl (by decide) rfl (fun ls hl => ?_)
  refine lv_iconst (v := 0) hx hb dX4_writePages_2 (by decide) ?_
  refine lv_istore (lv' := [(4, .int 0), (3, .int 1), (0, .ref (ea E k0)), (1, .int v1), (2, .int v2)]) hx hb dX4_writePages_3 hl (by decide) rfl (fun ls hl => ?_)
  exact w_X4_writePages_l5 C0  FU k0 v1 v2 1 0 hk0 _ _ _ _ hH (lv_sub hl [2, 3, 4, 1, 0] rfl) h
theorem c_X4_writePages {l : Launch} {E : EnvT} (hAd : Ad E) (k0 : Nat) (v1 : Int32) (v2 : Int32) (hk0 : kd k0 = 4) (σ : Mem) {σ' : Mem} (h : X4_writePages k0 v1 v2 σ = some σ') : Met l yX4_writePages (wsM yX4_writePages cX4_writePages 5 (none)) (rmD 2) (PcM E [.ref (ea E k0), .int v1, .int v2] σ) (QvM E σ') 0 0 (eA E) :=
  Met.ofM (by decide) (Nat.le_of_ble_eq_true rfl) (fun p e s m below meth c ls C0 hH hl => w_X4_writePages_b0 C0 k0 v1 v2 hk0 hH hl h) hAd
set_option maxRecDepth 100000 in
set_option maxHeartbeats 4000000 in
theorem w_X4_write_b86 {σ' : Mem} (C0 : Cx E p m c cX4_write 3 s args RX4 meth (none)) (K64 : Nat → Int32 → Mem → Option Mem) (hK64 : ∀ (k0 : Nat) (v2 : Int32) (hk0 : kd k0 = 4) (σ : Mem) (H : Heap) (locs : List Loc) (ls : Array Slot), Hs E s σ H locs → lv_has ls 3 [(0, .ref (ea E k0)), (2, .int v2)] → K64 k0 v2 σ = some σ' → W p l e (rmD 3) s m args below meth c H locs 0 0 (MQ below (QvM E σ') args s 0 0 (eA E)) (F0 m 64 ls []))  (k0 : Nat) (v2 : Int32) (hk0 : kd k0 = 4) {σ : Mem} {H : Heap} {locs : List Loc} {ls : Array Slot} (hH : Hs E s σ H locs) (hl : lv_has ls 3 [(0, .ref (ea E k0)), (2, .int v2)]) (h : X4_write_b86 K64 k0 v2 σ = some σ') : W p l e (rmD 3) s m args below meth c H locs 0 0 (MQ below (QvM E σ') args s 0 0 (eA E)) (F0 m 86 ls []) := by
  obtain ⟨⟨hx, hb, hml, hown, hts⟩, hr, hlocks, hF, hAd⟩ := id C0
  unfold X4_write_b86 at h
  refine lv_aload_n hx hb dX4_write_86 rfl (lv_at hl 0 rfl) ?_
  refine lv_aload_n hx hb dX4_write_87 rfl (lv_at hl 0 rfl) ?_
  refine gf_X4_21 C0 hH hk0 dX4_write_88 ?_
  refine gf_X4_129 C0 hH (kf_4_1 hk0) dX4_write_91 ?_
  refine lv_iload_n hx hb dX4_write_94 rfl (lv_at hl 1 rfl) ?_
  obtain ⟨b1, h⟩ := gdx_s h
  refine r_iald C0 hH (n := 11) (kf_9_3 (kf_4_1 hk0)) b1 dX4_write_95 ?_
  obtain ⟨σ2, qσ2, h⟩ := ob_s h
  refine go_v hH (va_run_V (As := [.int (σ ((k0 + 17) + 4) (nc v2))]) (rest := []) C0 hH lk_X4_132 (c_X4_addNumber hAd k0 (σ ((k0 + 17) + 4) (nc v2)) hk0 σ qσ2) (by decide) (ci := 4) hk0 (by decide) (cob_4 _ _ _) rfl rfl hl.1 rfl (Nat.le_of_ble_eq_true rfl) dX4_write_96) (fun H locs hH => ?_)
  refine lv_iinc (v := v2 + 1) (lv' := [(2, .int (v2 + 1)), (0, .ref (ea E k0))]) hx hb dX4_write_99 hl (k := 1) rfl rfl (by decide) rfl (fun ls hl => ?_)
  refine lv_goto (tgt := 64) hx hb dX4_write_102 (by decide) ?_
  exact hK64 k0 (v2 + 1) hk0 _ _ _ _ hH (lv_sub hl [1, 0] rfl) h
set_option maxRecDepth 100000 in
set_option maxHeartbeats 4000000 in
theorem w_X4_write_b64 {σ' : Mem} (C0 : Cx E p m c cX4_write 3 s args RX4 meth (none)) (K64 : Nat → Int32 → Mem → Option Mem) (hK64 : ∀ (k0 : Nat) (v2 : Int32) (hk0 : kd k0 = 4) (σ : Mem) (H : Heap) (locs : List Loc) (ls : Array Slot), Hs E s σ H locs → lv_has ls 3 [(0, .ref (ea E k0)), (2, .int v2)] → K64 k0 v2 σ = some σ' → W p l e (rmD 3) s m args below meth c H locs 0 0 (MQ below (QvM E σ') args s 0 0 (eA E)) (F0 m 64 ls []))  (k0 : Nat) (v2 : Int32) (hk0 : kd k0 = 4) {σ : Mem} {H : Heap} {locs : List Loc} {ls : Array Slot} (hH : Hs E s σ H locs) (hl : lv_has ls 3 [(0, .ref (ea E k0)), (2, .int v2)]) (h : X4_write_b64 K64 k0 v2 σ = some σ') : W p l e (rmD 3) s m args below meth c H locs 0 0 (MQ below (QvM E σ') args s 0 0 (eA E)) (F0 m 64 ls []) := by
  obtain ⟨⟨hx, hb, hml, hown, hts⟩, hr, hlocks, hF, hAd⟩ := id C0
  unfold X4_write_b64 at h
  refine lv_iload_n hx hb dX4_write_64 rfl (lv_at hl 1 rfl) ?_
  refine lv_aload_n hx hb dX4_write_65 rfl (lv_at hl 0 rfl) ?_
  refine gf_X4_21 C0 hH hk0 dX4_write_66 ?_
  refine gf_X4_128 C0 hH (kf_4_1 hk0) dX4_write_69 ?_
  refine lv_icmp_ge (tgt := 105) hx hb dX4_write_72 (by decide) (fun c1 => ?_) (fun c1 => ?_)
  · replace h := if_t h c1
    exact r_vret C0 hH (Option.some.inj h) dX4_write_105
  · replace h := if_f h c1
    refine lv_iload_n hx hb dX4_write_75 rfl (lv_at hl 1 rfl) ?_
    refine lv_iconst (v := 1) hx hb dX4_write_76 (by decide) ?_
    refine lv_icmp_le (tgt := 86) hx hb dX4_write_77 (by decide) (fun c2 => ?_) (fun c2 => ?_)
    · replace h := if_t h c2
      exact w_X4_write_b86 C0 K64 hK64 k0 v2 hk0 hH (lv_sub hl [0, 1] rfl) h
    · replace h := if_f h c2
      refine lv_aload_n hx hb dX4_write_80 rfl (lv_at hl 0 rfl) ?_
      refine lv_bipush (v := 44) hx hb dX4_write_81 (by decide) ?_
      obtain ⟨σ3, qσ3, h⟩ := ob_s h
      refine go_v hH (va_run_V (As := [.int 44]) (rest := []) C0 hH lk_X4_119 (c_X4_add hAd k0 44 hk0 σ qσ3) (by decide) (ci := 4) hk0 (by decide) (cob_4 _ _ _) rfl rfl hl.1 rfl (Nat.le_of_ble_eq_true rfl) dX4_write_83) (fun H locs hH => ?_)
      exact w_X4_write_b86 C0 K64 hK64 k0 v2 hk0 hH (lv_sub hl [0, 1] rfl) h
set_option maxRecDepth 100000 in
set_option maxHeartbeats 4000000 in
theorem w_X4_write_l64 {σ' : Mem} (C0 : Cx E p m c cX4_write 3 s args RX4 meth (none))  (n : Nat) : ∀ (k0 : Nat) (v2 : Int32) (hk0 : kd k0 = 4) (σ : Mem) (H : Heap) (locs : List Loc) (ls : Array Slot), Hs E s σ H locs → lv_has ls 3 [(0, .ref (ea E k0)), (2, .int v2)] → X4_write_l64 n k0 v2 σ = some σ' → W p l e (rmD 3) s m args below meth c H locs 0 0 (MQ below (QvM E σ') args s 0 0 (eA E)) (F0 m 64 ls []) := by
  induction n with
  | zero =>
    intro k0 v2 hk0 σ H locs ls hH hl h
    cases h
  | succ n ih =>
    intro k0 v2 hk0 σ H locs ls hH hl h
    exact w_X4_write_b64 C0 (X4_write_l64 n)  ih k0 v2 hk0 hH hl h
set_option maxRecDepth 100000 in
set_option maxHeartbeats 4000000 in
theorem w_X4_write_b28 {σ' : Mem} (C0 : Cx E p m c cX4_write 3 s args RX4 meth (none)) (K7 : Nat → Int32 → Int32 → Mem → Option Mem) (hK7 : ∀ (k0 : Nat) (v1 : Int32) (v2 : Int32) (hk0 : kd k0 = 4) (σ : Mem) (H : Heap) (locs : List Loc) (ls : Array Slot), Hs E s σ H locs → lv_has ls 3 [(0, .ref (ea E k0)), (1, .int v1), (2, .int v2)] → K7 k0 v1 v2 σ = some σ' → W p l e (rmD 3) s m args below meth c H locs 0 0 (MQ below (QvM E σ') args s 0 0 (eA E)) (F0 m 7 ls []))  (k0 : Nat) (v1 : Int32) (v2 : Int32) (hk0 : kd k0 = 4) {σ : Mem} {H : Heap} {locs : List Loc} {ls : Array Slot} (hH : Hs E s σ H locs) (hl : lv_has ls 3 [(0, .ref (ea E k0)), (1, .int v1), (2, .int v2)]) (h : X4_write_b28 K7 k0 v1 v2 σ = some σ') : W p l e (rmD 3) s m args below meth c H locs 0 0 (MQ below (QvM E σ') args s 0 0 (eA E)) (F0 m 28 ls []) := by
  obtain ⟨⟨hx, hb, hml, hown, hts⟩, hr, hlocks, hF, hAd⟩ := id C0
  unfold X4_write_b28 at h
  refine lv_aload_n hx hb dX4_write_28 rfl (lv_at hl 0 rfl) ?_
  refine lv_bipush (v := 65) hx hb dX4_write_29 (by decide) ?_
  refine lv_iload_n hx hb dX4_write_31 rfl (lv_at hl 2 rfl) ?_
  refine lv_iadd hx hb dX4_write_32 ?_
  obtain ⟨σ1, qσ1, h⟩ := ob_s h
  refine go_v hH (va_run_V (As := [.int (65 + v2)]) (rest := []) C0 hH lk_X4_119 (c_X4_add hAd k0 (65 + v2) hk0 σ qσ1) (by decide) (ci := 4) hk0 (by decide) (cob_4 _ _ _) rfl rfl hl.1 rfl (Nat.le_of_ble_eq_true rfl) dX4_write_33) (fun H locs hH => ?_)
  refine lv_aload_n hx hb dX4_write_36 rfl (lv_at hl 0 rfl) ?_
  refine lv_iload_n hx hb dX4_write_37 rfl (lv_at hl 1 rfl) ?_
  refine lv_aload_n hx hb dX4_write_38 rfl (lv_at hl 0 rfl) ?_
  refine gf_X4_12 C0 hH hk0 dX4_write_39 ?_
  refine gf_X4_122 C0 hH (kf_4_0 hk0) dX4_write_42 ?_
  refine lv_iload_n hx hb dX4_write_45 rfl (lv_at hl 2 rfl) ?_
  obtain ⟨b2, h⟩ := gdx_s h
  refine r_iald C0 hH (n := 10) (kf_6_2 (kf_4_0 hk0)) b2 dX4_write_46 ?_
  obtain ⟨σ3, qσ3, h⟩ := ob_s h
  refine go_v hH (va_run_V (As := [.int v1, .int (σ1 ((k0 + 1) + 15) (nc v2))]) (rest := []) C0 hH lk_X4_125 (c_X4_writePages hAd k0 v1 (σ1 ((k0 + 1) + 15) (nc v2)) hk0 σ1 qσ3) (by decide) (ci := 4) hk0 (by decide) (cob_4 _ _ _) rfl rfl hl.1 rfl (Nat.le_of_ble_eq_true rfl) dX4_write_47) (fun H locs hH => ?_)
  refine lv_iinc (v := v2 + 1) (lv' := [(2, .int (v2 + 1)), (0, .ref (ea E k0)), (1, .int v1)]) hx hb dX4_write_50 hl (k := 2) rfl rfl (by decide) rfl (fun ls hl => ?_)
  refine lv_goto (tgt := 7) hx hb dX4_write_53 (by decide) ?_
  exact hK7 k0 v1 (v2 + 1) hk0 _ _ _ _ hH (lv_sub hl [1, 2, 0] rfl) h
set_option maxRecDepth 100000 in
set_option maxHeartbeats 4000000 in
theorem w_X4_write_b7 {σ' : Mem} (C0 : Cx E p m c cX4_write 3 s args RX4 meth (none)) (K7 : Nat → Int32 → Int32 → Mem → Option Mem) (hK7 : ∀ (k0 : Nat) (v1 : Int32) (v2 : Int32) (hk0 : kd k0 = 4) (σ : Mem) (H : Heap) (locs : List Loc) (ls : Array Slot), Hs E s σ H locs → lv_has ls 3 [(0, .ref (ea E k0)), (1, .int v1), (2, .int v2)] → K7 k0 v1 v2 σ = some σ' → W p l e (rmD 3) s m args below meth c H locs 0 0 (MQ below (QvM E σ') args s 0 0 (eA E)) (F0 m 7 ls []))  (k0 : Nat) (v1 : Int32) (v2 : Int32) (hk0 : kd k0 = 4) {σ : Mem} {H : Heap} {locs : List Loc} {ls : Array Slot} (hH : Hs E s σ H locs) (hl : lv_has ls 3 [(0, .ref (ea E k0)), (1, .int v1), (2, .int v2)]) (h : X4_write_b7 K7 k0 v1 v2 σ = some σ') : W p l e (rmD 3) s m args below meth c H locs 0 0 (MQ below (QvM E σ') args s 0 0 (eA E)) (F0 m 7 ls []) := by
  obtain ⟨⟨hx, hb, hml, hown, hts⟩, hr, hlocks, hF, hAd⟩ := id C0
  unfold X4_write_b7 at h
  refine lv_iload_n hx hb dX4_write_7 rfl (lv_at hl 2 rfl) ?_
  refine lv_aload_n hx hb dX4_write_8 rfl (lv_at hl 0 rfl) ?_
  refine gf_X4_12 C0 hH hk0 dX4_write_9 ?_
  refine gf_X4_110 C0 hH (kf_4_0 hk0) dX4_write_12 ?_
  refine lv_icmp_ge (tgt := 56) hx hb dX4_write_15 (by decide) (fun c1 => ?_) (fun c1 => ?_)
  · replace h := if_t h c1
    refine lv_aload_n hx hb dX4_write_56 rfl (lv_at hl 0 rfl) ?_
    refine lv_bipush (v := 47) hx hb dX4_write_57 (by decide) ?_
    obtain ⟨σ2, qσ2, h⟩ := ob_s h
    refine go_v hH (va_run_V (As := [.int 47]) (rest := []) C0 hH lk_X4_119 (c_X4_add hAd k0 47 hk0 σ qσ2) (by decide) (ci := 4) hk0 (by decide) (cob_4 _ _ _) rfl rfl hl.1 rfl (Nat.le_of_ble_eq_true rfl) dX4_write_59) (fun H locs hH => ?_)
    refine lv_iconst (v := 1) hx hb dX4_write_62 (by decide) ?_
    refine lv_istore_n (lv' := [(2, .int 1), (0, .ref (ea E k0)), (1, .int v1)]) hx hb dX4_write_63 rfl hl (by decide) rfl (fun ls hl => ?_)
    exact w_X4_write_l64 C0  FU k0 1 hk0 _ _ _ _ hH (lv_sub hl [1, 0] rfl) h
  · replace h := if_f h c1
    refine lv_iload_n hx hb dX4_write_18 rfl (lv_at hl 2 rfl) ?_
    refine lv_if_le (tgt := 28) hx hb dX4_write_19 (by decide) (fun c3 => ?_) (fun c3 => ?_)
    · replace h := if_t h c3
      exact w_X4_write_b28 C0 K7 hK7 k0 v1 v2 hk0 hH (lv_sub hl [0, 1, 2] rfl) h
    · replace h := if_f h c3
      refine lv_aload_n hx hb dX4_write_22 rfl (lv_at hl 0 rfl) ?_
      refine lv_bipush (v := 59) hx hb dX4_write_23 (by decide) ?_
      obtain ⟨σ4, qσ4, h⟩ := ob_s h
      refine go_v hH (va_run_V (As := [.int 59]) (rest := []) C0 hH lk_X4_119 (c_X4_add hAd k0 59 hk0 σ qσ4) (by decide) (ci := 4) hk0 (by decide) (cob_4 _ _ _) rfl rfl hl.1 rfl (Nat.le_of_ble_eq_true rfl) dX4_write_25) (fun H locs hH => ?_)
      exact w_X4_write_b28 C0 K7 hK7 k0 v1 v2 hk0 hH (lv_sub hl [0, 1, 2] rfl) h
set_option maxRecDepth 100000 in
set_option maxHeartbeats 4000000 in
theorem w_X4_write_l7 {σ' : Mem} (C0 : Cx E p m c cX4_write 3 s args RX4 meth (none))  (n : Nat) : ∀ (k0 : Nat) (v1 : Int32) (v2 : Int32) (hk0 : kd k0 = 4) (σ : Mem) (H : Heap) (locs : List Loc) (ls : Array Slot), Hs E s σ H locs → lv_has ls 3 [(0, .ref (ea E k0)), (1, .int v1), (2, .int v2)] → X4_write_l7 n k0 v1 v2 σ = some σ' → W p l e (rmD 3) s m args below meth c H locs 0 0 (MQ below (QvM E σ') args s 0 0 (eA E)) (F0 m 7 ls []) := by
  induction n with
  | zero =>
    intro k0 v1 v2 hk0 σ H locs ls hH hl h
    cases h
  | succ n ih =>
    intro k0 v1 v2 hk0 σ H locs ls hH hl h
    exact w_X4_write_b7 C0 (X4_write_l7 n)  ih k0 v1 v2 hk0 hH hl h
set_option maxRecDepth 100000 in
set_option maxHeartbeats 4000000 in
theorem w_X4_write_b0 {σ' : Mem} (C0 : Cx E p m c cX4_write 3 s args RX4 meth (none))  (k0 : Nat) (v1 : Int32) (hk0 : kd k0 = 4) {σ : Mem} {H : Heap} {locs : List Loc} {ls : Array Slot} (hH : Hs E s σ H locs) (hl : lv_has ls 3 [(0, .ref (ea E k0)), (1, .int v1)]) (h : X4_write_b0 k0 v1 σ = some σ') : W p l e (rmD 3) s m args below meth c H locs 0 0 (MQ below (QvM E σ') args s 0 0 (eA E)) (F0 m 0 ls []) := by
  obtain ⟨⟨hx, hb, hml, hown, hts⟩, hr, hlocks, hF, hAd⟩ := id C0
  unfold X4_write_b0 at h
  refine lv_aload_n hx hb dX4_write_0 rfl (lv_at hl 0 rfl) ?_
  refine lv_iconst (v := 0) hx hb dX4_write_1 (by decide) ?_
  refine pf_X4_44 C0 hH hk0 dX4_write_2 (fun H locs hH => ?_)
  refine lv_iconst (v := 0) hx hb dX4_write_5 (by decide) ?_
  refine lv_istore_n (lv' := [(2, .int 0), (0, .ref (ea E k0)), (1, .int v1)]) hx hb dX4_write_6 rfl hl (by decide) rfl (fun ls hl => ?_)
  exact w_X4_write_l7 C0  FU k0 v1 0 hk0 _ _ _ _ hH (lv_sub hl [1, 2, 0] rfl) h
theorem c_X4_write {l : Launch} {E : EnvT} (hAd : Ad E) (k0 : Nat) (v1 : Int32) (hk0 : kd k0 = 4) (σ : Mem) {σ' : Mem} (h : X4_write k0 v1 σ = some σ') : Met l yX4_write (wsM yX4_write cX4_write 3 (none)) (rmD 3) (PcM E [.ref (ea E k0), .int v1] σ) (QvM E σ') 0 0 (eA E) :=
  Met.ofM (by decide) (Nat.le_of_ble_eq_true rfl) (fun p e s m below meth c ls C0 hH hl => w_X4_write_b0 C0 k0 v1 hk0 hH hl h) hAd
set_option maxRecDepth 100000 in
set_option maxHeartbeats 4000000 in
theorem w_X9_collect_b71 {σ' : Mem} (C0 : Cx E p m c cX9_collect 3 s args RX9 meth (none)) (K14 : Nat → Int32 → Int32 → Mem → Option Mem) (hK14 : ∀ (k0 : Nat) (v1 : Int32) (v2 : Int32) (hk0 : kd k0 = 9) (σ : Mem) (H : Heap) (locs : List Loc) (ls : Array Slot), Hs E s σ H locs → lv_has ls 3 [(0, .ref (ea E k0)), (1, .int v1), (2, .int v2)] → K14 k0 v1 v2 σ = some σ' → W p l e (rmD 0) s m args below meth c H locs 0 0 (MQ below (QvM E σ') args s 0 0 (eA E)) (F0 m 14 ls []))  (k0 : Nat) (v1 : Int32) (v2 : Int32) (hk0 : kd k0 = 9) {σ : Mem} {H : Heap} {locs : List Loc} {ls : Array Slot} (hH : Hs E s σ H locs) (hl : lv_has ls 3 [(0, .ref (ea E k0)), (1, .int v1), (2, .int v2)]) (h : X9_collect_b71 K14 k0 v1 v2 σ = some σ') : W p l e (rmD 0) s m args below meth c H locs 0 0 (MQ below (QvM E σ') args s 0 0 (eA E)) (F0 m 71 ls []) := by
  obtain ⟨⟨hx, hb, hml, hown, hts⟩, hr, hlocks, hF, hAd⟩ := id C0
  unfold X9_collect_b71 at h
  refine lv_iinc (v := v2 + 1) (lv' := [(2, .int (v2 + 1)), (0, .ref (ea E k0)), (1, .int v1)]) hx hb dX9_collect_71 hl (k := 2) rfl rfl (by decide) rfl (fun ls hl => ?_)
  refine lv_goto (tgt := 14) hx hb dX9_collect_74 (by decide) ?_
  exact hK14 k0 v1 (v2 + 1) hk0 _ _ _ _ hH (lv_sub hl [1, 2, 0] rfl) h
set_option maxRecDepth 100000 in
set_option maxHeartbeats 4000000 in
theorem w_X9_collect_b14 {σ' : Mem} (C0 : Cx E p m c cX9_collect 3 s args RX9 meth (none)) (K14 : Nat → Int32 → Int32 → Mem → Option Mem) (hK14 : ∀ (k0 : Nat) (v1 : Int32) (v2 : Int32) (hk0 : kd k0 = 9) (σ : Mem) (H : Heap) (locs : List Loc) (ls : Array Slot), Hs E s σ H locs → lv_has ls 3 [(0, .ref (ea E k0)), (1, .int v1), (2, .int v2)] → K14 k0 v1 v2 σ = some σ' → W p l e (rmD 0) s m args below meth c H locs 0 0 (MQ below (QvM E σ') args s 0 0 (eA E)) (F0 m 14 ls []))  (k0 : Nat) (v1 : Int32) (v2 : Int32) (hk0 : kd k0 = 9) {σ : Mem} {H : Heap} {locs : List Loc} {ls : Array Slot} (hH : Hs E s σ H locs) (hl : lv_has ls 3 [(0, .ref (ea E k0)), (1, .int v1), (2, .int v2)]) (h : X9_collect_b14 K14 k0 v1 v2 σ = some σ') : W p l e (rmD 0) s m args below meth c H locs 0 0 (MQ below (QvM E σ') args s 0 0 (eA E)) (F0 m 14 ls []) := by
  obtain ⟨⟨hx, hb, hml, hown, hts⟩, hr, hlocks, hF, hAd⟩ := id C0
  unfold X9_collect_b14 at h
  refine lv_iload_n hx hb dX9_collect_14 rfl (lv_at hl 2 rfl) ?_
  refine lv_iload_n hx hb dX9_collect_15 rfl (lv_at hl 1 rfl) ?_
  refine lv_icmp_ge (tgt := 77) hx hb dX9_collect_16 (by decide) (fun c1 => ?_) (fun c1 => ?_)
  · replace h := if_t h c1
    exact r_vret C0 hH (Option.some.inj h) dX9_collect_77
  · replace h := if_f h c1
    refine lv_aload_n hx hb dX9_collect_19 rfl (lv_at hl 0 rfl) ?_
    refine gf_X9_24 C0 hH hk0 dX9_collect_20 ?_
    refine lv_iload_n hx hb dX9_collect_23 rfl (lv_at hl 2 rfl) ?_
    refine lv_aload_n hx hb dX9_collect_24 rfl (lv_at hl 0 rfl) ?_
    refine gf_X9_27 C0 hH hk0 dX9_collect_25 ?_
    obtain ⟨b2, h⟩ := gdx_s h
    refine r_iast C0 hH (n := 10) (kf_9_4 hk0) b2 dX9_collect_28 (fun H locs hH => ?_)
    refine lv_aload_n hx hb dX9_collect_29 rfl (lv_at hl 0 rfl) ?_
    refine gf_X9_18 C0 hH hk0 dX9_collect_30 ?_
    refine lv_aload_n hx hb dX9_collect_33 rfl (lv_at hl 0 rfl) ?_
    refine gf_X9_21 C0 hH hk0 dX9_collect_34 ?_
    refine lv_aload_n hx hb dX9_collect_37 rfl (lv_at hl 0 rfl) ?_
    obtain ⟨σ3, eσ3, h⟩ := letv_s h
    replace hH := hs_of eσ3 hH
    refine gf_X9_27 C0 hH hk0 dX9_collect_38 ?_
    obtain ⟨b4, h⟩ := gdx_s h
    refine r_iald C0 hH (n := 11) (kf_9_3 hk0) b4 dX9_collect_41 ?_
    obtain ⟨b5, h⟩ := gdx_s h
    refine r_iald C0 hH (n := 10) (kf_9_2 hk0) b5 dX9_collect_42 ?_
    refine lv_iload_n hx hb dX9_collect_43 rfl (lv_at hl 2 rfl) ?_
    refine lv_iconst (v := 1) hx hb dX9_collect_44 (by decide) ?_
    refine lv_iadd hx hb dX9_collect_45 ?_
    refine lv_icmp_ne (tgt := 71) hx hb dX9_collect_46 (by decide) (fun c6 => ?_) (fun c6 => ?_)
    · replace h := if_f h c6
      exact w_X9_collect_b71 C0 K14 hK14 k0 v1 v2 hk0 hH (lv_sub hl [0, 1, 2] rfl) h
    · replace h := if_t h c6
      refine lv_aload_n hx hb dX9_collect_49 rfl (lv_at hl 0 rfl) ?_
      refine lv_dup hx hb dX9_collect_50 rfl ?_
      refine gf_X9_27 C0 hH hk0 dX9_collect_51 ?_
      refine lv_iconst (v := 1) hx hb dX9_collect_54 (by decide) ?_
      refine lv_iadd hx hb dX9_collect_55 ?_
      refine pf_X9_27 C0 hH hk0 dX9_collect_56 (fun H locs hH => ?_)
      refine lv_aload_n hx hb dX9_collect_59 rfl (lv_at hl 0 rfl) ?_
      refine gf_X9_21 C0 hH hk0 dX9_collect_60 ?_
      refine lv_aload_n hx hb dX9_collect_63 rfl (lv_at hl 0 rfl) ?_
      obtain ⟨σ7, eσ7, h⟩ := letv_s h
      replace hH := hs_of eσ7 hH
      refine gf_X9_27 C0 hH hk0 dX9_collect_64 ?_
      refine lv_iload_n hx hb dX9_collect_67 rfl (lv_at hl 2 rfl) ?_
      refine lv_iconst (v := 1) hx hb dX9_collect_68 (by decide) ?_
      refine lv_iadd hx hb dX9_collect_69 ?_
      obtain ⟨b8, h⟩ := gdx_s h
      refine r_iast C0 hH (n := 11) (kf_9_3 hk0) b8 dX9_collect_70 (fun H locs hH => ?_)
      exact w_X9_collect_b71 C0 K14 hK14 k0 v1 v2 hk0 hH (lv_sub hl [0, 1, 2] rfl) h
set_option maxRecDepth 100000 in
set_option maxHeartbeats 4000000 in
theorem w_X9_collect_l14 {σ' : Mem} (C0 : Cx E p m c cX9_collect 3 s args RX9 meth (none))  (n : Nat) : ∀ (k0 : Nat) (v1 : Int32) (v2 : Int32) (hk0 : kd k0 = 9) (σ : Mem) (H : Heap) (locs : List Loc) (ls : Array Slot), Hs E s σ H locs → lv_has ls 3 [(0, .ref (ea E k0)), (1, .int v1), (2, .int v2)] → X9_collect_l14 n k0 v1 v2 σ = some σ' → W p l e (rmD 0) s m args below meth c H locs 0 0 (MQ below (QvM E σ') args s 0 0 (eA E)) (F0 m 14 ls []) := by
  induction n with
  | zero =>
    intro k0 v1 v2 hk0 σ H locs ls hH hl h
    cases h
  | succ n ih =>
    intro k0 v1 v2 hk0 σ H locs ls hH hl h
    exact w_X9_collect_b14 C0 (X9_collect_l14 n)  ih k0 v1 v2 hk0 hH hl h
set_option maxRecDepth 100000 in
set_option maxHeartbeats 4000000 in
theorem w_X9_collect_b0 {σ' : Mem} (C0 : Cx E p m c cX9_collect 3 s args RX9 meth (none))  (k0 : Nat) (v1 : Int32) (hk0 : kd k0 = 9) {σ : Mem} {H : Heap} {locs : List Loc} {ls : Array Slot} (hH : Hs E s σ H locs) (hl : lv_has ls 3 [(0, .ref (ea E k0)), (1, .int v1)]) (h : X9_collect_b0 k0 v1 σ = some σ') : W p l e (rmD 0) s m args below meth c H locs 0 0 (MQ below (QvM E σ') args s 0 0 (eA E)) (F0 m 0 ls []) := by
  obtain ⟨⟨hx, hb, hml, hown, hts⟩, hr, hlocks, hF, hAd⟩ := id C0
  unfold X9_collect_b0 at h
  refine lv_aload_n hx hb dX9_collect_0 rfl (lv_at hl 0 rfl) ?_
  refine lv_iconst (v := 0) hx hb dX9_collect_1 (by decide) ?_
  refine pf_X9_27 C0 hH hk0 dX9_collect_2 (fun H locs hH => ?_)
  refine lv_aload_n hx hb dX9_collect_5 rfl (lv_at hl 0 rfl) ?_
  refine gf_X9_21 C0 hH hk0 dX9_collect_6 ?_
  refine lv_iconst (v := 0) hx hb dX9_collect_9 (by decide) ?_
  refine lv_iconst (v := 0) hx hb dX9_collect_10 (by decide) ?_
  obtain ⟨σ1, eσ1, h⟩ := letv_s h
  replace hH := hs_of eσ1 hH
  refine r_iast C0 hH (n := 11) (kf_9_3 hk0) (vin (by decide)) dX9_collect_11 (fun H locs hH => ?_)
  refine lv_iconst (v := 0) hx hb dX9_collect_12 (by decide) ?_
  refine lv_istore_n (lv' := [(2, .int 0), (0, .ref (ea E k0)), (1, .int v1)]) hx hb dX9_collect_13 rfl hl (by decide) rfl (fun ls hl => ?_)
  exact w_X9_collect_l14 C0  FU k0 v1 0 hk0 _ _ _ _ hH (lv_sub hl [1, 2, 0] rfl) h
theorem c_X9_collect {l : Launch} {E : EnvT} (hAd : Ad E) (k0 : Nat) (v1 : Int32) (hk0 : kd k0 = 9) (σ : Mem) {σ' : Mem} (h : X9_collect k0 v1 σ = some σ') : Met l yX9_collect (wsM yX9_collect cX9_collect 3 (none)) (rmD 0) (PcM E [.ref (ea E k0), .int v1] σ) (QvM E σ') 0 0 (eA E) :=
  Met.ofM (by decide) (Nat.le_of_ble_eq_true rfl) (fun p e s m below meth c ls C0 hH hl => w_X9_collect_b0 C0 k0 v1 hk0 hH hl h) hAd
set_option maxRecDepth 100000 in
set_option maxHeartbeats 4000000 in
theorem w_X9_weigh_b155 {σ' : Mem} (C0 : Cx E p m c cX9_weigh 10 s args RX9 meth (none)) (K6 : Nat → Nat → Int32 → Int32 → Int32 → Int32 → Mem → Option Mem) (hK6 : ∀ (k0 : Nat) (k1 : Nat) (v2 : Int32) (v3 : Int32) (v4 : Int32) (v5 : Int32) (hk0 : kd k0 = 9) (hk1 : kd k1 = 5) (σ : Mem) (H : Heap) (locs : List Loc) (ls : Array Slot), Hs E s σ H locs → lv_has ls 10 [(0, .ref (ea E k0)), (1, .ref (ea E k1)), (2, .int v2), (3, .int v3), (4, .int v4), (5, .int v5)] → K6 k0 k1 v2 v3 v4 v5 σ = some σ' → W p l e (rmD 1) s m args below meth c H locs 0 0 (MQ below (QvM E σ') args s 0 0 (eA E)) (F0 m 6 ls []))  (k0 : Nat) (k1 : Nat) (v2 : Int32) (v3 : Int32) (v4 : Int32) (v5 : Int32) (hk0 : kd k0 = 9) (hk1 : kd k1 = 5) {σ : Mem} {H : Heap} {locs : List Loc} {ls : Array Slot} (hH : Hs E s σ H locs) (hl : lv_has ls 10 [(0, .ref (ea E k0)), (1, .ref (ea E k1)), (2, .int v2), (3, .int v3), (4, .int v4), (5, .int v5)]) (h : X9_weigh_b155 K6 k0 k1 v2 v3 v4 v5 σ = some σ') : W p l e (rmD 1) s m args below meth c H locs 0 0 (MQ below (QvM E σ') args s 0 0 (eA E)) (F0 m 155 ls []) := by
  obtain ⟨⟨hx, hb, hml, hown, hts⟩, hr, hlocks, hF, hAd⟩ := id C0
  unfold X9_weigh_b155 at h
  refine lv_iinc (v := v5 + 1) (lv' := [(5, .int (v5 + 1)), (0, .ref (ea E k0)), (1, .ref (ea E k1)), (2, .int v2), (3, .int v3), (4, .int v4)]) hx hb dX9_weigh_155 hl (k := 5) rfl rfl (by decide) rfl (fun ls hl => ?_)
  refine lv_goto (tgt := 6) hx hb dX9_weigh_158 (by decide) ?_
  exact hK6 k0 k1 v2 v3 v4 (v5 + 1) hk0 hk1 _ _ _ _ hH (lv_sub hl [1, 2, 3, 4, 5, 0] rfl) h
set_option maxRecDepth 100000 in
set_option maxHeartbeats 4000000 in
theorem w_X9_weigh_b131 {σ' : Mem} (C0 : Cx E p m c cX9_weigh 10 s args RX9 meth (none)) (K6 : Nat → Nat → Int32 → Int32 → Int32 → Int32 → Mem → Option Mem) (hK6 : ∀ (k0 : Nat) (k1 : Nat) (v2 : Int32) (v3 : Int32) (v4 : Int32) (v5 : Int32) (hk0 : kd k0 = 9) (hk1 : kd k1 = 5) (σ : Mem) (H : Heap) (locs : List Loc) (ls : Array Slot), Hs E s σ H locs → lv_has ls 10 [(0, .ref (ea E k0)), (1, .ref (ea E k1)), (2, .int v2), (3, .int v3), (4, .int v4), (5, .int v5)] → K6 k0 k1 v2 v3 v4 v5 σ = some σ' → W p l e (rmD 1) s m args below meth c H locs 0 0 (MQ below (QvM E σ') args s 0 0 (eA E)) (F0 m 6 ls []))  (k0 : Nat) (k1 : Nat) (v2 : Int32) (v3 : Int32) (v4 : Int32) (v5 : Int32) (v6 : Int32) (v7 : Int32) (v8 : Int32) (hk0 : kd k0 = 9) (hk1 : kd k1 = 5) {σ : Mem} {H : Heap} {locs : List Loc} {ls : Array Slot} (hH : Hs E s σ H locs) (hl : lv_has ls 10 [(0, .ref (ea E k0)), (1, .ref (ea E k1)), (2, .int v2), (3, .int v3), (4, .int v4), (5, .int v5), (6, .int v6), (7, .int v7), (8, .int v8)]) (h : X9_weigh_b131 K6 k0 k1 v2 v3 v4 v5 v6 v7 v8 σ = some σ') : W p l e (rmD 1) s m args below meth c H locs 0 0 (MQ below (QvM E σ') args s 0 0 (eA E)) (F0 m 131 ls []) := by
  obtain ⟨⟨hx, hb, hml, hown, hts⟩, hr, hlocks, hF, hAd⟩ := id C0
  unfold X9_weigh_b131 at h
  refine lv_aload_n hx hb dX9_weigh_131 rfl (lv_at hl 0 rfl) ?_
  refine gf_X9_9 C0 hH hk0 dX9_weigh_132 ?_
  refine lv_iload_n hx hb dX9_weigh_135 rfl (lv_at hl 3 rfl) ?_
  refine lv_iload hx hb dX9_weigh_136 (lv_at hl 7 rfl) ?_
  obtain ⟨b1, h⟩ := gdx_s h
  refine r_iast C0 hH (n := 11) (kf_9_0 hk0) b1 dX9_weigh_138 (fun H locs hH => ?_)
  refine lv_aload_n hx hb dX9_weigh_139 rfl (lv_at hl 0 rfl) ?_
  refine gf_X9_15 C0 hH hk0 dX9_weigh_140 ?_
  refine lv_iload_n hx hb dX9_weigh_143 rfl (lv_at hl 3 rfl) ?_
  refine lv_iload hx hb dX9_weigh_144 (lv_at hl 8 rfl) ?_
  obtain ⟨σ2, eσ2, h⟩ := letv_s h
  replace hH := hs_of eσ2 hH
  obtain ⟨b3, h⟩ := gdx_s h
  refine r_iast C0 hH (n := 11) (kf_9_1 hk0) b3 dX9_weigh_146 (fun H locs hH => ?_)
  refine lv_aload_n hx hb dX9_weigh_147 rfl (lv_at hl 0 rfl) ?_
  refine gf_X9_18 C0 hH hk0 dX9_weigh_148 ?_
  refine lv_iload_n hx hb dX9_weigh_151 rfl (lv_at hl 3 rfl) ?_
  refine lv_iload hx hb dX9_weigh_152 (lv_at hl 6 rfl) ?_
  obtain ⟨σ4, eσ4, h⟩ := letv_s h
  replace hH := hs_of eσ4 hH
  obtain ⟨b5, h⟩ := gdx_s h
  refine r_iast C0 hH (n := 10) (kf_9_2 hk0) b5 dX9_weigh_154 (fun H locs hH => ?_)
  exact w_X9_weigh_b155 C0 K6 hK6 k0 k1 v2 v3 v4 v5 hk0 hk1 hH (lv_sub hl [0, 1, 2, 3, 4, 5] rfl) h
set_option maxRecDepth 100000 in
set_option maxHeartbeats 4000000 in
theorem w_X9_weigh_b118 {σ' : Mem} (C0 : Cx E p m c cX9_weigh 10 s args RX9 meth (none)) (K6 : Nat → Nat → Int32 → Int32 → Int32 → Int32 → Mem → Option Mem) (hK6 : ∀ (k0 : Nat) (k1 : Nat) (v2 : Int32) (v3 : Int32) (v4 : Int32) (v5 : Int32) (hk0 : kd k0 = 9) (hk1 : kd k1 = 5) (σ : Mem) (H : Heap) (locs : List Loc) (ls : Array Slot), Hs E s σ H locs → lv_has ls 10 [(0, .ref (ea E k0)), (1, .ref (ea E k1)), (2, .int v2), (3, .int v3), (4, .int v4), (5, .int v5)] → K6 k0 k1 v2 v3 v4 v5 σ = some σ' → W p l e (rmD 1) s m args below meth c H locs 0 0 (MQ below (QvM E σ') args s 0 0 (eA E)) (F0 m 6 ls []))  (k0 : Nat) (k1 : Nat) (v2 : Int32) (v3 : Int32) (v4 : Int32) (v5 : Int32) (v6 : Int32) (v7 : Int32) (v8 : Int32) (s0 : Int32) (hk0 : kd k0 = 9) (hk1 : kd k1 = 5) {σ : Mem} {H : Heap} {locs : List Loc} {ls : Array Slot} (hH : Hs E s σ H locs) (hl : lv_has ls 10 [(0, .ref (ea E k0)), (1, .ref (ea E k1)), (2, .int v2), (3, .int v3), (4, .int v4), (5, .int v5), (6, .int v6), (7, .int v7), (8, .int v8)]) (h : X9_weigh_b118 K6 k0 k1 v2 v3 v4 v5 v6 v7 v8 s0 σ = some σ') : W p l e (rmD 1) s m args below meth c H locs 0 0 (MQ below (QvM E σ') args s 0 0 (eA E)) (F0 m 118 ls [.int s0]) := by
  obtain ⟨⟨hx, hb, hml, hown, hts⟩, hr, hlocks, hF, hAd⟩ := id C0
  unfold X9_weigh_b118 at h
  refine lv_istore (lv' := [(9, .int s0), (0, .ref (ea E k0)), (1, .ref (ea E k1)), (2, .int v2), (3, .int v3), (4, .int v4), (5, .int v5), (6, .int v6), (7, .int v7), (8, .int v8)]) hx hb dX9_weigh_118 hl (by decide) rfl (fun ls hl => ?_)
  refine lv_iload hx hb dX9_weigh_120 (lv_at hl 6 rfl) ?_
  refine lv_iload_n hx hb dX9_weigh_122 rfl (lv_at hl 4 rfl) ?_
  refine lv_icmp_eq (tgt := 131) hx hb dX9_weigh_123 (by decide) (fun c1 => ?_) (fun c1 => ?_)
  · replace h := if_t h c1
    exact w_X9_weigh_b131 C0 K6 hK6 k0 k1 v2 v3 v4 v5 v6 v7 v8 hk0 hk1 hH (lv_sub hl [1, 2, 3, 4, 5, 6, 7, 8, 9] rfl) h
  · replace h := if_f h c1
    refine lv_iload hx hb dX9_weigh_126 (lv_at hl 0 rfl) ?_
    refine lv_if_eq (tgt := 155) hx hb dX9_weigh_128 (by decide) (fun c2 => ?_) (fun c2 => ?_)
    · replace h := if_t h c2
      exact w_X9_weigh_b155 C0 K6 hK6 k0 k1 v2 v3 v4 v5 hk0 hk1 hH (lv_sub hl [1, 2, 3, 4, 5, 6] rfl) h
    · replace h := if_f h c2
      exact w_X9_weigh_b131 C0 K6 hK6 k0 k1 v2 v3 v4 v5 v6 v7 v8 hk0 hk1 hH (lv_sub hl [1, 2, 3, 4, 5, 6, 7, 8, 9] rfl) h
set_option maxRecDepth 100000 in
set_option maxHeartbeats 4000000 in
theorem w_X9_weigh_b113 {σ' : Mem} (C0 : Cx E p m c cX9_weigh 10 s args RX9 meth (none)) (K6 : Nat → Nat → Int32 → Int32 → Int32 → Int32 → Mem → Option Mem) (hK6 : ∀ (k0 : Nat) (k1 : Nat) (v2 : Int32) (v3 : Int32) (v4 : Int32) (v5 : Int32) (hk0 : kd k0 = 9) (hk1 : kd k1 = 5) (σ : Mem) (H : Heap) (locs : List Loc) (ls : Array Slot), Hs E s σ H locs → lv_has ls 10 [(0, .ref (ea E k0)), (1, .ref (ea E k1)), (2, .int v2), (3, .int v3), (4, .int v4), (5, .int v5)] → K6 k0 k1 v2 v3 v4 v5 σ = some σ' → W p l e (rmD 1) s m args below meth c H locs 0 0 (MQ below (QvM E σ') args s 0 0 (eA E)) (F0 m 6 ls []))  (k0 : Nat) (k1 : Nat) (v2 : Int32) (v3 : Int32) (v4 : Int32) (v5 : Int32) (v6 : Int32) (v7 : Int32) (v8 : Int32) (hk0 : kd k0 = 9) (hk1 : kd k1 = 5) {σ : Mem} {H : Heap} {locs : List Loc} {ls : Array Slot} (hH : Hs E s σ H locs) (hl : lv_has ls 10 [(0, .ref (ea E k0)), (1, .ref (ea E k1)), (2, .int v2), (3, .int v3), (4, .int v4), (5, .int v5), (6, .int v6), (7, .int v7), (8, .int v8)]) (h : X9_weigh_b113 K6 k0 k1 v2 v3 v4 v5 v6 v7 v8 σ = some σ') : W p l e (rmD 1) s m args below meth c H locs 0 0 (MQ below (QvM E σ') args s 0 0 (eA E)) (F0 m 113 ls []) := by
  obtain ⟨⟨hx, hb, hml, hown, hts⟩, hr, hlocks, hF, hAd⟩ := id C0
  unfold X9_weigh_b113 at h
  refine lv_iconst (v := 1) hx hb dX9_weigh_113 (by decide) ?_
  refine lv_goto (tgt := 118) hx hb dX9_weigh_114 (by decide) ?_
  exact w_X9_weigh_b118 C0 K6 hK6 k0 k1 v2 v3 v4 v5 v6 v7 v8 1 hk0 hk1 hH (lv_sub hl [0, 1, 2, 3, 4, 5, 6, 7, 8] rfl) h
set_option maxRecDepth 100000 in
set_option maxHeartbeats 4000000 in
theorem w_X9_weigh_b117 {σ' : Mem} (C0 : Cx E p m c cX9_weigh 10 s args RX9 meth (none)) (K6 : Nat → Nat → Int32 → Int32 → Int32 → Int32 → Mem → Option Mem) (hK6 : ∀ (k0 : Nat) (k1 : Nat) (v2 : Int32) (v3 : Int32) (v4 : Int32) (v5 : Int32) (hk0 : kd k0 = 9) (hk1 : kd k1 = 5) (σ : Mem) (H : Heap) (locs : List Loc) (ls : Array Slot), Hs E s σ H locs → lv_has ls 10 [(0, .ref (ea E k0)), (1, .ref (ea E k1)), (2, .int v2), (3, .int v3), (4, .int v4), (5, .int v5)] → K6 k0 k1 v2 v3 v4 v5 σ = some σ' → W p l e (rmD 1) s m args below meth c H locs 0 0 (MQ below (QvM E σ') args s 0 0 (eA E)) (F0 m 6 ls []))  (k0 : Nat) (k1 : Nat) (v2 : Int32) (v3 : Int32) (v4 : Int32) (v5 : Int32) (v6 : Int32) (v7 : Int32) (v8 : Int32) (hk0 : kd k0 = 9) (hk1 : kd k1 = 5) {σ : Mem} {H : Heap} {locs : List Loc} {ls : Array Slot} (hH : Hs E s σ H locs) (hl : lv_has ls 10 [(0, .ref (ea E k0)), (1, .ref (ea E k1)), (2, .int v2), (3, .int v3), (4, .int v4), (5, .int v5), (6, .int v6), (7, .int v7), (8, .int v8)]) (h : X9_weigh_b117 K6 k0 k1 v2 v3 v4 v5 v6 v7 v8 σ = some σ') : W p l e (rmD 1) s m args below meth c H locs 0 0 (MQ below (QvM E σ') args s 0 0 (eA E)) (F0 m 117 ls []) := by
  obtain ⟨⟨hx, hb, hml, hown, hts⟩, hr, hlocks, hF, hAd⟩ := id C0
  unfold X9_weigh_b117 at h
  refine lv_iconst (v := 0) hx hb dX9_weigh_117 (by decide) ?_
  exact w_X9_weigh_b118 C0 K6 hK6 k0 k1 v2 v3 v4 v5 v6 v7 v8 0 hk0 hk1 hH (lv_sub hl [0, 1, 2, 3, 4, 5, 6, 7, 8] rfl) h
set_option maxRecDepth 100000 in
set_option maxHeartbeats 4000000 in
theorem w_X9_weigh_b66 {σ' : Mem} (C0 : Cx E p m c cX9_weigh 10 s args RX9 meth (none)) (K6 : Nat → Nat → Int32 → Int32 → Int32 → Int32 → Mem → Option Mem) (hK6 : ∀ (k0 : Nat) (k1 : Nat) (v2 : Int32) (v3 : Int32) (v4 : Int32) (v5 : Int32) (hk0 : kd k0 = 9) (hk1 : kd k1 = 5) (σ : Mem) (H : Heap) (locs : List Loc) (ls : Array Slot), Hs E s σ H locs → lv_has ls 10 [(0, .ref (ea E k0)), (1, .ref (ea E k1)), (2, .int v2), (3, .int v3), (4, .int v4), (5, .int v5)] → K6 k0 k1 v2 v3 v4 v5 σ = some σ' → W p l e (rmD 1) s m args below meth c H locs 0 0 (MQ below (QvM E σ') args s 0 0 (eA E)) (F0 m 6 ls []))  (k0 : Nat) (k1 : Nat) (v2 : Int32) (v3 : Int32) (v4 : Int32) (v5 : Int32) (v6 : Int32) (s0 : Int32) (s1 : Int32) (hk0 : kd k0 = 9) (hk1 : kd k1 = 5) {σ : Mem} {H : Heap} {locs : List Loc} {ls : Array Slot} (hH : Hs E s σ H locs) (hl : lv_has ls 10 [(0, .ref (ea E k0)), (1, .ref (ea E k1)), (2, .int v2), (3, .int v3), (4, .int v4), (5, .int v5), (6, .int v6)]) (h : X9_weigh_b66 K6 k0 k1 v2 v3 v4 v5 v6 s0 s1 σ = some σ') : W p l e (rmD 1) s m args below meth c H locs 0 0 (MQ below (QvM E σ') args s 0 0 (eA E)) (F0 m 66 ls [.int s1, .int s0]) := by
  obtain ⟨⟨hx, hb, hml, hown, hts⟩, hr, hlocks, hF, hAd⟩ := id C0
  unfold X9_weigh_b66 at h
  refine lv_iadd hx hb dX9_weigh_66 ?_
  obtain ⟨x1, ex1, h⟩ := letv_s h
  refine topi_of ex1 ?_
  refine lv_istore (lv' := [(7, .int x1), (0, .ref (ea E k0)), (1, .ref (ea E k1)), (2, .int v2), (3, .int v3), (4, .int v4), (5, .int v5), (6, .int v6)]) hx hb dX9_weigh_67 hl (by decide) rfl (fun ls hl => ?_)
  refine lv_aload_n hx hb dX9_weigh_69 rfl (lv_at hl 1 rfl) ?_
  refine gf_X9_15 C0 hH hk0 dX9_weigh_70 ?_
  refine lv_iload hx hb dX9_weigh_73 (lv_at hl 7 rfl) ?_
  obtain ⟨b2, h⟩ := gdx_s h
  refine r_iald C0 hH (n := 11) (kf_9_1 hk0) b2 dX9_weigh_75 ?_
  refine lv_iconst (v := 1) hx hb dX9_weigh_76 (by decide) ?_
  refine lv_iadd hx hb dX9_weigh_77 ?_
  obtain ⟨x3, ex3, h⟩ := letv_s h
  refine topi_of ex3 ?_
  refine lv_istore (lv' := [(8, .int x3), (7, .int x1), (0, .ref (ea E k0)), (1, .ref (ea E k1)), (2, .int v2), (3, .int v3), (4, .int v4), (5, .int v5), (6, .int v6)]) hx hb dX9_weigh_78 hl (by decide) rfl (fun ls hl => ?_)
  refine lv_iload hx hb dX9_weigh_80 (lv_at hl 1 rfl) ?_
  refine lv_aload_n hx hb dX9_weigh_82 rfl (lv_at hl 2 rfl) ?_
  refine gf_X9_9 C0 hH hk0 dX9_weigh_83 ?_
  refine lv_iload_n hx hb dX9_weigh_86 rfl (lv_at hl 5 rfl) ?_
  obtain ⟨b4, h⟩ := gdx_s h
  refine r_iald C0 hH (n := 11) (kf_9_0 hk0) b4 dX9_weigh_87 ?_
  refine lv_icmp_lt (tgt := 113) hx hb dX9_weigh_88 (by decide) (fun c5 => ?_) (fun c5 => ?_)
  · replace h := if_t h c5
    exact w_X9_weigh_b113 C0 K6 hK6 k0 k1 v2 v3 v4 v5 v6 x1 x3 hk0 hk1 hH (lv_sub hl [2, 3, 4, 5, 6, 7, 8, 1, 0] rfl) h
  · replace h := if_f h c5
    refine lv_iload hx hb dX9_weigh_91 (lv_at hl 1 rfl) ?_
    refine lv_aload_n hx hb dX9_weigh_93 rfl (lv_at hl 2 rfl) ?_
    refine gf_X9_9 C0 hH hk0 dX9_weigh_94 ?_
    refine lv_iload_n hx hb dX9_weigh_97 rfl (lv_at hl 5 rfl) ?_
    obtain ⟨b6, h⟩ := gdx_s h
    refine r_iald C0 hH (n := 11) (kf_9_0 hk0) b6 dX9_weigh_98 ?_
    refine lv_icmp_ne (tgt := 117) hx hb dX9_weigh_99 (by decide) (fun c7 => ?_) (fun c7 => ?_)
    · replace h := if_f h c7
      exact w_X9_weigh_b117 C0 K6 hK6 k0 k1 v2 v3 v4 v5 v6 x1 x3 hk0 hk1 hH (lv_sub hl [2, 3, 4, 5, 6, 7, 8, 1, 0] rfl) h
    · replace h := if_t h c7
      refine lv_iload hx hb dX9_weigh_102 (lv_at hl 0 rfl) ?_
      refine lv_aload_n hx hb dX9_weigh_104 rfl (lv_at hl 2 rfl) ?_
      refine gf_X9_15 C0 hH hk0 dX9_weigh_105 ?_
      refine lv_iload_n hx hb dX9_weigh_108 rfl (lv_at hl 5 rfl) ?_
      obtain ⟨b8, h⟩ := gdx_s h
      refine r_iald C0 hH (n := 11) (kf_9_1 hk0) b8 dX9_weigh_109 ?_
      refine lv_icmp_ge (tgt := 117) hx hb dX9_weigh_110 (by decide) (fun c9 => ?_) (fun c9 => ?_)
      · replace h := if_t h c9
        exact w_X9_weigh_b117 C0 K6 hK6 k0 k1 v2 v3 v4 v5 v6 x1 x3 hk0 hk1 hH (lv_sub hl [2, 3, 4, 5, 6, 7, 8, 1, 0] rfl) h
      · replace h := if_f h c9
        exact w_X9_weigh_b113 C0 K6 hK6 k0 k1 v2 v3 v4 v5 v6 x1 x3 hk0 hk1 hH (lv_sub hl [2, 3, 4, 5, 6, 7, 8, 1, 0] rfl) h
set_option maxRecDepth 100000 in
set_option maxHeartbeats 4000000 in
theorem w_X9_weigh_b6 {σ' : Mem} (C0 : Cx E p m c cX9_weigh 10 s args RX9 meth (none)) (K6 : Nat → Nat → Int32 → Int32 → Int32 → Int32 → Mem → Option Mem) (hK6 : ∀ (k0 : Nat) (k1 : Nat) (v2 : Int32) (v3 : Int32) (v4 : Int32) (v5 : Int32) (hk0 : kd k0 = 9) (hk1 : kd k1 = 5) (σ : Mem) (H : Heap) (locs : List Loc) (ls : Array Slot), Hs E s σ H locs → lv_has ls 10 [(0, .ref (ea E k0)), (1, .ref (ea E k1)), (2, .int v2), (3, .int v3), (4, .int v4), (5, .int v5)] → K6 k0 k1 v2 v3 v4 v5 σ = some σ' → W p l e (rmD 1) s m args below meth c H locs 0 0 (MQ below (QvM E σ') args s 0 0 (eA E)) (F0 m 6 ls []))  (k0 : Nat) (k1 : Nat) (v2 : Int32) (v3 : Int32) (v4 : Int32) (v5 : Int32) (hk0 : kd k0 = 9) (hk1 : kd k1 = 5) {σ : Mem} {H : Heap} {locs : List Loc} {ls : Array Slot} (hH : Hs E s σ H locs) (hl : lv_has ls 10 [(0, .ref (ea E k0)), (1, .ref (ea E k1)), (2, .int v2), (3, .int v3), (4, .int v4), (5, .int v5)]) (h : X9_weigh_b6 K6 k0 k1 v2 v3 v4 v5 σ = some σ') : W p l e (rmD 1) s m args below meth c H locs 0 0 (MQ below (QvM E σ') args s 0 0 (eA E)) (F0 m 6 ls []) := by
  obtain ⟨⟨hx, hb, hml, hown, hts⟩, hr, hlocks, hF, hAd⟩ := id C0
  unfold X9_weigh_b6 at h
  refine lv_iload hx hb dX9_weigh_6 (lv_at hl 5 rfl) ?_
  refine lv_aload_n hx hb dX9_weigh_8 rfl (lv_at hl 1 rfl) ?_
  refine gf_X9_31 C0 hH hk1 dX9_weigh_9 ?_
  refine lv_icmp_ge (tgt := 161) hx hb dX9_weigh_12 (by decide) (fun c1 => ?_) (fun c1 => ?_)
  · replace h := if_t h c1
    exact r_vret C0 hH (Option.some.inj h) dX9_weigh_161
  · replace h := if_f h c1
    refine lv_iload hx hb dX9_weigh_15 (lv_at hl 5 rfl) ?_
    refine lv_iconst (v := 1) hx hb dX9_weigh_17 (by decide) ?_
    refine lv_iadd hx hb dX9_weigh_18 ?_
    obtain ⟨x2, ex2, h⟩ := letv_s h
    refine topi_of ex2 ?_
    refine lv_istore (lv' := [(6, .int x2), (0, .ref (ea E k0)), (1, .ref (ea E k1)), (2, .int v2), (3, .int v3), (4, .int v4), (5, .int v5)]) hx hb dX9_weigh_19 hl (by decide) rfl (fun ls hl => ?_)
    refine lv_iload hx hb dX9_weigh_21 (lv_at hl 5 rfl) ?_
    refine lv_aload_n hx hb dX9_weigh_23 rfl (lv_at hl 2 rfl) ?_
    refine lv_iload hx hb dX9_weigh_24 (lv_at hl 6 rfl) ?_
    refine lv_iconst (v := 1) hx hb dX9_weigh_26 (by decide) ?_
    refine lv_iload hx hb dX9_weigh_27 (lv_at hl 0 rfl) ?_
    refine lv_ishl hx hb dX9_weigh_29 ?_
    refine lv_iconst (v := 1) hx hb dX9_weigh_30 (by decide) ?_
    refine lv_iload_n hx hb dX9_weigh_31 rfl (lv_at hl 4 rfl) ?_
    refine lv_ishl hx hb dX9_weigh_32 ?_
    refine lv_isub hx hb dX9_weigh_33 ?_
    obtain ⟨r3, qr3, h⟩ := ob_s h
    refine go_i hH (va_run_V (As := [.int v5, .int ((shl 1 x2) - (shl 1 v3))]) (rest := [.int v4]) C0 hH lk_X9_44 (c_X5_furthest hAd k1 v5 ((shl 1 x2) - (shl 1 v3)) hk1 σ qr3) (by decide) (ci := 5) hk1 (by decide) (cob_5 _ _ _) rfl rfl hl.1 rfl (Nat.le_of_ble_eq_true rfl) dX9_weigh_34) (fun H locs hH => ?_)
    refine r_mmax C0 (h := 0) qM_X9_48 hl.1 rfl (Nat.le_of_ble_eq_true rfl) dX9_weigh_37 ?_
    obtain ⟨x4, ex4, h⟩ := letv_s h
    refine topi_of ex4 ?_
    refine lv_istore (lv' := [(4, .int x4), (6, .int x2), (0, .ref (ea E k0)), (1, .ref (ea E k1)), (2, .int v2), (3, .int v3), (5, .int v5)]) hx hb dX9_weigh_40 hl (by decide) rfl (fun ls hl => ?_)
    refine lv_iload hx hb dX9_weigh_42 (lv_at hl 0 rfl) ?_
    refine lv_aload_n hx hb dX9_weigh_44 rfl (lv_at hl 2 rfl) ?_
    refine gf_X9_9 C0 hH hk0 dX9_weigh_45 ?_
    refine lv_iload hx hb dX9_weigh_48 (lv_at hl 1 rfl) ?_
    obtain ⟨b5, h⟩ := gdx_s h
    refine r_iald C0 hH (n := 11) (kf_9_0 hk0) b5 dX9_weigh_50 ?_
    refine lv_iadd hx hb dX9_weigh_51 ?_
    refine lv_iload hx hb dX9_weigh_52 (lv_at hl 1 rfl) ?_
    refine lv_aload_n hx hb dX9_weigh_54 rfl (lv_at hl 3 rfl) ?_
    refine gf_X9_31 C0 hH hk1 dX9_weigh_55 ?_
    refine lv_icmp_ge (tgt := 65) hx hb dX9_weigh_58 (by decide) (fun c6 => ?_) (fun c6 => ?_)
    · replace h := if_t h c6
      refine lv_iconst (v := 0) hx hb dX9_weigh_65 (by decide) ?_
      exact w_X9_weigh_b66 C0 K6 hK6 k0 k1 v2 v3 x4 v5 x2 (x4 + (σ (k0 + 1) (nc x2))) 0 hk0 hk1 hH (lv_sub hl [2, 3, 4, 5, 0, 6, 1] rfl) h
    · replace h := if_f h c6
      refine lv_iload_n hx hb dX9_weigh_61 rfl (lv_at hl 4 rfl) ?_
      refine lv_goto (tgt := 66) hx hb dX9_weigh_62 (by decide) ?_
      exact w_X9_weigh_b66 C0 K6 hK6 k0 k1 v2 v3 x4 v5 x2 (x4 + (σ (k0 + 1) (nc x2))) v2 hk0 hk1 hH (lv_sub hl [2, 3, 4, 5, 0, 6, 1] rfl) h
set_option maxRecDepth 100000 in
set_option maxHeartbeats 4000000 in
theorem w_X9_weigh_l6 {σ' : Mem} (C0 : Cx E p m c cX9_weigh 10 s args RX9 meth (none))  (n : Nat) : ∀ (k0 : Nat) (k1 : Nat) (v2 : Int32) (v3 : Int32) (v4 : Int32) (v5 : Int32) (hk0 : kd k0 = 9) (hk1 : kd k1 = 5) (σ : Mem) (H : Heap) (locs : List Loc) (ls : Array Slot), Hs E s σ H locs → lv_has ls 10 [(0, .ref (ea E k0)), (1, .ref (ea E k1)), (2, .int v2), (3, .int v3), (4, .int v4), (5, .int v5)] → X9_weigh_l6 n k0 k1 v2 v3 v4 v5 σ = some σ' → W p l e (rmD 1) s m args below meth c H locs 0 0 (MQ below (QvM E σ') args s 0 0 (eA E)) (F0 m 6 ls []) := by
  induction n with
  | zero =>
    intro k0 k1 v2 v3 v4 v5 hk0 hk1 σ H locs ls hH hl h
    cases h
  | succ n ih =>
    intro k0 k1 v2 v3 v4 v5 hk0 hk1 σ H locs ls hH hl h
    exact w_X9_weigh_b6 C0 (X9_weigh_l6 n)  ih k0 k1 v2 v3 v4 v5 hk0 hk1 hH hl h
set_option maxRecDepth 100000 in
set_option maxHeartbeats 4000000 in
theorem w_X9_weigh_b0 {σ' : Mem} (C0 : Cx E p m c cX9_weigh 10 s args RX9 meth (none))  (k0 : Nat) (k1 : Nat) (v2 : Int32) (v3 : Int32) (hk0 : kd k0 = 9) (hk1 : kd k1 = 5) {σ : Mem} {H : Heap} {locs : List Loc} {ls : Array Slot} (hH : Hs E s σ H locs) (hl : lv_has ls 10 [(0, .ref (ea E k0)), (1, .ref (ea E k1)), (2, .int v2), (3, .int v3)]) (h : X9_weigh_b0 k0 k1 v2 v3 σ = some σ') : W p l e (rmD 1) s m args below meth c H locs 0 0 (MQ below (QvM E σ') args s 0 0 (eA E)) (F0 m 0 ls []) := by
  obtain ⟨⟨hx, hb, hml, hown, hts⟩, hr, hlocks, hF, hAd⟩ := id C0
  unfold X9_weigh_b0 at h
  refine lv_iconst (v := 0) hx hb dX9_weigh_0 (by decide) ?_
  refine lv_istore (lv' := [(4, .int 0), (0, .ref (ea E k0)), (1, .ref (ea E k1)), (2, .int v2), (3, .int v3)]) hx hb dX9_weigh_1 hl (by decide) rfl (fun ls hl => ?_)
  refine lv_iload_n hx hb dX9_weigh_3 rfl (lv_at hl 4 rfl) ?_
  refine lv_istore (lv' := [(5, .int v3), (4, .int 0), (0, .ref (ea E k0)), (1, .ref (ea E k1)), (2, .int v2), (3, .int v3)]) hx hb dX9_weigh_4 hl (by decide) rfl (fun ls hl => ?_)
  exact w_X9_weigh_l6 C0  FU k0 k1 v2 v3 0 v3 hk0 hk1 _ _ _ _ hH (lv_sub hl [2, 3, 4, 5, 1, 0] rfl) h
theorem c_X9_weigh {l : Launch} {E : EnvT} (hAd : Ad E) (k0 : Nat) (k1 : Nat) (v2 : Int32) (v3 : Int32) (hk0 : kd k0 = 9) (hk1 : kd k1 = 5) (σ : Mem) {σ' : Mem} (h : X9_weigh k0 k1 v2 v3 σ = some σ') : Met l yX9_weigh (wsM yX9_weigh cX9_weigh 10 (none)) (rmD 1) (PcM E [.ref (ea E k0), .ref (ea E k1), .int v2, .int v3] σ) (QvM E σ') 0 0 (eA E) :=
  Met.ofM (by decide) (Nat.le_of_ble_eq_true rfl) (fun p e s m below meth c ls C0 hH hl => w_X9_weigh_b0 C0 k0 k1 v2 v3 hk0 hk1 hH hl h) hAd
set_option maxRecDepth 100000 in
set_option maxHeartbeats 4000000 in
theorem w_X9_find_b27 {σ' : Mem} (C0 : Cx E p m c cX9_find 4 s args RX9 meth (none)) (K27 : Nat → Nat → Int32 → Int32 → Mem → Option Mem) (hK27 : ∀ (k0 : Nat) (k1 : Nat) (v2 : Int32) (v3 : Int32) (hk0 : kd k0 = 9) (hk1 : kd k1 = 5) (σ : Mem) (H : Heap) (locs : List Loc) (ls : Array Slot), Hs E s σ H locs → lv_has ls 4 [(0, .ref (ea E k0)), (1, .ref (ea E k1)), (2, .int v2), (3, .int v3)] → K27 k0 k1 v2 v3 σ = some σ' → W p l e (rmD 2) s m args below meth c H locs 0 0 (MQ below (QvM E σ') args s 0 0 (eA E)) (F0 m 27 ls []))  (k0 : Nat) (k1 : Nat) (v2 : Int32) (v3 : Int32) (hk0 : kd k0 = 9) (hk1 : kd k1 = 5) {σ : Mem} {H : Heap} {locs : List Loc} {ls : Array Slot} (hH : Hs E s σ H locs) (hl : lv_has ls 4 [(0, .ref (ea E k0)), (1, .ref (ea E k1)), (2, .int v2), (3, .int v3)]) (h : X9_find_b27 K27 k0 k1 v2 v3 σ = some σ') : W p l e (rmD 2) s m args below meth c H locs 0 0 (MQ below (QvM E σ') args s 0 0 (eA E)) (F0 m 27 ls []) := by
  obtain ⟨⟨hx, hb, hml, hown, hts⟩, hr, hlocks, hF, hAd⟩ := id C0
  unfold X9_find_b27 at h
  refine lv_iload_n hx hb dX9_find_27 rfl (lv_at hl 3 rfl) ?_
  refine lv_if_lt (tgt := 44) hx hb dX9_find_28 (by decide) (fun c1 => ?_) (fun c1 => ?_)
  · replace h := if_t h c1
    refine lv_aload_n hx hb dX9_find_44 rfl (lv_at hl 0 rfl) ?_
    refine lv_aload_n hx hb dX9_find_45 rfl (lv_at hl 1 rfl) ?_
    refine gf_X9_31 C0 hH hk1 dX9_find_46 ?_
    obtain ⟨σ2, qσ2, h⟩ := ob_s h
    refine go_v hH (va_run_V (As := [.int (σ k1 0)]) (rest := []) C0 hH lk_X9_40 (c_X9_collect hAd k0 (σ k1 0) hk0 σ qσ2) (by decide) (ci := 9) hk0 (by decide) (cob_9 _ _ _) rfl rfl hl.1 rfl (Nat.le_of_ble_eq_true rfl) dX9_find_49) (fun H locs hH => ?_)
    exact r_vret C0 hH (Option.some.inj h) dX9_find_52
  · replace h := if_f h c1
    refine lv_aload_n hx hb dX9_find_31 rfl (lv_at hl 0 rfl) ?_
    refine lv_aload_n hx hb dX9_find_32 rfl (lv_at hl 1 rfl) ?_
    refine lv_iload_n hx hb dX9_find_33 rfl (lv_at hl 2 rfl) ?_
    refine lv_iload_n hx hb dX9_find_34 rfl (lv_at hl 3 rfl) ?_
    obtain ⟨σ3, qσ3, h⟩ := ob_s h
    refine go_v hH (va_run_V (As := [.ref (ea E k1), .int v2, .int v3]) (rest := []) C0 hH lk_X9_36 (c_X9_weigh hAd k0 k1 v2 v3 hk0 hk1 σ qσ3) (by decide) (ci := 9) hk0 (by decide) (cob_9 _ _ _) rfl rfl hl.1 rfl (Nat.le_of_ble_eq_true rfl) dX9_find_35) (fun H locs hH => ?_)
    refine lv_iinc (v := v3 + (-1)) (lv' := [(3, .int (v3 + (-1))), (0, .ref (ea E k0)), (1, .ref (ea E k1)), (2, .int v2)]) hx hb dX9_find_38 hl (k := 3) rfl rfl (by decide) rfl (fun ls hl => ?_)
    refine lv_goto (tgt := 27) hx hb dX9_find_41 (by decide) ?_
    exact hK27 k0 k1 v2 (v3 + (-1)) hk0 hk1 _ _ _ _ hH (lv_sub hl [1, 2, 3, 0] rfl) h
set_option maxRecDepth 100000 in
set_option maxHeartbeats 4000000 in
theorem w_X9_find_l27 {σ' : Mem} (C0 : Cx E p m c cX9_find 4 s args RX9 meth (none))  (n : Nat) : ∀ (k0 : Nat) (k1 : Nat) (v2 : Int32) (v3 : Int32) (hk0 : kd k0 = 9) (hk1 : kd k1 = 5) (σ : Mem) (H : Heap) (locs : List Loc) (ls : Array Slot), Hs E s σ H locs → lv_has ls 4 [(0, .ref (ea E k0)), (1, .ref (ea E k1)), (2, .int v2), (3, .int v3)] → X9_find_l27 n k0 k1 v2 v3 σ = some σ' → W p l e (rmD 2) s m args below meth c H locs 0 0 (MQ below (QvM E σ') args s 0 0 (eA E)) (F0 m 27 ls []) := by
  induction n with
  | zero =>
    intro k0 k1 v2 v3 hk0 hk1 σ H locs ls hH hl h
    cases h
  | succ n ih =>
    intro k0 k1 v2 v3 hk0 hk1 σ H locs ls hH hl h
    exact w_X9_find_b27 C0 (X9_find_l27 n)  ih k0 k1 v2 v3 hk0 hk1 hH hl h
set_option maxRecDepth 100000 in
set_option maxHeartbeats 4000000 in
theorem w_X9_find_b0 {σ' : Mem} (C0 : Cx E p m c cX9_find 4 s args RX9 meth (none))  (k0 : Nat) (k1 : Nat) (v2 : Int32) (hk0 : kd k0 = 9) (hk1 : kd k1 = 5) {σ : Mem} {H : Heap} {locs : List Loc} {ls : Array Slot} (hH : Hs E s σ H locs) (hl : lv_has ls 4 [(0, .ref (ea E k0)), (1, .ref (ea E k1)), (2, .int v2)]) (h : X9_find_b0 k0 k1 v2 σ = some σ') : W p l e (rmD 2) s m args below meth c H locs 0 0 (MQ below (QvM E σ') args s 0 0 (eA E)) (F0 m 0 ls []) := by
  obtain ⟨⟨hx, hb, hml, hown, hts⟩, hr, hlocks, hF, hAd⟩ := id C0
  unfold X9_find_b0 at h
  refine lv_aload_n hx hb dX9_find_0 rfl (lv_at hl 0 rfl) ?_
  refine gf_X9_9 C0 hH hk0 dX9_find_1 ?_
  refine lv_aload_n hx hb dX9_find_4 rfl (lv_at hl 1 rfl) ?_
  refine gf_X9_31 C0 hH hk1 dX9_find_5 ?_
  refine lv_iconst (v := 0) hx hb dX9_find_8 (by decide) ?_
  obtain ⟨b1, h⟩ := gdx_s h
  refine r_iast C0 hH (n := 11) (kf_9_0 hk0) b1 dX9_find_9 (fun H locs hH => ?_)
  refine lv_aload_n hx hb dX9_find_10 rfl (lv_at hl 0 rfl) ?_
  refine gf_X9_15 C0 hH hk0 dX9_find_11 ?_
  refine lv_aload_n hx hb dX9_find_14 rfl (lv_at hl 1 rfl) ?_
  obtain ⟨σ2, eσ2, h⟩ := letv_s h
  replace hH := hs_of eσ2 hH
  refine gf_X9_31 C0 hH hk1 dX9_find_15 ?_
  refine lv_iconst (v := 0) hx hb dX9_find_18 (by decide) ?_
  obtain ⟨b3, h⟩ := gdx_s h
  refine r_iast C0 hH (n := 11) (kf_9_1 hk0) b3 dX9_find_19 (fun H locs hH => ?_)
  refine lv_aload_n hx hb dX9_find_20 rfl (lv_at hl 1 rfl) ?_
  obtain ⟨σ4, eσ4, h⟩ := letv_s h
  replace hH := hs_of eσ4 hH
  refine gf_X9_31 C0 hH hk1 dX9_find_21 ?_
  refine lv_iconst (v := 1) hx hb dX9_find_24 (by decide) ?_
  refine lv_isub hx hb dX9_find_25 ?_
  obtain ⟨x5, ex5, h⟩ := letv_s h
  refine topi_of ex5 ?_
  refine lv_istore_n (lv' := [(3, .int x5), (0, .ref (ea E k0)), (1, .ref (ea E k1)), (2, .int v2)]) hx hb dX9_find_26 rfl hl (by decide) rfl (fun ls hl => ?_)
  exact w_X9_find_l27 C0  FU k0 k1 v2 x5 hk0 hk1 _ _ _ _ hH (lv_sub hl [1, 2, 3, 0] rfl) h
theorem c_X9_find {l : Launch} {E : EnvT} (hAd : Ad E) (k0 : Nat) (k1 : Nat) (v2 : Int32) (hk0 : kd k0 = 9) (hk1 : kd k1 = 5) (σ : Mem) {σ' : Mem} (h : X9_find k0 k1 v2 σ = some σ') : Met l yX9_find (wsM yX9_find cX9_find 4 (none)) (rmD 2) (PcM E [.ref (ea E k0), .ref (ea E k1), .int v2] σ) (QvM E σ') 0 0 (eA E) :=
  Met.ofM (by decide) (Nat.le_of_ble_eq_true rfl) (fun p e s m below meth c ls C0 hH hl => w_X9_find_b0 C0 k0 k1 v2 hk0 hk1 hH hl h) hAd
set_option maxRecDepth 100000 in
set_option maxHeartbeats 4000000 in
theorem w_X4_lookAt_b0 {σ' : Mem} (C0 : Cx E p m c cX4_lookAt 2 s args RX4 meth (none))  (k0 : Nat) (k1 : Nat) (hk0 : kd k0 = 4) (hk1 : kd k1 = 2) {σ : Mem} {H : Heap} {locs : List Loc} {ls : Array Slot} (hH : Hs E s σ H locs) (hl : lv_has ls 2 [(0, .ref (ea E k0)), (1, .ref (ea E k1))]) (h : X4_lookAt_b0 k0 k1 σ = some σ') : W p l e (rmD 17) s m args below meth c H locs 0 0 (MQ below (QvM E σ') args s 0 0 (eA E)) (F0 m 0 ls []) := by
  obtain ⟨⟨hx, hb, hml, hown, hts⟩, hr, hlocks, hF, hAd⟩ := id C0
  unfold X4_lookAt_b0 at h
  refine lv_aload_n hx hb dX4_lookAt_0 rfl (lv_at hl 0 rfl) ?_
  refine gf_X4_12 C0 hH hk0 dX4_lookAt_1 ?_
  refine gf_X4_47 C0 hH (kf_4_0 hk0) dX4_lookAt_4 ?_
  refine lv_aload_n hx hb dX4_lookAt_7 rfl (lv_at hl 1 rfl) ?_
  obtain ⟨σ1, qσ1, h⟩ := ob_s h
  refine go_v hH (va_run_V (As := [.ref (ea E k1)]) (rest := []) C0 hH lk_X4_51 (c_X5_survey hAd ((k0 + 1) + 1) k1 (kf_6_0 (kf_4_0 hk0)) hk1 σ qσ1) (by decide) (ci := 5) (kf_6_0 (kf_4_0 hk0)) (by decide) (cob_5 _ _ _) rfl rfl hl.1 rfl (Nat.le_of_ble_eq_true rfl) dX4_lookAt_8) (fun H locs hH => ?_)
  refine lv_aload_n hx hb dX4_lookAt_11 rfl (lv_at hl 0 rfl) ?_
  refine gf_X4_12 C0 hH hk0 dX4_lookAt_12 ?_
  refine lv_aload_n hx hb dX4_lookAt_15 rfl (lv_at hl 1 rfl) ?_
  refine gf_X4_57 C0 hH hk1 dX4_lookAt_16 ?_
  obtain ⟨σ2, qσ2, h⟩ := ob_s h
  refine go_v hH (va_run_V (As := [.int (σ1 k1 1)]) (rest := []) C0 hH lk_X4_62 (c_X6_findFor hAd (k0 + 1) (σ1 k1 1) (kf_4_0 hk0) σ1 qσ2) (by decide) (ci := 6) (kf_4_0 hk0) (by decide) (cob_6 _ _ _) rfl rfl hl.1 rfl (Nat.le_of_ble_eq_true rfl) dX4_lookAt_19) (fun H locs hH => ?_)
  refine lv_aload_n hx hb dX4_lookAt_22 rfl (lv_at hl 0 rfl) ?_
  refine gf_X4_21 C0 hH hk0 dX4_lookAt_23 ?_
  refine lv_aload_n hx hb dX4_lookAt_26 rfl (lv_at hl 0 rfl) ?_
  refine gf_X4_12 C0 hH hk0 dX4_lookAt_27 ?_
  refine gf_X4_47 C0 hH (kf_4_0 hk0) dX4_lookAt_30 ?_
  refine lv_aload_n hx hb dX4_lookAt_33 rfl (lv_at hl 1 rfl) ?_
  refine gf_X4_66 C0 hH hk1 dX4_lookAt_34 ?_
  obtain ⟨σ3, qσ3, h⟩ := ob_s h
  refine go_v hH (va_run_V (As := [.ref (ea E ((k0 + 1) + 1)), .int (σ2 k1 2)]) (rest := []) C0 hH lk_X4_69 (c_X9_find hAd (k0 + 17) ((k0 + 1) + 1) (σ2 k1 2) (kf_4_1 hk0) (kf_6_0 (kf_4_0 hk0)) σ2 qσ3) (by decide) (ci := 9) (kf_4_1 hk0) (by decide) (cob_9 _ _ _) rfl rfl hl.1 rfl (Nat.le_of_ble_eq_true rfl) dX4_lookAt_37) (fun H locs hH => ?_)
  refine lv_aload_n hx hb dX4_lookAt_40 rfl (lv_at hl 0 rfl) ?_
  refine lv_aload_n hx hb dX4_lookAt_41 rfl (lv_at hl 1 rfl) ?_
  refine gf_X4_73 C0 hH hk1 dX4_lookAt_42 ?_
  refine lv_aload_n hx hb dX4_lookAt_45 rfl (lv_at hl 1 rfl) ?_
  refine gf_X4_57 C0 hH hk1 dX4_lookAt_46 ?_
  obtain ⟨σ4, qσ4, h⟩ := ob_s h
  refine go_v hH (va_run_V (As := [.int (σ3 k1 0), .int (σ3 k1 1)]) (rest := []) C0 hH lk_X4_76 (c_X4_join hAd k0 (σ3 k1 0) (σ3 k1 1) hk0 σ3 qσ4) (by decide) (ci := 4) hk0 (by decide) (cob_4 _ _ _) rfl rfl hl.1 rfl (Nat.le_of_ble_eq_true rfl) dX4_lookAt_49) (fun H locs hH => ?_)
  refine lv_aload_n hx hb dX4_lookAt_52 rfl (lv_at hl 0 rfl) ?_
  refine lv_aload_n hx hb dX4_lookAt_53 rfl (lv_at hl 1 rfl) ?_
  refine gf_X4_73 C0 hH hk1 dX4_lookAt_54 ?_
  obtain ⟨σ5, qσ5, h⟩ := ob_s h
  refine go_v hH (va_run_V (As := [.int (σ4 k1 0)]) (rest := []) C0 hH lk_X4_80 (c_X4_doubt hAd k0 (σ4 k1 0) hk0 σ4 qσ5) (by decide) (ci := 4) hk0 (by decide) (cob_4 _ _ _) rfl rfl hl.1 rfl (Nat.le_of_ble_eq_true rfl) dX4_lookAt_57) (fun H locs hH => ?_)
  refine lv_aload_n hx hb dX4_lookAt_60 rfl (lv_at hl 0 rfl) ?_
  refine lv_aload_n hx hb dX4_lookAt_61 rfl (lv_at hl 1 rfl) ?_
  refine gf_X4_73 C0 hH hk1 dX4_lookAt_62 ?_
  obtain ⟨σ6, qσ6, h⟩ := ob_s h
  refine go_v hH (va_run_V (As := [.int (σ5 k1 0)]) (rest := []) C0 hH lk_X4_83 (c_X4_write hAd k0 (σ5 k1 0) hk0 σ5 qσ6) (by decide) (ci := 4) hk0 (by decide) (cob_4 _ _ _) rfl rfl hl.1 rfl (Nat.le_of_ble_eq_true rfl) dX4_lookAt_65) (fun H locs hH => ?_)
  exact r_vret C0 hH (Option.some.inj h) dX4_lookAt_68
theorem c_X4_lookAt {l : Launch} {E : EnvT} (hAd : Ad E) (k0 : Nat) (k1 : Nat) (hk0 : kd k0 = 4) (hk1 : kd k1 = 2) (σ : Mem) {σ' : Mem} (h : X4_lookAt k0 k1 σ = some σ') : Met l yX4_lookAt (wsM yX4_lookAt cX4_lookAt 2 (none)) (rmD 17) (PcM E [.ref (ea E k0), .ref (ea E k1)] σ) (QvM E σ') 0 0 (eA E) :=
  Met.ofM (by decide) (Nat.le_of_ble_eq_true rfl) (fun p e s m below meth c ls C0 hH hl => w_X4_lookAt_b0 C0 k0 k1 hk0 hk1 hH hl h) hAd
end
